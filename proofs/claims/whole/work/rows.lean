section
-- ===== PART A: goes FIRST, ahead of the names: the tables' words, and 'selects' of the private methods out of them =====
/-- a private method of a class that the tables say can be made, by its rows of tables_1 -/
def lw_okq (q : MethodName × Nat) : Prop := (q.1.cls ≠ "java/lang/invoke/MethodHandle" ∧ q.1.cls ≠ "java/lang/invoke/VarHandle") ∧ Cond.instantiable q.1.cls q.2 ∈ tables_1 ∧ Cond.privateMethod q.1 ∈ tables_1 ∧ Cond.instanceMethod q.1 ∈ tables_1
theorem lw_p0 : lw_okq (⟨"PaperRows", "refused", "(I)I"⟩, 13) := ⟨⟨by decide +kernel, by decide +kernel⟩, List.mem_of_getElem? (i := 17) (by decide +kernel), List.mem_of_getElem? (i := 161) (by decide +kernel), List.mem_of_getElem? (i := 162) (by decide +kernel)⟩
theorem lw_p1 : lw_okq (⟨"PaperRows", "canBeReferredTo", "(I)Z"⟩, 13) := ⟨⟨by decide +kernel, by decide +kernel⟩, List.mem_of_getElem? (i := 17) (by decide +kernel), List.mem_of_getElem? (i := 165) (by decide +kernel), List.mem_of_getElem? (i := 166) (by decide +kernel)⟩
theorem lw_p2 : lw_okq (⟨"PaperRows", "tell", "(LPaperRows$Row;)V"⟩, 13) := ⟨⟨by decide +kernel, by decide +kernel⟩, List.mem_of_getElem? (i := 17) (by decide +kernel), List.mem_of_getElem? (i := 225) (by decide +kernel), List.mem_of_getElem? (i := 226) (by decide +kernel)⟩
theorem lw_p3 : lw_okq (⟨"PaperRows", "answered", "(I)I"⟩, 13) := ⟨⟨by decide +kernel, by decide +kernel⟩, List.mem_of_getElem? (i := 17) (by decide +kernel), List.mem_of_getElem? (i := 240) (by decide +kernel), List.mem_of_getElem? (i := 241) (by decide +kernel)⟩
theorem lw_p4 : lw_okq (⟨"PaperRows$Tape", "addByte", "(I)V"⟩, 2) := ⟨⟨by decide +kernel, by decide +kernel⟩, List.mem_of_getElem? (i := 54) (by decide +kernel), List.mem_of_getElem? (i := 287) (by decide +kernel), List.mem_of_getElem? (i := 288) (by decide +kernel)⟩
theorem lw_p5 : lw_okq (⟨"PaperRows$Parser", "advance", "()V"⟩, 4) := ⟨⟨by decide +kernel, by decide +kernel⟩, List.mem_of_getElem? (i := 311) (by decide +kernel), List.mem_of_getElem? (i := 334) (by decide +kernel), List.mem_of_getElem? (i := 335) (by decide +kernel)⟩
theorem lw_p6 : lw_okq (⟨"PaperRows$Parser", "readPart", "(I)Z"⟩, 4) := ⟨⟨by decide +kernel, by decide +kernel⟩, List.mem_of_getElem? (i := 311) (by decide +kernel), List.mem_of_getElem? (i := 348) (by decide +kernel), List.mem_of_getElem? (i := 349) (by decide +kernel)⟩
theorem lw_p7 : lw_okq (⟨"PaperRows$Parser", "tableHere", "()I"⟩, 4) := ⟨⟨by decide +kernel, by decide +kernel⟩, List.mem_of_getElem? (i := 311) (by decide +kernel), List.mem_of_getElem? (i := 352) (by decide +kernel), List.mem_of_getElem? (i := 353) (by decide +kernel)⟩
theorem lw_p8 : lw_okq (⟨"PaperRows$Parser", "isSign", "(C)Z"⟩, 4) := ⟨⟨by decide +kernel, by decide +kernel⟩, List.mem_of_getElem? (i := 311) (by decide +kernel), List.mem_of_getElem? (i := 368) (by decide +kernel), List.mem_of_getElem? (i := 369) (by decide +kernel)⟩
theorem lw_p9 : lw_okq (⟨"PaperRows$Parser", "readItems", "(II)Z"⟩, 4) := ⟨⟨by decide +kernel, by decide +kernel⟩, List.mem_of_getElem? (i := 311) (by decide +kernel), List.mem_of_getElem? (i := 372) (by decide +kernel), List.mem_of_getElem? (i := 373) (by decide +kernel)⟩
theorem lw_p10 : lw_okq (⟨"PaperRows$Parser", "readItem", "(II)Z"⟩, 4) := ⟨⟨by decide +kernel, by decide +kernel⟩, List.mem_of_getElem? (i := 311) (by decide +kernel), List.mem_of_getElem? (i := 376) (by decide +kernel), List.mem_of_getElem? (i := 377) (by decide +kernel)⟩
theorem lw_p11 : lw_okq (⟨"PaperRows$Parser", "isWord", "(Ljava/lang/String;)Z"⟩, 4) := ⟨⟨by decide +kernel, by decide +kernel⟩, List.mem_of_getElem? (i := 311) (by decide +kernel), List.mem_of_getElem? (i := 381) (by decide +kernel), List.mem_of_getElem? (i := 382) (by decide +kernel)⟩
theorem lw_p12 : lw_okq (⟨"PaperRows$Parser", "referenceHere", "()I"⟩, 4) := ⟨⟨by decide +kernel, by decide +kernel⟩, List.mem_of_getElem? (i := 311) (by decide +kernel), List.mem_of_getElem? (i := 439) (by decide +kernel), List.mem_of_getElem? (i := 440) (by decide +kernel)⟩
theorem lw_p13 : lw_okq (⟨"PaperRows$Parser", "isAtEnd", "()Z"⟩, 4) := ⟨⟨by decide +kernel, by decide +kernel⟩, List.mem_of_getElem? (i := 311) (by decide +kernel), List.mem_of_getElem? (i := 443) (by decide +kernel), List.mem_of_getElem? (i := 444) (by decide +kernel)⟩
theorem lw_p14 : lw_okq (⟨"PaperRows$Paper", "addPart", "(LPaperRows$Shape;LPaperRows$Rows;ILPaperRows$Row;I)V"⟩, 3) := ⟨⟨by decide +kernel, by decide +kernel⟩, List.mem_of_getElem? (i := 98) (by decide +kernel), List.mem_of_getElem? (i := 471) (by decide +kernel), List.mem_of_getElem? (i := 472) (by decide +kernel)⟩
theorem lw_p15 : lw_okq (⟨"PaperRows$Paper", "isFull", "()Z"⟩, 3) := ⟨⟨by decide +kernel, by decide +kernel⟩, List.mem_of_getElem? (i := 98) (by decide +kernel), List.mem_of_getElem? (i := 475) (by decide +kernel), List.mem_of_getElem? (i := 476) (by decide +kernel)⟩
def lw_privs_1 : List (MethodName × Nat) := [(⟨"PaperRows", "refused", "(I)I"⟩, 13), (⟨"PaperRows", "canBeReferredTo", "(I)Z"⟩, 13), (⟨"PaperRows", "tell", "(LPaperRows$Row;)V"⟩, 13), (⟨"PaperRows", "answered", "(I)I"⟩, 13), (⟨"PaperRows$Tape", "addByte", "(I)V"⟩, 2), (⟨"PaperRows$Parser", "advance", "()V"⟩, 4), (⟨"PaperRows$Parser", "readPart", "(I)Z"⟩, 4), (⟨"PaperRows$Parser", "tableHere", "()I"⟩, 4), (⟨"PaperRows$Parser", "isSign", "(C)Z"⟩, 4), (⟨"PaperRows$Parser", "readItems", "(II)Z"⟩, 4), (⟨"PaperRows$Parser", "readItem", "(II)Z"⟩, 4), (⟨"PaperRows$Parser", "isWord", "(Ljava/lang/String;)Z"⟩, 4), (⟨"PaperRows$Parser", "referenceHere", "()I"⟩, 4), (⟨"PaperRows$Parser", "isAtEnd", "()Z"⟩, 4), (⟨"PaperRows$Paper", "addPart", "(LPaperRows$Shape;LPaperRows$Rows;ILPaperRows$Row;I)V"⟩, 3), (⟨"PaperRows$Paper", "isFull", "()Z"⟩, 3)]
theorem lw_r1 : ∀ q ∈ lw_privs_1, lw_okq q := List.forall_mem_cons.mpr ⟨lw_p0, List.forall_mem_cons.mpr ⟨lw_p1, List.forall_mem_cons.mpr ⟨lw_p2, List.forall_mem_cons.mpr ⟨lw_p3, List.forall_mem_cons.mpr ⟨lw_p4, List.forall_mem_cons.mpr ⟨lw_p5, List.forall_mem_cons.mpr ⟨lw_p6, List.forall_mem_cons.mpr ⟨lw_p7, List.forall_mem_cons.mpr ⟨lw_p8, List.forall_mem_cons.mpr ⟨lw_p9, List.forall_mem_cons.mpr ⟨lw_p10, List.forall_mem_cons.mpr ⟨lw_p11, List.forall_mem_cons.mpr ⟨lw_p12, List.forall_mem_cons.mpr ⟨lw_p13, List.forall_mem_cons.mpr ⟨lw_p14, List.forall_mem_cons.mpr ⟨lw_p15, fun _ h => absurd h List.not_mem_nil⟩⟩⟩⟩⟩⟩⟩⟩⟩⟩⟩⟩⟩⟩⟩⟩
theorem lw_p16 : lw_okq (⟨"PaperRows$Paper", "add", "(I)V"⟩, 3) := ⟨⟨by decide +kernel, by decide +kernel⟩, List.mem_of_getElem? (i := 98) (by decide +kernel), List.mem_of_getElem? (i := 479) (by decide +kernel), List.mem_of_getElem? (i := 480) (by decide +kernel)⟩
theorem lw_p17 : lw_okq (⟨"PaperRows$Shape", "isItem", "(I)Z"⟩, 7) := ⟨⟨by decide +kernel, by decide +kernel⟩, List.mem_of_getElem? (i := 70) (by decide +kernel), List.mem_of_getElem? (i := 491) (by decide +kernel), List.mem_of_getElem? (i := 492) (by decide +kernel)⟩
theorem lw_p18 : lw_okq (⟨"PaperRows$Paper", "addUp", "(LPaperRows$Shape;LPaperRows$Rows;ILPaperRows$Row;I)V"⟩, 3) := ⟨⟨by decide +kernel, by decide +kernel⟩, List.mem_of_getElem? (i := 98) (by decide +kernel), List.mem_of_getElem? (i := 499) (by decide +kernel), List.mem_of_getElem? (i := 500) (by decide +kernel)⟩
theorem lw_p19 : lw_okq (⟨"PaperRows$Paper", "addDown", "(LPaperRows$Shape;LPaperRows$Rows;ILPaperRows$Row;I)V"⟩, 3) := ⟨⟨by decide +kernel, by decide +kernel⟩, List.mem_of_getElem? (i := 98) (by decide +kernel), List.mem_of_getElem? (i := 515) (by decide +kernel), List.mem_of_getElem? (i := 516) (by decide +kernel)⟩
theorem lw_p20 : lw_okq (⟨"PaperRows", "readerAt", "(I)LPaperRows$Reader;"⟩, 13) := ⟨⟨by decide +kernel, by decide +kernel⟩, List.mem_of_getElem? (i := 17) (by decide +kernel), List.mem_of_getElem? (i := 579) (by decide +kernel), List.mem_of_getElem? (i := 580) (by decide +kernel)⟩
theorem lw_p21 : lw_okq (⟨"PaperRows", "isOtherwiseThen", "(I)Z"⟩, 13) := ⟨⟨by decide +kernel, by decide +kernel⟩, List.mem_of_getElem? (i := 17) (by decide +kernel), List.mem_of_getElem? (i := 631) (by decide +kernel), List.mem_of_getElem? (i := 632) (by decide +kernel)⟩
theorem lw_p22 : lw_okq (⟨"PaperRowsModel", "told", "(I)I"⟩, 55) := ⟨⟨by decide +kernel, by decide +kernel⟩, List.mem_of_getElem? (i := 648) (by decide +kernel), List.mem_of_getElem? (i := 834) (by decide +kernel), List.mem_of_getElem? (i := 835) (by decide +kernel)⟩
theorem lw_p23 : lw_okq (⟨"PaperRowsModel", "isRow", "(I)Z"⟩, 55) := ⟨⟨by decide +kernel, by decide +kernel⟩, List.mem_of_getElem? (i := 648) (by decide +kernel), List.mem_of_getElem? (i := 838) (by decide +kernel), List.mem_of_getElem? (i := 839) (by decide +kernel)⟩
theorem lw_p24 : lw_okq (⟨"PaperRowsModel", "tell", "(IIIIII)V"⟩, 55) := ⟨⟨by decide +kernel, by decide +kernel⟩, List.mem_of_getElem? (i := 648) (by decide +kernel), List.mem_of_getElem? (i := 842) (by decide +kernel), List.mem_of_getElem? (i := 843) (by decide +kernel)⟩
theorem lw_p25 : lw_okq (⟨"PaperRowsModel", "goOne", "(I)V"⟩, 55) := ⟨⟨by decide +kernel, by decide +kernel⟩, List.mem_of_getElem? (i := 648) (by decide +kernel), List.mem_of_getElem? (i := 846) (by decide +kernel), List.mem_of_getElem? (i := 847) (by decide +kernel)⟩
theorem lw_p26 : lw_okq (⟨"PaperRowsModel", "four", "(I)V"⟩, 55) := ⟨⟨by decide +kernel, by decide +kernel⟩, List.mem_of_getElem? (i := 648) (by decide +kernel), List.mem_of_getElem? (i := 870) (by decide +kernel), List.mem_of_getElem? (i := 871) (by decide +kernel)⟩
theorem lw_p27 : lw_okq (⟨"PaperRowsModel", "next", "()V"⟩, 55) := ⟨⟨by decide +kernel, by decide +kernel⟩, List.mem_of_getElem? (i := 648) (by decide +kernel), List.mem_of_getElem? (i := 882) (by decide +kernel), List.mem_of_getElem? (i := 883) (by decide +kernel)⟩
theorem lw_p28 : lw_okq (⟨"PaperRowsModel", "readPart", "()Z"⟩, 55) := ⟨⟨by decide +kernel, by decide +kernel⟩, List.mem_of_getElem? (i := 648) (by decide +kernel), List.mem_of_getElem? (i := 897) (by decide +kernel), List.mem_of_getElem? (i := 898) (by decide +kernel)⟩
theorem lw_p29 : lw_okq (⟨"PaperRowsModel", "must", "(Z)V"⟩, 55) := ⟨⟨by decide +kernel, by decide +kernel⟩, List.mem_of_getElem? (i := 648) (by decide +kernel), List.mem_of_getElem? (i := 902) (by decide +kernel), List.mem_of_getElem? (i := 903) (by decide +kernel)⟩
theorem lw_p30 : lw_okq (⟨"PaperRowsModel", "isSign", "(I)Z"⟩, 55) := ⟨⟨by decide +kernel, by decide +kernel⟩, List.mem_of_getElem? (i := 648) (by decide +kernel), List.mem_of_getElem? (i := 906) (by decide +kernel), List.mem_of_getElem? (i := 907) (by decide +kernel)⟩
theorem lw_p31 : lw_okq (⟨"PaperRowsModel", "readItem", "()Z"⟩, 55) := ⟨⟨by decide +kernel, by decide +kernel⟩, List.mem_of_getElem? (i := 648) (by decide +kernel), List.mem_of_getElem? (i := 910) (by decide +kernel), List.mem_of_getElem? (i := 911) (by decide +kernel)⟩
def lw_privs_2 : List (MethodName × Nat) := [(⟨"PaperRows$Paper", "add", "(I)V"⟩, 3), (⟨"PaperRows$Shape", "isItem", "(I)Z"⟩, 7), (⟨"PaperRows$Paper", "addUp", "(LPaperRows$Shape;LPaperRows$Rows;ILPaperRows$Row;I)V"⟩, 3), (⟨"PaperRows$Paper", "addDown", "(LPaperRows$Shape;LPaperRows$Rows;ILPaperRows$Row;I)V"⟩, 3), (⟨"PaperRows", "readerAt", "(I)LPaperRows$Reader;"⟩, 13), (⟨"PaperRows", "isOtherwiseThen", "(I)Z"⟩, 13), (⟨"PaperRowsModel", "told", "(I)I"⟩, 55), (⟨"PaperRowsModel", "isRow", "(I)Z"⟩, 55), (⟨"PaperRowsModel", "tell", "(IIIIII)V"⟩, 55), (⟨"PaperRowsModel", "goOne", "(I)V"⟩, 55), (⟨"PaperRowsModel", "four", "(I)V"⟩, 55), (⟨"PaperRowsModel", "next", "()V"⟩, 55), (⟨"PaperRowsModel", "readPart", "()Z"⟩, 55), (⟨"PaperRowsModel", "must", "(Z)V"⟩, 55), (⟨"PaperRowsModel", "isSign", "(I)Z"⟩, 55), (⟨"PaperRowsModel", "readItem", "()Z"⟩, 55)]
theorem lw_r2 : ∀ q ∈ lw_privs_2, lw_okq q := List.forall_mem_cons.mpr ⟨lw_p16, List.forall_mem_cons.mpr ⟨lw_p17, List.forall_mem_cons.mpr ⟨lw_p18, List.forall_mem_cons.mpr ⟨lw_p19, List.forall_mem_cons.mpr ⟨lw_p20, List.forall_mem_cons.mpr ⟨lw_p21, List.forall_mem_cons.mpr ⟨lw_p22, List.forall_mem_cons.mpr ⟨lw_p23, List.forall_mem_cons.mpr ⟨lw_p24, List.forall_mem_cons.mpr ⟨lw_p25, List.forall_mem_cons.mpr ⟨lw_p26, List.forall_mem_cons.mpr ⟨lw_p27, List.forall_mem_cons.mpr ⟨lw_p28, List.forall_mem_cons.mpr ⟨lw_p29, List.forall_mem_cons.mpr ⟨lw_p30, List.forall_mem_cons.mpr ⟨lw_p31, fun _ h => absurd h List.not_mem_nil⟩⟩⟩⟩⟩⟩⟩⟩⟩⟩⟩⟩⟩⟩⟩⟩
theorem lw_p32 : lw_okq (⟨"PaperRowsModel", "isWord", "(IIII)Z"⟩, 55) := ⟨⟨by decide +kernel, by decide +kernel⟩, List.mem_of_getElem? (i := 648) (by decide +kernel), List.mem_of_getElem? (i := 914) (by decide +kernel), List.mem_of_getElem? (i := 915) (by decide +kernel)⟩
theorem lw_p33 : lw_okq (⟨"PaperRowsModel", "make", "(I)V"⟩, 55) := ⟨⟨by decide +kernel, by decide +kernel⟩, List.mem_of_getElem? (i := 648) (by decide +kernel), List.mem_of_getElem? (i := 926) (by decide +kernel), List.mem_of_getElem? (i := 927) (by decide +kernel)⟩
theorem lw_p34 : lw_okq (⟨"PaperRowsModel", "begin", "(II)V"⟩, 55) := ⟨⟨by decide +kernel, by decide +kernel⟩, List.mem_of_getElem? (i := 648) (by decide +kernel), List.mem_of_getElem? (i := 930) (by decide +kernel), List.mem_of_getElem? (i := 931) (by decide +kernel)⟩
theorem lw_p35 : lw_okq (⟨"PaperRowsModel", "write", "(II)V"⟩, 55) := ⟨⟨by decide +kernel, by decide +kernel⟩, List.mem_of_getElem? (i := 648) (by decide +kernel), List.mem_of_getElem? (i := 934) (by decide +kernel), List.mem_of_getElem? (i := 935) (by decide +kernel)⟩
theorem lw_p36 : lw_okq (⟨"PaperRowsModel", "nextRow", "(III)I"⟩, 55) := ⟨⟨by decide +kernel, by decide +kernel⟩, List.mem_of_getElem? (i := 648) (by decide +kernel), List.mem_of_getElem? (i := 938) (by decide +kernel), List.mem_of_getElem? (i := 939) (by decide +kernel)⟩
theorem lw_p37 : lw_okq (⟨"PaperRowsModel", "goTo", "(I)V"⟩, 55) := ⟨⟨by decide +kernel, by decide +kernel⟩, List.mem_of_getElem? (i := 648) (by decide +kernel), List.mem_of_getElem? (i := 956) (by decide +kernel), List.mem_of_getElem? (i := 957) (by decide +kernel)⟩
theorem lw_p38 : lw_okq (⟨"PaperRowsModel", "isHeld", "(I)Z"⟩, 55) := ⟨⟨by decide +kernel, by decide +kernel⟩, List.mem_of_getElem? (i := 648) (by decide +kernel), List.mem_of_getElem? (i := 968) (by decide +kernel), List.mem_of_getElem? (i := 969) (by decide +kernel)⟩
theorem lw_p39 : lw_okq (⟨"PaperRowsModel", "isReader", "(I)Z"⟩, 55) := ⟨⟨by decide +kernel, by decide +kernel⟩, List.mem_of_getElem? (i := 648) (by decide +kernel), List.mem_of_getElem? (i := 976) (by decide +kernel), List.mem_of_getElem? (i := 977) (by decide +kernel)⟩
def lw_privs_3 : List (MethodName × Nat) := [(⟨"PaperRowsModel", "isWord", "(IIII)Z"⟩, 55), (⟨"PaperRowsModel", "make", "(I)V"⟩, 55), (⟨"PaperRowsModel", "begin", "(II)V"⟩, 55), (⟨"PaperRowsModel", "write", "(II)V"⟩, 55), (⟨"PaperRowsModel", "nextRow", "(III)I"⟩, 55), (⟨"PaperRowsModel", "goTo", "(I)V"⟩, 55), (⟨"PaperRowsModel", "isHeld", "(I)Z"⟩, 55), (⟨"PaperRowsModel", "isReader", "(I)Z"⟩, 55)]
theorem lw_r3 : ∀ q ∈ lw_privs_3, lw_okq q := List.forall_mem_cons.mpr ⟨lw_p32, List.forall_mem_cons.mpr ⟨lw_p33, List.forall_mem_cons.mpr ⟨lw_p34, List.forall_mem_cons.mpr ⟨lw_p35, List.forall_mem_cons.mpr ⟨lw_p36, List.forall_mem_cons.mpr ⟨lw_p37, List.forall_mem_cons.mpr ⟨lw_p38, List.forall_mem_cons.mpr ⟨lw_p39, fun _ h => absurd h List.not_mem_nil⟩⟩⟩⟩⟩⟩⟩⟩
def lw_privs : List (MethodName × Nat) := lw_privs_1 ++ (lw_privs_2 ++ (lw_privs_3))
def lw_tbl : List Cond := k2_sels lw_privs ++ tables_1
theorem lw_privs_ok : ∀ q ∈ lw_privs, lw_okq q := by
  show ∀ q ∈ lw_privs_1 ++ (lw_privs_2 ++ (lw_privs_3)), lw_okq q
  exact List.forall_mem_append.mpr ⟨lw_r1, List.forall_mem_append.mpr ⟨lw_r2, lw_r3⟩⟩
end
section
/-! ===== BEGIN printed: names, fields, word lists, decode rows ===== -/
def RX0 : String := "PaperRows$History"
def TX0 : u_T := fun k => match k with
  | 0 => ("PaperRows$History", "told", "[LPaperRows$Row;", true)
  | _ => ("PaperRows$History", "length", "I", false)
def tyX0 : Nat → FieldType := fun k => match k with
  | 0 => .array (.object "PaperRows$Row")
  | _ => .int
theorem nmX0 : ∀ a, a < 2 → ∀ b, b < 2 → a ≠ b → (TX0 a).2.1 ≠ (TX0 b).2.1 := by decide +kernel
theorem tyX0_ok : ∀ k, k < 2 → parseFieldDescriptor (TX0 k).2.2.1 = some (tyX0 k) := by decide +kernel
abbrev cX0_init : ByteArray := prog_2_method_1_code
def yX0_init : MethodName := ⟨RX0, "<init>", "()V"⟩
abbrev cX0_length : ByteArray := prog_2_method_2_code
def yX0_length : MethodName := ⟨RX0, "length", "()I"⟩
abbrev cX0_isFull : ByteArray := prog_2_method_3_code
def yX0_isFull : MethodName := ⟨RX0, "isFull", "()Z"⟩
abbrev cX0_add : ByteArray := prog_2_method_4_code
def yX0_add : MethodName := ⟨RX0, "add", "(LPaperRows$Row;)V"⟩
abbrev cX0_replay : ByteArray := prog_2_method_5_code
def yX0_replay : MethodName := ⟨RX0, "replay", "(ILPaperRows$Rows;)V"⟩
def RX1 : String := "PaperRows$Paper"
def TX1 : u_T := fun k => match k with
  | 0 => ("PaperRows$Paper", "marks", "[I", true)
  | 1 => ("PaperRows$Paper", "length", "I", false)
  | _ => ("PaperRows$Paper", "begun", "J", false)
def tyX1 : Nat → FieldType := fun k => match k with
  | 0 => .array .int
  | 1 => .int
  | _ => .long
theorem nmX1 : ∀ a, a < 3 → ∀ b, b < 3 → a ≠ b → (TX1 a).2.1 ≠ (TX1 b).2.1 := by decide +kernel
theorem tyX1_ok : ∀ k, k < 3 → parseFieldDescriptor (TX1 k).2.2.1 = some (tyX1 k) := by decide +kernel
abbrev cX1_init : ByteArray := prog_3_method_1_code
def yX1_init : MethodName := ⟨RX1, "<init>", "()V"⟩
abbrev cX1_length : ByteArray := prog_3_method_2_code
def yX1_length : MethodName := ⟨RX1, "length", "()I"⟩
abbrev cX1_at : ByteArray := prog_3_method_3_code
def yX1_at : MethodName := ⟨RX1, "at", "(I)I"⟩
abbrev cX1_isValueAt : ByteArray := prog_3_method_4_code
def yX1_isValueAt : MethodName := ⟨RX1, "isValueAt", "(I)Z"⟩
abbrev cX1_put : ByteArray := prog_3_method_5_code
def yX1_put : MethodName := ⟨RX1, "put", "(II)V"⟩
abbrev cX1_hasMarksOf : ByteArray := prog_3_method_6_code
def yX1_hasMarksOf : MethodName := ⟨RX1, "hasMarksOf", "(LPaperRows$Paper;)Z"⟩
abbrev cX1_takeFrom : ByteArray := prog_3_method_7_code
def yX1_takeFrom : MethodName := ⟨RX1, "takeFrom", "(LPaperRows$Paper;)V"⟩
abbrev cX1_rowAround : ByteArray := prog_3_method_8_code
def yX1_rowAround : MethodName := ⟨RX1, "rowAround", "(I)I"⟩
abbrev cX1_gather : ByteArray := prog_3_method_9_code
def yX1_gather : MethodName := ⟨RX1, "gather", "(LPaperRows$Shape;LPaperRows$Rows;I)V"⟩
abbrev cX1_addPart : ByteArray := prog_3_method_10_code
def yX1_addPart : MethodName := ⟨RX1, "addPart", "(LPaperRows$Shape;LPaperRows$Rows;ILPaperRows$Row;I)V"⟩
abbrev cX1_addUp : ByteArray := prog_3_method_11_code
def yX1_addUp : MethodName := ⟨RX1, "addUp", "(LPaperRows$Shape;LPaperRows$Rows;ILPaperRows$Row;I)V"⟩
abbrev cX1_addDown : ByteArray := prog_3_method_12_code
def yX1_addDown : MethodName := ⟨RX1, "addDown", "(LPaperRows$Shape;LPaperRows$Rows;ILPaperRows$Row;I)V"⟩
abbrev cX1_isFull : ByteArray := prog_3_method_13_code
def yX1_isFull : MethodName := ⟨RX1, "isFull", "()Z"⟩
abbrev cX1_add : ByteArray := prog_3_method_14_code
def yX1_add : MethodName := ⟨RX1, "add", "(I)V"⟩
def RX2 : String := "PaperRows$Parser"
def TX2 : u_T := fun k => match k with
  | 0 => ("PaperRows$Parser", "tape", "LPaperRows$Tape;", true)
  | 1 => ("PaperRows$Parser", "shape", "LPaperRows$Shape;", true)
  | 2 => ("PaperRows$Parser", "start", "I", false)
  | _ => ("PaperRows$Parser", "past", "I", false)
def tyX2 : Nat → FieldType := fun k => match k with
  | 0 => .object "PaperRows$Tape"
  | 1 => .object "PaperRows$Shape"
  | 2 => .int
  | _ => .int
theorem nmX2 : ∀ a, a < 4 → ∀ b, b < 4 → a ≠ b → (TX2 a).2.1 ≠ (TX2 b).2.1 := by decide +kernel
theorem tyX2_ok : ∀ k, k < 4 → parseFieldDescriptor (TX2 k).2.2.1 = some (tyX2 k) := by decide +kernel
abbrev cX2_init : ByteArray := prog_4_method_1_code
def yX2_init : MethodName := ⟨RX2, "<init>", "(LPaperRows$Tape;LPaperRows$Shape;)V"⟩
abbrev cX2_place : ByteArray := prog_4_method_2_code
def yX2_place : MethodName := ⟨RX2, "place", "()I"⟩
abbrev cX2_readText : ByteArray := prog_4_method_3_code
def yX2_readText : MethodName := ⟨RX2, "readText", "()Z"⟩
abbrev cX2_readPart : ByteArray := prog_4_method_4_code
def yX2_readPart : MethodName := ⟨RX2, "readPart", "(I)Z"⟩
abbrev cX2_readItems : ByteArray := prog_4_method_5_code
def yX2_readItems : MethodName := ⟨RX2, "readItems", "(II)Z"⟩
abbrev cX2_readItem : ByteArray := prog_4_method_6_code
def yX2_readItem : MethodName := ⟨RX2, "readItem", "(II)Z"⟩
abbrev cX2_advance : ByteArray := prog_4_method_7_code
def yX2_advance : MethodName := ⟨RX2, "advance", "()V"⟩
abbrev cX2_isAtEnd : ByteArray := prog_4_method_8_code
def yX2_isAtEnd : MethodName := ⟨RX2, "isAtEnd", "()Z"⟩
abbrev cX2_isLetter : ByteArray := prog_4_method_9_code
def yX2_isLetter : MethodName := ⟨RX2, "isLetter", "(I)Z"⟩
abbrev cX2_isDigit : ByteArray := prog_4_method_10_code
def yX2_isDigit : MethodName := ⟨RX2, "isDigit", "(I)Z"⟩
abbrev cX2_isSign : ByteArray := prog_4_method_11_code
def yX2_isSign : MethodName := ⟨RX2, "isSign", "(C)Z"⟩
abbrev cX2_isWord : ByteArray := prog_4_method_12_code
def yX2_isWord : MethodName := ⟨RX2, "isWord", "(Ljava/lang/String;)Z"⟩
abbrev cX2_tableHere : ByteArray := prog_4_method_13_code
def yX2_tableHere : MethodName := ⟨RX2, "tableHere", "()I"⟩
abbrev cX2_referenceHere : ByteArray := prog_4_method_14_code
def yX2_referenceHere : MethodName := ⟨RX2, "referenceHere", "()I"⟩
def RX3 : String := "PaperRows$Reader"
def TX3 : u_T := fun k => match k with
  | 0 => ("PaperRows$Reader", "row", "I", true)
  | _ => ("PaperRows$Reader", "held", "LPaperRows$Paper;", true)
def tyX3 : Nat → FieldType := fun k => match k with
  | 0 => .int
  | _ => .object "PaperRows$Paper"
theorem nmX3 : ∀ a, a < 2 → ∀ b, b < 2 → a ≠ b → (TX3 a).2.1 ≠ (TX3 b).2.1 := by decide +kernel
theorem tyX3_ok : ∀ k, k < 2 → parseFieldDescriptor (TX3 k).2.2.1 = some (tyX3 k) := by decide +kernel
abbrev cX3_init : ByteArray := prog_5_method_1_code
def yX3_init : MethodName := ⟨RX3, "<init>", "(I)V"⟩
def RX4 : String := "PaperRows$Row"
def TX4 : u_T := fun k => match k with
  | 0 => ("PaperRows$Row", "number", "I", true)
  | 1 => ("PaperRows$Row", "table", "I", true)
  | 2 => ("PaperRows$Row", "value", "I", true)
  | 3 => ("PaperRows$Row", "reference0", "I", true)
  | 4 => ("PaperRows$Row", "reference1", "I", true)
  | _ => ("PaperRows$Row", "there", "Z", true)
def tyX4 : Nat → FieldType := fun k => match k with
  | 0 => .int
  | 1 => .int
  | 2 => .int
  | 3 => .int
  | 4 => .int
  | _ => .boolean
theorem nmX4 : ∀ a, a < 6 → ∀ b, b < 6 → a ≠ b → (TX4 a).2.1 ≠ (TX4 b).2.1 := by decide +kernel
theorem tyX4_ok : ∀ k, k < 6 → parseFieldDescriptor (TX4 k).2.2.1 = some (tyX4 k) := by decide +kernel
abbrev cX4_init : ByteArray := prog_6_method_1_code
def yX4_init : MethodName := ⟨RX4, "<init>", "(IIIIIZ)V"⟩
abbrev cX4_withValue : ByteArray := prog_6_method_2_code
def yX4_withValue : MethodName := ⟨RX4, "withValue", "(I)LPaperRows$Row;"⟩
abbrev cX4_withReference : ByteArray := prog_6_method_3_code
def yX4_withReference : MethodName := ⟨RX4, "withReference", "(II)LPaperRows$Row;"⟩
abbrev cX4_gone : ByteArray := prog_6_method_4_code
def yX4_gone : MethodName := ⟨RX4, "gone", "()LPaperRows$Row;"⟩
abbrev cX4_referenceBy : ByteArray := prog_6_method_5_code
def yX4_referenceBy : MethodName := ⟨RX4, "referenceBy", "(I)I"⟩
def RX5 : String := "PaperRows$Rows"
def TX5 : u_T := fun k => match k with
  | 0 => ("PaperRows$Rows", "all", "[LPaperRows$Row;", true)
  | _ => ("PaperRows$Rows", "known", "I", false)
def tyX5 : Nat → FieldType := fun k => match k with
  | 0 => .array (.object "PaperRows$Row")
  | _ => .int
theorem nmX5 : ∀ a, a < 2 → ∀ b, b < 2 → a ≠ b → (TX5 a).2.1 ≠ (TX5 b).2.1 := by decide +kernel
theorem tyX5_ok : ∀ k, k < 2 → parseFieldDescriptor (TX5 k).2.2.1 = some (tyX5 k) := by decide +kernel
abbrev cX5_init : ByteArray := prog_7_method_1_code
def yX5_init : MethodName := ⟨RX5, "<init>", "()V"⟩
abbrev cX5_known : ByteArray := prog_7_method_2_code
def yX5_known : MethodName := ⟨RX5, "known", "()I"⟩
abbrev cX5_isFull : ByteArray := prog_7_method_3_code
def yX5_isFull : MethodName := ⟨RX5, "isFull", "()Z"⟩
abbrev cX5_at : ByteArray := prog_7_method_4_code
def yX5_at : MethodName := ⟨RX5, "at", "(I)LPaperRows$Row;"⟩
abbrev cX5_standing : ByteArray := prog_7_method_5_code
def yX5_standing : MethodName := ⟨RX5, "standing", "(I)LPaperRows$Row;"⟩
abbrev cX5_standingOnes : ByteArray := prog_7_method_6_code
def yX5_standingOnes : MethodName := ⟨RX5, "standingOnes", "()I"⟩
abbrev cX5_put : ByteArray := prog_7_method_7_code
def yX5_put : MethodName := ⟨RX5, "put", "(LPaperRows$Row;)V"⟩
abbrev cX5_clear : ByteArray := prog_7_method_8_code
def yX5_clear : MethodName := ⟨RX5, "clear", "()V"⟩
abbrev cX5_takeFrom : ByteArray := prog_7_method_9_code
def yX5_takeFrom : MethodName := ⟨RX5, "takeFrom", "(LPaperRows$Rows;)V"⟩
def RX6 : String := "PaperRows$Shape"
def TX6 : u_T := fun k => match k with
  | 0 => ("PaperRows$Shape", "tables", "[I", true)
  | 1 => ("PaperRows$Shape", "owners", "[I", true)
  | 2 => ("PaperRows$Shape", "kinds", "[I", true)
  | 3 => ("PaperRows$Shape", "references", "[I", true)
  | 4 => ("PaperRows$Shape", "partsWithin", "[I", true)
  | 5 => ("PaperRows$Shape", "parts", "I", false)
  | _ => ("PaperRows$Shape", "items", "I", false)
def tyX6 : Nat → FieldType := fun k => match k with
  | 0 => .array .int
  | 1 => .array .int
  | 2 => .array .int
  | 3 => .array .int
  | 4 => .array .int
  | 5 => .int
  | _ => .int
theorem nmX6 : ∀ a, a < 7 → ∀ b, b < 7 → a ≠ b → (TX6 a).2.1 ≠ (TX6 b).2.1 := by decide +kernel
theorem tyX6_ok : ∀ k, k < 7 → parseFieldDescriptor (TX6 k).2.2.1 = some (tyX6 k) := by decide +kernel
abbrev cX6_init : ByteArray := prog_8_method_1_code
def yX6_init : MethodName := ⟨RX6, "<init>", "()V"⟩
abbrev cX6_parts : ByteArray := prog_8_method_2_code
def yX6_parts : MethodName := ⟨RX6, "parts", "()I"⟩
abbrev cX6_items : ByteArray := prog_8_method_3_code
def yX6_items : MethodName := ⟨RX6, "items", "()I"⟩
abbrev cX6_clear : ByteArray := prog_8_method_4_code
def yX6_clear : MethodName := ⟨RX6, "clear", "()V"⟩
abbrev cX6_hasRoomForPart : ByteArray := prog_8_method_5_code
def yX6_hasRoomForPart : MethodName := ⟨RX6, "hasRoomForPart", "()Z"⟩
abbrev cX6_addPart : ByteArray := prog_8_method_6_code
def yX6_addPart : MethodName := ⟨RX6, "addPart", "(I)V"⟩
abbrev cX6_addItem : ByteArray := prog_8_method_7_code
def yX6_addItem : MethodName := ⟨RX6, "addItem", "(IIII)V"⟩
abbrev cX6_tableOf : ByteArray := prog_8_method_8_code
def yX6_tableOf : MethodName := ⟨RX6, "tableOf", "(I)I"⟩
abbrev cX6_isItem : ByteArray := prog_8_method_9_code
def yX6_isItem : MethodName := ⟨RX6, "isItem", "(I)Z"⟩
abbrev cX6_ownerOf : ByteArray := prog_8_method_10_code
def yX6_ownerOf : MethodName := ⟨RX6, "ownerOf", "(I)I"⟩
abbrev cX6_kindOf : ByteArray := prog_8_method_11_code
def yX6_kindOf : MethodName := ⟨RX6, "kindOf", "(I)I"⟩
abbrev cX6_referenceOf : ByteArray := prog_8_method_12_code
def yX6_referenceOf : MethodName := ⟨RX6, "referenceOf", "(I)I"⟩
abbrev cX6_partWithin : ByteArray := prog_8_method_13_code
def yX6_partWithin : MethodName := ⟨RX6, "partWithin", "(I)I"⟩
def RX7 : String := "PaperRows$Tape"
def TX7 : u_T := fun k => match k with
  | 0 => ("PaperRows$Tape", "bytes", "[I", true)
  | _ => ("PaperRows$Tape", "length", "I", false)
def tyX7 : Nat → FieldType := fun k => match k with
  | 0 => .array .int
  | _ => .int
theorem nmX7 : ∀ a, a < 2 → ∀ b, b < 2 → a ≠ b → (TX7 a).2.1 ≠ (TX7 b).2.1 := by decide +kernel
theorem tyX7_ok : ∀ k, k < 2 → parseFieldDescriptor (TX7 k).2.2.1 = some (tyX7 k) := by decide +kernel
abbrev cX7_init : ByteArray := prog_9_method_1_code
def yX7_init : MethodName := ⟨RX7, "<init>", "()V"⟩
abbrev cX7_length : ByteArray := prog_9_method_2_code
def yX7_length : MethodName := ⟨RX7, "length", "()I"⟩
abbrev cX7_addNumber : ByteArray := prog_9_method_3_code
def yX7_addNumber : MethodName := ⟨RX7, "addNumber", "(I)V"⟩
abbrev cX7_addByte : ByteArray := prog_9_method_4_code
def yX7_addByte : MethodName := ⟨RX7, "addByte", "(I)V"⟩
abbrev cX7_cutTo : ByteArray := prog_9_method_5_code
def yX7_cutTo : MethodName := ⟨RX7, "cutTo", "(I)V"⟩
abbrev cX7_byteAt : ByteArray := prog_9_method_6_code
def yX7_byteAt : MethodName := ⟨RX7, "byteAt", "(I)I"⟩
def RX8 : String := "PaperRows"
def TX8 : u_T := fun k => match k with
  | 0 => ("PaperRows", "now", "LPaperRows$Rows;", true)
  | 1 => ("PaperRows", "history", "LPaperRows$History;", true)
  | 2 => ("PaperRows", "tape", "LPaperRows$Tape;", true)
  | 3 => ("PaperRows", "readers", "[LPaperRows$Reader;", true)
  | 4 => ("PaperRows", "shape", "LPaperRows$Shape;", false)
  | 5 => ("PaperRows", "readerCount", "I", false)
  | 6 => ("PaperRows", "sendings", "I", false)
  | 7 => ("PaperRows", "fault", "I", false)
  | 8 => ("PaperRows", "status", "I", false)
  | 9 => ("PaperRows", "spareShape", "LPaperRows$Shape;", false)
  | 10 => ("PaperRows", "then", "LPaperRows$Rows;", true)
  | 11 => ("PaperRows", "paper", "LPaperRows$Paper;", true)
  | _ => ("PaperRows", "otherPaper", "LPaperRows$Paper;", true)
def tyX8 : Nat → FieldType := fun k => match k with
  | 0 => .object "PaperRows$Rows"
  | 1 => .object "PaperRows$History"
  | 2 => .object "PaperRows$Tape"
  | 3 => .array (.object "PaperRows$Reader")
  | 4 => .object "PaperRows$Shape"
  | 5 => .int
  | 6 => .int
  | 7 => .int
  | 8 => .int
  | 9 => .object "PaperRows$Shape"
  | 10 => .object "PaperRows$Rows"
  | 11 => .object "PaperRows$Paper"
  | _ => .object "PaperRows$Paper"
theorem nmX8 : ∀ a, a < 13 → ∀ b, b < 13 → a ≠ b → (TX8 a).2.1 ≠ (TX8 b).2.1 := by decide +kernel
theorem tyX8_ok : ∀ k, k < 13 → parseFieldDescriptor (TX8 k).2.2.1 = some (tyX8 k) := by decide +kernel
abbrev cX8_init : ByteArray := prog_1_method_1_code
def yX8_init : MethodName := ⟨RX8, "<init>", "()V"⟩
abbrev cX8_row : ByteArray := prog_1_method_2_code
def yX8_row : MethodName := ⟨RX8, "row", "(IIII)I"⟩
abbrev cX8_value : ByteArray := prog_1_method_3_code
def yX8_value : MethodName := ⟨RX8, "value", "(II)I"⟩
abbrev cX8_refer : ByteArray := prog_1_method_4_code
def yX8_refer : MethodName := ⟨RX8, "refer", "(III)I"⟩
abbrev cX8_go : ByteArray := prog_1_method_5_code
def yX8_go : MethodName := ⟨RX8, "go", "(I)I"⟩
abbrev cX8_of : ByteArray := prog_1_method_6_code
def yX8_of : MethodName := ⟨RX8, "of", "(II)I"⟩
abbrev cX8_feed : ByteArray := prog_1_method_7_code
def yX8_feed : MethodName := ⟨RX8, "feed", "(IIIII)I"⟩
abbrev cX8_end : ByteArray := prog_1_method_8_code
def yX8_end : MethodName := ⟨RX8, "end", "(I)I"⟩
abbrev cX8_shape : ByteArray := prog_1_method_9_code
def yX8_shape : MethodName := ⟨RX8, "shape", "()I"⟩
abbrev cX8_fault : ByteArray := prog_1_method_10_code
def yX8_fault : MethodName := ⟨RX8, "fault", "()I"⟩
abbrev cX8_size : ByteArray := prog_1_method_11_code
def yX8_size : MethodName := ⟨RX8, "size", "(I)I"⟩
abbrev cX8_mark : ByteArray := prog_1_method_12_code
def yX8_mark : MethodName := ⟨RX8, "mark", "(II)I"⟩
abbrev cX8_page : ByteArray := prog_1_method_13_code
def yX8_page : MethodName := ⟨RX8, "page", "(IIII)I"⟩
abbrev cX8_reader : ByteArray := prog_1_method_14_code
def yX8_reader : MethodName := ⟨RX8, "reader", "(I)I"⟩
abbrev cX8_send : ByteArray := prog_1_method_15_code
def yX8_send : MethodName := ⟨RX8, "send", "()I"⟩
abbrev cX8_holds : ByteArray := prog_1_method_16_code
def yX8_holds : MethodName := ⟨RX8, "holds", "(II)I"⟩
abbrev cX8_same : ByteArray := prog_1_method_17_code
def yX8_same : MethodName := ⟨RX8, "same", "(I)I"⟩
abbrev cX8_edit : ByteArray := prog_1_method_18_code
def yX8_edit : MethodName := ⟨RX8, "edit", "(III)I"⟩
abbrev cX8_asOf : ByteArray := prog_1_method_19_code
def yX8_asOf : MethodName := ⟨RX8, "asOf", "(III)I"⟩
abbrev cX8_touched : ByteArray := prog_1_method_20_code
def yX8_touched : MethodName := ⟨RX8, "touched", "(II)I"⟩
abbrev cX8_count : ByteArray := prog_1_method_21_code
def yX8_count : MethodName := ⟨RX8, "count", "(I)I"⟩
abbrev cX8_status : ByteArray := prog_1_method_22_code
def yX8_status : MethodName := ⟨RX8, "status", "()I"⟩
abbrev cX8_refused : ByteArray := prog_1_method_23_code
def yX8_refused : MethodName := ⟨RX8, "refused", "(I)I"⟩
abbrev cX8_answered : ByteArray := prog_1_method_24_code
def yX8_answered : MethodName := ⟨RX8, "answered", "(I)I"⟩
abbrev cX8_isValue : ByteArray := prog_1_method_25_code
def yX8_isValue : MethodName := ⟨RX8, "isValue", "(I)Z"⟩
abbrev cX8_canBeReferredTo : ByteArray := prog_1_method_26_code
def yX8_canBeReferredTo : MethodName := ⟨RX8, "canBeReferredTo", "(I)Z"⟩
abbrev cX8_tell : ByteArray := prog_1_method_27_code
def yX8_tell : MethodName := ⟨RX8, "tell", "(LPaperRows$Row;)V"⟩
abbrev cX8_readerAt : ByteArray := prog_1_method_28_code
def yX8_readerAt : MethodName := ⟨RX8, "readerAt", "(I)LPaperRows$Reader;"⟩
abbrev cX8_isOtherwiseThen : ByteArray := prog_1_method_29_code
def yX8_isOtherwiseThen : MethodName := ⟨RX8, "isOtherwiseThen", "(I)Z"⟩
def RX9 : String := "PaperRowsModel"
def TX9 : u_T := fun k => match k with
  | 0 => ("PaperRowsModel", "thrown", "I", false)
  | 1 => ("PaperRowsModel", "status", "I", false)
  | 2 => ("PaperRowsModel", "moments", "I", false)
  | 3 => ("PaperRowsModel", "eSort", "[I", true)
  | 4 => ("PaperRowsModel", "eRow", "[I", true)
  | 5 => ("PaperRowsModel", "eA", "[I", true)
  | 6 => ("PaperRowsModel", "eB", "[I", true)
  | 7 => ("PaperRowsModel", "eC", "[I", true)
  | 8 => ("PaperRowsModel", "eD", "[I", true)
  | 9 => ("PaperRowsModel", "rows", "I", false)
  | 10 => ("PaperRowsModel", "rTable", "[I", true)
  | 11 => ("PaperRowsModel", "rValue", "[I", true)
  | 12 => ("PaperRowsModel", "rRefer", "[I", true)
  | 13 => ("PaperRowsModel", "isThere", "[Z", true)
  | 14 => ("PaperRowsModel", "parts", "I", false)
  | 15 => ("PaperRowsModel", "pTable", "[I", true)
  | 16 => ("PaperRowsModel", "pFirst", "[I", true)
  | 17 => ("PaperRowsModel", "iSort", "[I", true)
  | 18 => ("PaperRowsModel", "iRefer", "[I", true)
  | 19 => ("PaperRowsModel", "iPart", "[I", true)
  | 20 => ("PaperRowsModel", "iNext", "[I", true)
  | 21 => ("PaperRowsModel", "nParts", "I", false)
  | 22 => ("PaperRowsModel", "nItems", "I", false)
  | 23 => ("PaperRowsModel", "nTable", "[I", true)
  | 24 => ("PaperRowsModel", "nFirst", "[I", true)
  | 25 => ("PaperRowsModel", "nLast", "[I", true)
  | 26 => ("PaperRowsModel", "mSort", "[I", true)
  | 27 => ("PaperRowsModel", "mRefer", "[I", true)
  | 28 => ("PaperRowsModel", "mPart", "[I", true)
  | 29 => ("PaperRowsModel", "mNext", "[I", true)
  | 30 => ("PaperRowsModel", "open", "[I", true)
  | 31 => ("PaperRowsModel", "depth", "I", false)
  | 32 => ("PaperRowsModel", "tape", "[I", true)
  | 33 => ("PaperRowsModel", "taped", "I", false)
  | 34 => ("PaperRowsModel", "from", "I", false)
  | 35 => ("PaperRowsModel", "to", "I", false)
  | 36 => ("PaperRowsModel", "sort", "I", false)
  | 37 => ("PaperRowsModel", "worth", "J", false)
  | 38 => ("PaperRowsModel", "fault", "I", false)
  | 39 => ("PaperRowsModel", "bad", "Z", false)
  | 40 => ("PaperRowsModel", "marks", "I", false)
  | 41 => ("PaperRowsModel", "paper", "[I", true)
  | 42 => ("PaperRowsModel", "paperRow", "[I", true)
  | 43 => ("PaperRowsModel", "stands", "[Z", true)
  | 44 => ("PaperRowsModel", "pileRow", "[I", true)
  | 45 => ("PaperRowsModel", "pileItem", "[I", true)
  | 46 => ("PaperRowsModel", "pileAt", "[I", true)
  | 47 => ("PaperRowsModel", "piled", "I", false)
  | 48 => ("PaperRowsModel", "readers", "I", false)
  | 49 => ("PaperRowsModel", "dRow", "[I", true)
  | 50 => ("PaperRowsModel", "dMany", "[I", true)
  | 51 => ("PaperRowsModel", "held", "[I", true)
  | 52 => ("PaperRowsModel", "heldRow", "[I", true)
  | 53 => ("PaperRowsModel", "sent", "I", false)
  | _ => ("PaperRowsModel", "spare", "[I", true)
def tyX9 : Nat → FieldType := fun k => match k with
  | 0 => .int
  | 1 => .int
  | 2 => .int
  | 3 => .array .int
  | 4 => .array .int
  | 5 => .array .int
  | 6 => .array .int
  | 7 => .array .int
  | 8 => .array .int
  | 9 => .int
  | 10 => .array .int
  | 11 => .array .int
  | 12 => .array .int
  | 13 => .array .boolean
  | 14 => .int
  | 15 => .array .int
  | 16 => .array .int
  | 17 => .array .int
  | 18 => .array .int
  | 19 => .array .int
  | 20 => .array .int
  | 21 => .int
  | 22 => .int
  | 23 => .array .int
  | 24 => .array .int
  | 25 => .array .int
  | 26 => .array .int
  | 27 => .array .int
  | 28 => .array .int
  | 29 => .array .int
  | 30 => .array .int
  | 31 => .int
  | 32 => .array .int
  | 33 => .int
  | 34 => .int
  | 35 => .int
  | 36 => .int
  | 37 => .long
  | 38 => .int
  | 39 => .boolean
  | 40 => .int
  | 41 => .array .int
  | 42 => .array .int
  | 43 => .array .boolean
  | 44 => .array .int
  | 45 => .array .int
  | 46 => .array .int
  | 47 => .int
  | 48 => .int
  | 49 => .array .int
  | 50 => .array .int
  | 51 => .array .int
  | 52 => .array .int
  | 53 => .int
  | _ => .array .int
theorem nmX9 : ∀ a, a < 55 → ∀ b, b < 55 → a ≠ b → (TX9 a).2.1 ≠ (TX9 b).2.1 := by decide +kernel
theorem tyX9_ok : ∀ k, k < 55 → parseFieldDescriptor (TX9 k).2.2.1 = some (tyX9 k) := by decide +kernel
abbrev cX9_init : ByteArray := prog_11_method_1_code
def yX9_init : MethodName := ⟨RX9, "<init>", "()V"⟩
abbrev cX9_in : ByteArray := prog_11_method_3_code
def yX9_in : MethodName := ⟨RX9, "in", "(JJJ)Z"⟩
abbrev cX9_told : ByteArray := prog_11_method_4_code
def yX9_told : MethodName := ⟨RX9, "told", "(I)I"⟩
abbrev cX9_tell : ByteArray := prog_11_method_5_code
def yX9_tell : MethodName := ⟨RX9, "tell", "(IIIIII)V"⟩
abbrev cX9_goOne : ByteArray := prog_11_method_6_code
def yX9_goOne : MethodName := ⟨RX9, "goOne", "(I)V"⟩
abbrev cX9_goTo : ByteArray := prog_11_method_7_code
def yX9_goTo : MethodName := ⟨RX9, "goTo", "(I)V"⟩
abbrev cX9_isRow : ByteArray := prog_11_method_8_code
def yX9_isRow : MethodName := ⟨RX9, "isRow", "(I)Z"⟩
abbrev cX9_isValue : ByteArray := prog_11_method_9_code
def yX9_isValue : MethodName := ⟨RX9, "isValue", "(I)Z"⟩
abbrev cX9_row : ByteArray := prog_11_method_10_code
def yX9_row : MethodName := ⟨RX9, "row", "(IIII)I"⟩
abbrev cX9_value : ByteArray := prog_11_method_11_code
def yX9_value : MethodName := ⟨RX9, "value", "(II)I"⟩
abbrev cX9_refer : ByteArray := prog_11_method_12_code
def yX9_refer : MethodName := ⟨RX9, "refer", "(III)I"⟩
abbrev cX9_go : ByteArray := prog_11_method_13_code
def yX9_go : MethodName := ⟨RX9, "go", "(I)I"⟩
abbrev cX9_of : ByteArray := prog_11_method_14_code
def yX9_of : MethodName := ⟨RX9, "of", "(II)I"⟩
abbrev cX9_four : ByteArray := prog_11_method_15_code
def yX9_four : MethodName := ⟨RX9, "four", "(I)V"⟩
abbrev cX9_feed : ByteArray := prog_11_method_16_code
def yX9_feed : MethodName := ⟨RX9, "feed", "(IIIII)I"⟩
abbrev cX9_end : ByteArray := prog_11_method_17_code
def yX9_end : MethodName := ⟨RX9, "end", "(I)I"⟩
abbrev cX9_isSmall : ByteArray := prog_11_method_18_code
def yX9_isSmall : MethodName := ⟨RX9, "isSmall", "(I)Z"⟩
abbrev cX9_isDigit : ByteArray := prog_11_method_19_code
def yX9_isDigit : MethodName := ⟨RX9, "isDigit", "(I)Z"⟩
abbrev cX9_next : ByteArray := prog_11_method_20_code
def yX9_next : MethodName := ⟨RX9, "next", "()V"⟩
abbrev cX9_isWord : ByteArray := prog_11_method_21_code
def yX9_isWord : MethodName := ⟨RX9, "isWord", "(IIII)Z"⟩
abbrev cX9_isSign : ByteArray := prog_11_method_22_code
def yX9_isSign : MethodName := ⟨RX9, "isSign", "(I)Z"⟩
abbrev cX9_must : ByteArray := prog_11_method_23_code
def yX9_must : MethodName := ⟨RX9, "must", "(Z)V"⟩
abbrev cX9_readPart : ByteArray := prog_11_method_24_code
def yX9_readPart : MethodName := ⟨RX9, "readPart", "()Z"⟩
abbrev cX9_readItem : ByteArray := prog_11_method_25_code
def yX9_readItem : MethodName := ⟨RX9, "readItem", "()Z"⟩
abbrev cX9_shape : ByteArray := prog_11_method_26_code
def yX9_shape : MethodName := ⟨RX9, "shape", "()I"⟩
abbrev cX9_fault : ByteArray := prog_11_method_27_code
def yX9_fault : MethodName := ⟨RX9, "fault", "()I"⟩
abbrev cX9_write : ByteArray := prog_11_method_28_code
def yX9_write : MethodName := ⟨RX9, "write", "(II)V"⟩
abbrev cX9_begin : ByteArray := prog_11_method_29_code
def yX9_begin : MethodName := ⟨RX9, "begin", "(II)V"⟩
abbrev cX9_nextRow : ByteArray := prog_11_method_30_code
def yX9_nextRow : MethodName := ⟨RX9, "nextRow", "(III)I"⟩
abbrev cX9_make : ByteArray := prog_11_method_31_code
def yX9_make : MethodName := ⟨RX9, "make", "(I)V"⟩
abbrev cX9_size : ByteArray := prog_11_method_32_code
def yX9_size : MethodName := ⟨RX9, "size", "(I)I"⟩
abbrev cX9_mark : ByteArray := prog_11_method_33_code
def yX9_mark : MethodName := ⟨RX9, "mark", "(II)I"⟩
abbrev cX9_page : ByteArray := prog_11_method_34_code
def yX9_page : MethodName := ⟨RX9, "page", "(IIII)I"⟩
abbrev cX9_asOf : ByteArray := prog_11_method_35_code
def yX9_asOf : MethodName := ⟨RX9, "asOf", "(III)I"⟩
abbrev cX9_isReader : ByteArray := prog_11_method_36_code
def yX9_isReader : MethodName := ⟨RX9, "isReader", "(I)Z"⟩
abbrev cX9_reader : ByteArray := prog_11_method_37_code
def yX9_reader : MethodName := ⟨RX9, "reader", "(I)I"⟩
abbrev cX9_isHeld : ByteArray := prog_11_method_38_code
def yX9_isHeld : MethodName := ⟨RX9, "isHeld", "(I)Z"⟩
abbrev cX9_send : ByteArray := prog_11_method_39_code
def yX9_send : MethodName := ⟨RX9, "send", "()I"⟩
abbrev cX9_holds : ByteArray := prog_11_method_40_code
def yX9_holds : MethodName := ⟨RX9, "holds", "(II)I"⟩
abbrev cX9_same : ByteArray := prog_11_method_41_code
def yX9_same : MethodName := ⟨RX9, "same", "(I)I"⟩
abbrev cX9_edit : ByteArray := prog_11_method_42_code
def yX9_edit : MethodName := ⟨RX9, "edit", "(III)I"⟩
abbrev cX9_touched : ByteArray := prog_11_method_43_code
def yX9_touched : MethodName := ⟨RX9, "touched", "(II)I"⟩
abbrev cX9_count : ByteArray := prog_11_method_44_code
def yX9_count : MethodName := ⟨RX9, "count", "(I)I"⟩
abbrev cX9_status : ByteArray := prog_11_method_45_code
def yX9_status : MethodName := ⟨RX9, "status", "()I"⟩
def RJ9 : String := "java/lang/Math"
def TJ9 : u_T := fun k => match k with
  | _ => ("", "", "", false)
def tyJ9 : Nat → FieldType := fun k => match k with
  | _ => .int
theorem nmJ9 : ∀ a, a < 0 → ∀ b, b < 0 → a ≠ b → (TJ9 a).2.1 ≠ (TJ9 b).2.1 := by decide +kernel
theorem tyJ9_ok : ∀ k, k < 0 → parseFieldDescriptor (TJ9 k).2.2.1 = some (tyJ9 k) := by decide +kernel
abbrev cJ9_max_7cf53 : ByteArray := prog_12_method_65_code
def yJ9_max_7cf53 : MethodName := ⟨RJ9, "max", "(II)I"⟩
abbrev cJ9_max_f86c9 : ByteArray := prog_12_method_66_code
def yJ9_max_f86c9 : MethodName := ⟨RJ9, "max", "(JJ)J"⟩
abbrev cJ9_min_7cf53 : ByteArray := prog_12_method_69_code
def yJ9_min_7cf53 : MethodName := ⟨RJ9, "min", "(II)I"⟩
abbrev cJ9_min_f86c9 : ByteArray := prog_12_method_70_code
def yJ9_min_f86c9 : MethodName := ⟨RJ9, "min", "(JJ)J"⟩
def RJ0 : String := "java/lang/String"
def TJ0 : u_T := fun k => match k with
  | _ => ("", "", "", false)
def tyJ0 : Nat → FieldType := fun k => match k with
  | _ => .int
theorem nmJ0 : ∀ a, a < 0 → ∀ b, b < 0 → a ≠ b → (TJ0 a).2.1 ≠ (TJ0 b).2.1 := by decide +kernel
theorem tyJ0_ok : ∀ k, k < 0 → parseFieldDescriptor (TJ0 k).2.2.1 = some (tyJ0 k) := by decide +kernel
abbrev cJ0_length_8abf5 : ByteArray := prog_13_method_54_code
def yJ0_length_8abf5 : MethodName := ⟨RJ0, "length", "()I"⟩
abbrev cJ0_charAt_5068e : ByteArray := prog_13_method_56_code
def yJ0_charAt_5068e : MethodName := ⟨RJ0, "charAt", "(I)C"⟩
abbrev cJ0_coder_7d493 : ByteArray := prog_13_method_152_code
def yJ0_coder_7d493 : MethodName := ⟨RJ0, "coder", "()B"⟩
abbrev cJ0_isLatin1_aae02 : ByteArray := prog_13_method_154_code
def yJ0_isLatin1_aae02 : MethodName := ⟨RJ0, "isLatin1", "()Z"⟩
abbrev cJ0_checkIndex_df160 : ByteArray := prog_13_method_155_code
def yJ0_checkIndex_df160 : MethodName := ⟨RJ0, "checkIndex", "(II)V"⟩
def RJ1 : String := "java/lang/StringLatin1"
def TJ1 : u_T := fun k => match k with
  | _ => ("", "", "", false)
def tyJ1 : Nat → FieldType := fun k => match k with
  | _ => .int
theorem nmJ1 : ∀ a, a < 0 → ∀ b, b < 0 → a ≠ b → (TJ1 a).2.1 ≠ (TJ1 b).2.1 := by decide +kernel
theorem tyJ1_ok : ∀ k, k < 0 → parseFieldDescriptor (TJ1 k).2.2.1 = some (tyJ1 k) := by decide +kernel
abbrev cJ1_charAt_3b067 : ByteArray := prog_14_method_2_code
def yJ1_charAt_3b067 : MethodName := ⟨RJ1, "charAt", "([BI)C"⟩
def RJ2 : String := "java/lang/StringUTF16"
def TJ2 : u_T := fun k => match k with
  | _ => ("", "", "", false)
def tyJ2 : Nat → FieldType := fun k => match k with
  | _ => .int
theorem nmJ2 : ∀ a, a < 0 → ∀ b, b < 0 → a ≠ b → (TJ2 a).2.1 ≠ (TJ2 b).2.1 := by decide +kernel
theorem tyJ2_ok : ∀ k, k < 0 → parseFieldDescriptor (TJ2 k).2.2.1 = some (tyJ2 k) := by decide +kernel
abbrev cJ2_getChar_3b067 : ByteArray := prog_15_method_5_code
def yJ2_getChar_3b067 : MethodName := ⟨RJ2, "getChar", "([BI)C"⟩
abbrev cJ2_length_9d52b : ByteArray := prog_15_method_6_code
def yJ2_length_9d52b : MethodName := ⟨RJ2, "length", "([B)I"⟩
abbrev cJ2_charAt_3b067 : ByteArray := prog_15_method_83_code
def yJ2_charAt_3b067 : MethodName := ⟨RJ2, "charAt", "([BI)C"⟩
abbrev cJ2_checkIndex_2214a : ByteArray := prog_15_method_91_code
def yJ2_checkIndex_2214a : MethodName := ⟨RJ2, "checkIndex", "(I[B)V"⟩
def RJ3 : String := "jdk/internal/util/Preconditions"
def TJ3 : u_T := fun k => match k with
  | _ => ("", "", "", false)
def tyJ3 : Nat → FieldType := fun k => match k with
  | _ => .int
theorem nmJ3 : ∀ a, a < 0 → ∀ b, b < 0 → a ≠ b → (TJ3 a).2.1 ≠ (TJ3 b).2.1 := by decide +kernel
theorem tyJ3_ok : ∀ k, k < 0 → parseFieldDescriptor (TJ3 k).2.2.1 = some (tyJ3 k) := by decide +kernel
abbrev cJ3_checkIndex_8e157 : ByteArray := prog_16_method_11_code
def yJ3_checkIndex_8e157 : MethodName := ⟨RJ3, "checkIndex", "(IILjava/util/function/BiFunction;)I"⟩
def RL : String := "PaperRowsLaw"
abbrev cL_law : ByteArray := code
def yL_law : MethodName := ⟨RL, "law", "([I)Z"⟩
abbrev vwCl : List vw_C := [(RX0, TX0, 2), (RX1, TX1, 3), (RX2, TX2, 4), (RX3, TX3, 2), (RX4, TX4, 6), (RX5, TX5, 2), (RX6, TX6, 7), (RX7, TX7, 2), (RX8, TX8, 13), (RX9, TX9, 55)]
end
section
theorem dX0_init_0 : decode cX0_init 0 = .ok (.aload_n 0, 1) := by decide +kernel
theorem dX0_init_1 : decode cX0_init 1 = .ok (.invokespecial 3, 3) := by decide +kernel
theorem dX0_init_4 : decode cX0_init 4 = .ok (.aload_n 0, 1) := by decide +kernel
theorem dX0_init_5 : decode cX0_init 5 = .ok (.sipush 300, 3) := by decide +kernel
theorem dX0_init_8 : decode cX0_init 8 = .ok (.anewarray 9, 3) := by decide +kernel
theorem dX0_init_11 : decode cX0_init 11 = .ok (.putfield 11, 3) := by decide +kernel
theorem dX0_init_14 : decode cX0_init 14 = .ok (.aload_n 0, 1) := by decide +kernel
theorem dX0_init_15 : decode cX0_init 15 = .ok (.iconst 0, 1) := by decide +kernel
theorem dX0_init_16 : decode cX0_init 16 = .ok (.putfield 17, 3) := by decide +kernel
theorem dX0_init_19 : decode cX0_init 19 = .ok (.return_, 1) := by decide +kernel
theorem dX0_length_0 : decode cX0_length 0 = .ok (.aload_n 0, 1) := by decide +kernel
theorem dX0_length_1 : decode cX0_length 1 = .ok (.getfield 17, 3) := by decide +kernel
theorem dX0_length_4 : decode cX0_length 4 = .ok (.ireturn, 1) := by decide +kernel
theorem dX0_isFull_0 : decode cX0_isFull 0 = .ok (.aload_n 0, 1) := by decide +kernel
theorem dX0_isFull_1 : decode cX0_isFull 1 = .ok (.getfield 17, 3) := by decide +kernel
theorem dX0_isFull_4 : decode cX0_isFull 4 = .ok (.aload_n 0, 1) := by decide +kernel
theorem dX0_isFull_5 : decode cX0_isFull 5 = .ok (.getfield 11, 3) := by decide +kernel
theorem dX0_isFull_8 : decode cX0_isFull 8 = .ok (.arraylength, 1) := by decide +kernel
theorem dX0_isFull_9 : decode cX0_isFull 9 = .ok (.if_icmp .lt 7, 3) := by decide +kernel
theorem dX0_isFull_12 : decode cX0_isFull 12 = .ok (.iconst 1, 1) := by decide +kernel
theorem dX0_isFull_13 : decode cX0_isFull 13 = .ok (.goto 4, 3) := by decide +kernel
theorem dX0_isFull_16 : decode cX0_isFull 16 = .ok (.iconst 0, 1) := by decide +kernel
theorem dX0_isFull_17 : decode cX0_isFull 17 = .ok (.ireturn, 1) := by decide +kernel
theorem dX0_add_0 : decode cX0_add 0 = .ok (.aload_n 0, 1) := by decide +kernel
theorem dX0_add_1 : decode cX0_add 1 = .ok (.getfield 17, 3) := by decide +kernel
theorem dX0_add_4 : decode cX0_add 4 = .ok (.ifCond .lt 15, 3) := by decide +kernel
theorem dX0_add_7 : decode cX0_add 7 = .ok (.aload_n 0, 1) := by decide +kernel
theorem dX0_add_8 : decode cX0_add 8 = .ok (.getfield 17, 3) := by decide +kernel
theorem dX0_add_11 : decode cX0_add 11 = .ok (.aload_n 0, 1) := by decide +kernel
theorem dX0_add_12 : decode cX0_add 12 = .ok (.getfield 11, 3) := by decide +kernel
theorem dX0_add_15 : decode cX0_add 15 = .ok (.arraylength, 1) := by decide +kernel
theorem dX0_add_16 : decode cX0_add 16 = .ok (.if_icmp .lt 4, 3) := by decide +kernel
theorem dX0_add_19 : decode cX0_add 19 = .ok (.return_, 1) := by decide +kernel
theorem dX0_add_20 : decode cX0_add 20 = .ok (.aload_n 0, 1) := by decide +kernel
theorem dX0_add_21 : decode cX0_add 21 = .ok (.getfield 11, 3) := by decide +kernel
theorem dX0_add_24 : decode cX0_add 24 = .ok (.aload_n 0, 1) := by decide +kernel
theorem dX0_add_25 : decode cX0_add 25 = .ok (.getfield 17, 3) := by decide +kernel
theorem dX0_add_28 : decode cX0_add 28 = .ok (.aload_n 1, 1) := by decide +kernel
theorem dX0_add_29 : decode cX0_add 29 = .ok (.aastore, 1) := by decide +kernel
theorem dX0_add_30 : decode cX0_add 30 = .ok (.aload_n 0, 1) := by decide +kernel
theorem dX0_add_31 : decode cX0_add 31 = .ok (.dup, 1) := by decide +kernel
theorem dX0_add_32 : decode cX0_add 32 = .ok (.getfield 17, 3) := by decide +kernel
theorem dX0_add_35 : decode cX0_add 35 = .ok (.iconst 1, 1) := by decide +kernel
theorem dX0_add_36 : decode cX0_add 36 = .ok (.iadd, 1) := by decide +kernel
theorem dX0_add_37 : decode cX0_add 37 = .ok (.putfield 17, 3) := by decide +kernel
theorem dX0_add_40 : decode cX0_add 40 = .ok (.return_, 1) := by decide +kernel
theorem dX0_replay_0 : decode cX0_replay 0 = .ok (.iconst 0, 1) := by decide +kernel
theorem dX0_replay_1 : decode cX0_replay 1 = .ok (.istore_n 3, 1) := by decide +kernel
theorem dX0_replay_2 : decode cX0_replay 2 = .ok (.iload_n 3, 1) := by decide +kernel
theorem dX0_replay_3 : decode cX0_replay 3 = .ok (.iload_n 1, 1) := by decide +kernel
theorem dX0_replay_4 : decode cX0_replay 4 = .ok (.if_icmp .ge 37, 3) := by decide +kernel
theorem dX0_replay_7 : decode cX0_replay 7 = .ok (.iload_n 3, 1) := by decide +kernel
theorem dX0_replay_8 : decode cX0_replay 8 = .ok (.aload_n 0, 1) := by decide +kernel
theorem dX0_replay_9 : decode cX0_replay 9 = .ok (.getfield 11, 3) := by decide +kernel
theorem dX0_replay_12 : decode cX0_replay 12 = .ok (.arraylength, 1) := by decide +kernel
theorem dX0_replay_13 : decode cX0_replay 13 = .ok (.if_icmp .ge 28, 3) := by decide +kernel
theorem dX0_replay_16 : decode cX0_replay 16 = .ok (.aload_n 0, 1) := by decide +kernel
theorem dX0_replay_17 : decode cX0_replay 17 = .ok (.getfield 11, 3) := by decide +kernel
theorem dX0_replay_20 : decode cX0_replay 20 = .ok (.iload_n 3, 1) := by decide +kernel
theorem dX0_replay_21 : decode cX0_replay 21 = .ok (.aaload, 1) := by decide +kernel
theorem dX0_replay_22 : decode cX0_replay 22 = .ok (.astore 4, 2) := by decide +kernel
theorem dX0_replay_24 : decode cX0_replay 24 = .ok (.aload 4, 2) := by decide +kernel
theorem dX0_replay_26 : decode cX0_replay 26 = .ok (.ifnull 9, 3) := by decide +kernel
theorem dX0_replay_29 : decode cX0_replay 29 = .ok (.aload_n 2, 1) := by decide +kernel
theorem dX0_replay_30 : decode cX0_replay 30 = .ok (.aload 4, 2) := by decide +kernel
theorem dX0_replay_32 : decode cX0_replay 32 = .ok (.invokevirtual 21, 3) := by decide +kernel
theorem dX0_replay_35 : decode cX0_replay 35 = .ok (.iinc 3 1, 3) := by decide +kernel
theorem dX0_replay_38 : decode cX0_replay 38 = .ok (.goto (-36), 3) := by decide +kernel
theorem dX0_replay_41 : decode cX0_replay 41 = .ok (.return_, 1) := by decide +kernel
theorem dX1_init_0 : decode cX1_init 0 = .ok (.aload_n 0, 1) := by decide +kernel
theorem dX1_init_1 : decode cX1_init 1 = .ok (.invokespecial 3, 3) := by decide +kernel
theorem dX1_init_4 : decode cX1_init 4 = .ok (.aload_n 0, 1) := by decide +kernel
theorem dX1_init_5 : decode cX1_init 5 = .ok (.sipush 600, 3) := by decide +kernel
theorem dX1_init_8 : decode cX1_init 8 = .ok (.newarray .int, 2) := by decide +kernel
theorem dX1_init_10 : decode cX1_init 10 = .ok (.putfield 9, 3) := by decide +kernel
theorem dX1_init_13 : decode cX1_init 13 = .ok (.aload_n 0, 1) := by decide +kernel
theorem dX1_init_14 : decode cX1_init 14 = .ok (.iconst 0, 1) := by decide +kernel
theorem dX1_init_15 : decode cX1_init 15 = .ok (.putfield 15, 3) := by decide +kernel
theorem dX1_init_18 : decode cX1_init 18 = .ok (.aload_n 0, 1) := by decide +kernel
theorem dX1_init_19 : decode cX1_init 19 = .ok (.lconst 0, 1) := by decide +kernel
theorem dX1_init_20 : decode cX1_init 20 = .ok (.putfield 19, 3) := by decide +kernel
theorem dX1_init_23 : decode cX1_init 23 = .ok (.return_, 1) := by decide +kernel
theorem dX1_length_0 : decode cX1_length 0 = .ok (.aload_n 0, 1) := by decide +kernel
theorem dX1_length_1 : decode cX1_length 1 = .ok (.getfield 15, 3) := by decide +kernel
theorem dX1_length_4 : decode cX1_length 4 = .ok (.ireturn, 1) := by decide +kernel
theorem dX1_at_0 : decode cX1_at 0 = .ok (.iload_n 1, 1) := by decide +kernel
theorem dX1_at_1 : decode cX1_at 1 = .ok (.ifCond .lt 29, 3) := by decide +kernel
theorem dX1_at_4 : decode cX1_at 4 = .ok (.iload_n 1, 1) := by decide +kernel
theorem dX1_at_5 : decode cX1_at 5 = .ok (.aload_n 0, 1) := by decide +kernel
theorem dX1_at_6 : decode cX1_at 6 = .ok (.getfield 15, 3) := by decide +kernel
theorem dX1_at_9 : decode cX1_at 9 = .ok (.if_icmp .ge 21, 3) := by decide +kernel
theorem dX1_at_12 : decode cX1_at 12 = .ok (.iload_n 1, 1) := by decide +kernel
theorem dX1_at_13 : decode cX1_at 13 = .ok (.aload_n 0, 1) := by decide +kernel
theorem dX1_at_14 : decode cX1_at 14 = .ok (.getfield 9, 3) := by decide +kernel
theorem dX1_at_17 : decode cX1_at 17 = .ok (.arraylength, 1) := by decide +kernel
theorem dX1_at_18 : decode cX1_at 18 = .ok (.if_icmp .ge 12, 3) := by decide +kernel
theorem dX1_at_21 : decode cX1_at 21 = .ok (.aload_n 0, 1) := by decide +kernel
theorem dX1_at_22 : decode cX1_at 22 = .ok (.getfield 9, 3) := by decide +kernel
theorem dX1_at_25 : decode cX1_at 25 = .ok (.iload_n 1, 1) := by decide +kernel
theorem dX1_at_26 : decode cX1_at 26 = .ok (.iaload, 1) := by decide +kernel
theorem dX1_at_27 : decode cX1_at 27 = .ok (.goto 6, 3) := by decide +kernel
theorem dX1_at_30 : decode cX1_at 30 = .ok (.sipush (-5000), 3) := by decide +kernel
theorem dX1_at_33 : decode cX1_at 33 = .ok (.ireturn, 1) := by decide +kernel
theorem dX1_isValueAt_0 : decode cX1_isValueAt 0 = .ok (.aload_n 0, 1) := by decide +kernel
theorem dX1_isValueAt_1 : decode cX1_isValueAt 1 = .ok (.iload_n 1, 1) := by decide +kernel
theorem dX1_isValueAt_2 : decode cX1_isValueAt 2 = .ok (.invokevirtual 23, 3) := by decide +kernel
theorem dX1_isValueAt_5 : decode cX1_isValueAt 5 = .ok (.invokestatic 27, 3) := by decide +kernel
theorem dX1_isValueAt_8 : decode cX1_isValueAt 8 = .ok (.ireturn, 1) := by decide +kernel
theorem dX1_put_0 : decode cX1_put 0 = .ok (.iload_n 1, 1) := by decide +kernel
theorem dX1_put_1 : decode cX1_put 1 = .ok (.ifCond .lt 27, 3) := by decide +kernel
theorem dX1_put_4 : decode cX1_put 4 = .ok (.iload_n 1, 1) := by decide +kernel
theorem dX1_put_5 : decode cX1_put 5 = .ok (.aload_n 0, 1) := by decide +kernel
theorem dX1_put_6 : decode cX1_put 6 = .ok (.getfield 15, 3) := by decide +kernel
theorem dX1_put_9 : decode cX1_put 9 = .ok (.if_icmp .ge 19, 3) := by decide +kernel
theorem dX1_put_12 : decode cX1_put 12 = .ok (.iload_n 1, 1) := by decide +kernel
theorem dX1_put_13 : decode cX1_put 13 = .ok (.aload_n 0, 1) := by decide +kernel
theorem dX1_put_14 : decode cX1_put 14 = .ok (.getfield 9, 3) := by decide +kernel
theorem dX1_put_17 : decode cX1_put 17 = .ok (.arraylength, 1) := by decide +kernel
theorem dX1_put_18 : decode cX1_put 18 = .ok (.if_icmp .ge 10, 3) := by decide +kernel
theorem dX1_put_21 : decode cX1_put 21 = .ok (.aload_n 0, 1) := by decide +kernel
theorem dX1_put_22 : decode cX1_put 22 = .ok (.getfield 9, 3) := by decide +kernel
theorem dX1_put_25 : decode cX1_put 25 = .ok (.iload_n 1, 1) := by decide +kernel
theorem dX1_put_26 : decode cX1_put 26 = .ok (.iload_n 2, 1) := by decide +kernel
theorem dX1_put_27 : decode cX1_put 27 = .ok (.iastore, 1) := by decide +kernel
theorem dX1_put_28 : decode cX1_put 28 = .ok (.return_, 1) := by decide +kernel
theorem dX1_hasMarksOf_0 : decode cX1_hasMarksOf 0 = .ok (.aload_n 0, 1) := by decide +kernel
theorem dX1_hasMarksOf_1 : decode cX1_hasMarksOf 1 = .ok (.getfield 15, 3) := by decide +kernel
theorem dX1_hasMarksOf_4 : decode cX1_hasMarksOf 4 = .ok (.aload_n 1, 1) := by decide +kernel
theorem dX1_hasMarksOf_5 : decode cX1_hasMarksOf 5 = .ok (.getfield 15, 3) := by decide +kernel
theorem dX1_hasMarksOf_8 : decode cX1_hasMarksOf 8 = .ok (.if_icmp .eq 5, 3) := by decide +kernel
theorem dX1_hasMarksOf_11 : decode cX1_hasMarksOf 11 = .ok (.iconst 0, 1) := by decide +kernel
theorem dX1_hasMarksOf_12 : decode cX1_hasMarksOf 12 = .ok (.ireturn, 1) := by decide +kernel
theorem dX1_hasMarksOf_13 : decode cX1_hasMarksOf 13 = .ok (.iconst 0, 1) := by decide +kernel
theorem dX1_hasMarksOf_14 : decode cX1_hasMarksOf 14 = .ok (.istore_n 2, 1) := by decide +kernel
theorem dX1_hasMarksOf_15 : decode cX1_hasMarksOf 15 = .ok (.iload_n 2, 1) := by decide +kernel
theorem dX1_hasMarksOf_16 : decode cX1_hasMarksOf 16 = .ok (.aload_n 0, 1) := by decide +kernel
theorem dX1_hasMarksOf_17 : decode cX1_hasMarksOf 17 = .ok (.getfield 15, 3) := by decide +kernel
theorem dX1_hasMarksOf_20 : decode cX1_hasMarksOf 20 = .ok (.if_icmp .ge 31, 3) := by decide +kernel
theorem dX1_hasMarksOf_23 : decode cX1_hasMarksOf 23 = .ok (.iload_n 2, 1) := by decide +kernel
theorem dX1_hasMarksOf_24 : decode cX1_hasMarksOf 24 = .ok (.sipush 600, 3) := by decide +kernel
theorem dX1_hasMarksOf_27 : decode cX1_hasMarksOf 27 = .ok (.if_icmp .ge 24, 3) := by decide +kernel
theorem dX1_hasMarksOf_30 : decode cX1_hasMarksOf 30 = .ok (.aload_n 0, 1) := by decide +kernel
theorem dX1_hasMarksOf_31 : decode cX1_hasMarksOf 31 = .ok (.iload_n 2, 1) := by decide +kernel
theorem dX1_hasMarksOf_32 : decode cX1_hasMarksOf 32 = .ok (.invokevirtual 23, 3) := by decide +kernel
theorem dX1_hasMarksOf_35 : decode cX1_hasMarksOf 35 = .ok (.aload_n 1, 1) := by decide +kernel
theorem dX1_hasMarksOf_36 : decode cX1_hasMarksOf 36 = .ok (.iload_n 2, 1) := by decide +kernel
theorem dX1_hasMarksOf_37 : decode cX1_hasMarksOf 37 = .ok (.invokevirtual 23, 3) := by decide +kernel
theorem dX1_hasMarksOf_40 : decode cX1_hasMarksOf 40 = .ok (.if_icmp .eq 5, 3) := by decide +kernel
theorem dX1_hasMarksOf_43 : decode cX1_hasMarksOf 43 = .ok (.iconst 0, 1) := by decide +kernel
theorem dX1_hasMarksOf_44 : decode cX1_hasMarksOf 44 = .ok (.ireturn, 1) := by decide +kernel
theorem dX1_hasMarksOf_45 : decode cX1_hasMarksOf 45 = .ok (.iinc 2 1, 3) := by decide +kernel
theorem dX1_hasMarksOf_48 : decode cX1_hasMarksOf 48 = .ok (.goto (-33), 3) := by decide +kernel
theorem dX1_hasMarksOf_51 : decode cX1_hasMarksOf 51 = .ok (.iconst 1, 1) := by decide +kernel
theorem dX1_hasMarksOf_52 : decode cX1_hasMarksOf 52 = .ok (.ireturn, 1) := by decide +kernel
theorem dX1_takeFrom_0 : decode cX1_takeFrom 0 = .ok (.aload_n 0, 1) := by decide +kernel
theorem dX1_takeFrom_1 : decode cX1_takeFrom 1 = .ok (.aload_n 1, 1) := by decide +kernel
theorem dX1_takeFrom_2 : decode cX1_takeFrom 2 = .ok (.getfield 15, 3) := by decide +kernel
theorem dX1_takeFrom_5 : decode cX1_takeFrom 5 = .ok (.putfield 15, 3) := by decide +kernel
theorem dX1_takeFrom_8 : decode cX1_takeFrom 8 = .ok (.iconst 0, 1) := by decide +kernel
theorem dX1_takeFrom_9 : decode cX1_takeFrom 9 = .ok (.istore_n 2, 1) := by decide +kernel
theorem dX1_takeFrom_10 : decode cX1_takeFrom 10 = .ok (.iload_n 2, 1) := by decide +kernel
theorem dX1_takeFrom_11 : decode cX1_takeFrom 11 = .ok (.aload_n 0, 1) := by decide +kernel
theorem dX1_takeFrom_12 : decode cX1_takeFrom 12 = .ok (.getfield 15, 3) := by decide +kernel
theorem dX1_takeFrom_15 : decode cX1_takeFrom 15 = .ok (.if_icmp .ge 29, 3) := by decide +kernel
theorem dX1_takeFrom_18 : decode cX1_takeFrom 18 = .ok (.iload_n 2, 1) := by decide +kernel
theorem dX1_takeFrom_19 : decode cX1_takeFrom 19 = .ok (.aload_n 0, 1) := by decide +kernel
theorem dX1_takeFrom_20 : decode cX1_takeFrom 20 = .ok (.getfield 9, 3) := by decide +kernel
theorem dX1_takeFrom_23 : decode cX1_takeFrom 23 = .ok (.arraylength, 1) := by decide +kernel
theorem dX1_takeFrom_24 : decode cX1_takeFrom 24 = .ok (.if_icmp .ge 20, 3) := by decide +kernel
theorem dX1_takeFrom_27 : decode cX1_takeFrom 27 = .ok (.aload_n 0, 1) := by decide +kernel
theorem dX1_takeFrom_28 : decode cX1_takeFrom 28 = .ok (.getfield 9, 3) := by decide +kernel
theorem dX1_takeFrom_31 : decode cX1_takeFrom 31 = .ok (.iload_n 2, 1) := by decide +kernel
theorem dX1_takeFrom_32 : decode cX1_takeFrom 32 = .ok (.aload_n 1, 1) := by decide +kernel
theorem dX1_takeFrom_33 : decode cX1_takeFrom 33 = .ok (.iload_n 2, 1) := by decide +kernel
theorem dX1_takeFrom_34 : decode cX1_takeFrom 34 = .ok (.invokevirtual 23, 3) := by decide +kernel
theorem dX1_takeFrom_37 : decode cX1_takeFrom 37 = .ok (.iastore, 1) := by decide +kernel
theorem dX1_takeFrom_38 : decode cX1_takeFrom 38 = .ok (.iinc 2 1, 3) := by decide +kernel
theorem dX1_takeFrom_41 : decode cX1_takeFrom 41 = .ok (.goto (-31), 3) := by decide +kernel
theorem dX1_takeFrom_44 : decode cX1_takeFrom 44 = .ok (.return_, 1) := by decide +kernel
theorem dX1_rowAround_0 : decode cX1_rowAround 0 = .ok (.iconst 0, 1) := by decide +kernel
theorem dX1_rowAround_1 : decode cX1_rowAround 1 = .ok (.istore_n 2, 1) := by decide +kernel
theorem dX1_rowAround_2 : decode cX1_rowAround 2 = .ok (.iload_n 1, 1) := by decide +kernel
theorem dX1_rowAround_3 : decode cX1_rowAround 3 = .ok (.iconst 0, 1) := by decide +kernel
theorem dX1_rowAround_4 : decode cX1_rowAround 4 = .ok (.invokestatic 31, 3) := by decide +kernel
theorem dX1_rowAround_7 : decode cX1_rowAround 7 = .ok (.aload_n 0, 1) := by decide +kernel
theorem dX1_rowAround_8 : decode cX1_rowAround 8 = .ok (.getfield 15, 3) := by decide +kernel
theorem dX1_rowAround_11 : decode cX1_rowAround 11 = .ok (.invokestatic 37, 3) := by decide +kernel
theorem dX1_rowAround_14 : decode cX1_rowAround 14 = .ok (.iconst 1, 1) := by decide +kernel
theorem dX1_rowAround_15 : decode cX1_rowAround 15 = .ok (.isub, 1) := by decide +kernel
theorem dX1_rowAround_16 : decode cX1_rowAround 16 = .ok (.istore_n 3, 1) := by decide +kernel
theorem dX1_rowAround_17 : decode cX1_rowAround 17 = .ok (.iload_n 3, 1) := by decide +kernel
theorem dX1_rowAround_18 : decode cX1_rowAround 18 = .ok (.ifCond .lt 60, 3) := by decide +kernel
theorem dX1_rowAround_21 : decode cX1_rowAround 21 = .ok (.aload_n 0, 1) := by decide +kernel
theorem dX1_rowAround_22 : decode cX1_rowAround 22 = .ok (.iload_n 3, 1) := by decide +kernel
theorem dX1_rowAround_23 : decode cX1_rowAround 23 = .ok (.invokevirtual 23, 3) := by decide +kernel
theorem dX1_rowAround_26 : decode cX1_rowAround 26 = .ok (.istore 4, 2) := by decide +kernel
theorem dX1_rowAround_28 : decode cX1_rowAround 28 = .ok (.iload 4, 2) := by decide +kernel
theorem dX1_rowAround_30 : decode cX1_rowAround 30 = .ok (.sipush 30000, 3) := by decide +kernel
theorem dX1_rowAround_33 : decode cX1_rowAround 33 = .ok (.if_icmp .ne 9, 3) := by decide +kernel
theorem dX1_rowAround_36 : decode cX1_rowAround 36 = .ok (.iinc 2 1, 3) := by decide +kernel
theorem dX1_rowAround_39 : decode cX1_rowAround 39 = .ok (.goto 33, 3) := by decide +kernel
theorem dX1_rowAround_42 : decode cX1_rowAround 42 = .ok (.iload 4, 2) := by decide +kernel
theorem dX1_rowAround_44 : decode cX1_rowAround 44 = .ok (.sipush 10000, 3) := by decide +kernel
theorem dX1_rowAround_47 : decode cX1_rowAround 47 = .ok (.if_icmp .lt 25, 3) := by decide +kernel
theorem dX1_rowAround_50 : decode cX1_rowAround 50 = .ok (.iload 4, 2) := by decide +kernel
theorem dX1_rowAround_52 : decode cX1_rowAround 52 = .ok (.sipush 20000, 3) := by decide +kernel
theorem dX1_rowAround_55 : decode cX1_rowAround 55 = .ok (.if_icmp .ge 17, 3) := by decide +kernel
theorem dX1_rowAround_58 : decode cX1_rowAround 58 = .ok (.iload_n 2, 1) := by decide +kernel
theorem dX1_rowAround_59 : decode cX1_rowAround 59 = .ok (.ifCond .ne 10, 3) := by decide +kernel
theorem dX1_rowAround_62 : decode cX1_rowAround 62 = .ok (.iload 4, 2) := by decide +kernel
theorem dX1_rowAround_64 : decode cX1_rowAround 64 = .ok (.sipush 10000, 3) := by decide +kernel
theorem dX1_rowAround_67 : decode cX1_rowAround 67 = .ok (.isub, 1) := by decide +kernel
theorem dX1_rowAround_68 : decode cX1_rowAround 68 = .ok (.ireturn, 1) := by decide +kernel
theorem dX1_rowAround_69 : decode cX1_rowAround 69 = .ok (.iinc 2 (-1), 3) := by decide +kernel
theorem dX1_rowAround_72 : decode cX1_rowAround 72 = .ok (.iinc 3 (-1), 3) := by decide +kernel
theorem dX1_rowAround_75 : decode cX1_rowAround 75 = .ok (.goto (-58), 3) := by decide +kernel
theorem dX1_rowAround_78 : decode cX1_rowAround 78 = .ok (.iconst (-1), 1) := by decide +kernel
theorem dX1_rowAround_79 : decode cX1_rowAround 79 = .ok (.ireturn, 1) := by decide +kernel
theorem dX1_gather_0 : decode cX1_gather 0 = .ok (.aload_n 0, 1) := by decide +kernel
theorem dX1_gather_1 : decode cX1_gather 1 = .ok (.iconst 0, 1) := by decide +kernel
theorem dX1_gather_2 : decode cX1_gather 2 = .ok (.putfield 15, 3) := by decide +kernel
theorem dX1_gather_5 : decode cX1_gather 5 = .ok (.aload_n 0, 1) := by decide +kernel
theorem dX1_gather_6 : decode cX1_gather 6 = .ok (.lconst 0, 1) := by decide +kernel
theorem dX1_gather_7 : decode cX1_gather 7 = .ok (.putfield 19, 3) := by decide +kernel
theorem dX1_gather_10 : decode cX1_gather 10 = .ok (.aload_n 2, 1) := by decide +kernel
theorem dX1_gather_11 : decode cX1_gather 11 = .ok (.iload_n 3, 1) := by decide +kernel
theorem dX1_gather_12 : decode cX1_gather 12 = .ok (.invokevirtual 40, 3) := by decide +kernel
theorem dX1_gather_15 : decode cX1_gather 15 = .ok (.astore 4, 2) := by decide +kernel
theorem dX1_gather_17 : decode cX1_gather 17 = .ok (.aload 4, 2) := by decide +kernel
theorem dX1_gather_19 : decode cX1_gather 19 = .ok (.ifnull 26, 3) := by decide +kernel
theorem dX1_gather_22 : decode cX1_gather 22 = .ok (.aload 4, 2) := by decide +kernel
theorem dX1_gather_24 : decode cX1_gather 24 = .ok (.getfield 46, 3) := by decide +kernel
theorem dX1_gather_27 : decode cX1_gather 27 = .ok (.aload_n 1, 1) := by decide +kernel
theorem dX1_gather_28 : decode cX1_gather 28 = .ok (.iconst 0, 1) := by decide +kernel
theorem dX1_gather_29 : decode cX1_gather 29 = .ok (.invokevirtual 51, 3) := by decide +kernel
theorem dX1_gather_32 : decode cX1_gather 32 = .ok (.if_icmp .ne 13, 3) := by decide +kernel
theorem dX1_gather_35 : decode cX1_gather 35 = .ok (.aload_n 0, 1) := by decide +kernel
theorem dX1_gather_36 : decode cX1_gather 36 = .ok (.aload_n 1, 1) := by decide +kernel
theorem dX1_gather_37 : decode cX1_gather 37 = .ok (.aload_n 2, 1) := by decide +kernel
theorem dX1_gather_38 : decode cX1_gather 38 = .ok (.iconst 0, 1) := by decide +kernel
theorem dX1_gather_39 : decode cX1_gather 39 = .ok (.aload 4, 2) := by decide +kernel
theorem dX1_gather_41 : decode cX1_gather 41 = .ok (.iconst 0, 1) := by decide +kernel
theorem dX1_gather_42 : decode cX1_gather 42 = .ok (.invokevirtual 56, 3) := by decide +kernel
theorem dX1_gather_45 : decode cX1_gather 45 = .ok (.return_, 1) := by decide +kernel
theorem dX1_addPart_0 : decode cX1_addPart 0 = .ok (.iload 5, 2) := by decide +kernel
theorem dX1_addPart_2 : decode cX1_addPart 2 = .ok (.bipush 6, 2) := by decide +kernel
theorem dX1_addPart_4 : decode cX1_addPart 4 = .ok (.if_icmp .gt 10, 3) := by decide +kernel
theorem dX1_addPart_7 : decode cX1_addPart 7 = .ok (.aload_n 0, 1) := by decide +kernel
theorem dX1_addPart_8 : decode cX1_addPart 8 = .ok (.invokevirtual 60, 3) := by decide +kernel
theorem dX1_addPart_11 : decode cX1_addPart 11 = .ok (.ifCond .eq 4, 3) := by decide +kernel
theorem dX1_addPart_14 : decode cX1_addPart 14 = .ok (.return_, 1) := by decide +kernel
theorem dX1_addPart_15 : decode cX1_addPart 15 = .ok (.lconst 1, 1) := by decide +kernel
theorem dX1_addPart_16 : decode cX1_addPart 16 = .ok (.aload 4, 2) := by decide +kernel
theorem dX1_addPart_18 : decode cX1_addPart 18 = .ok (.getfield 64, 3) := by decide +kernel
theorem dX1_addPart_21 : decode cX1_addPart 21 = .ok (.lshl, 1) := by decide +kernel
theorem dX1_addPart_22 : decode cX1_addPart 22 = .ok (.lstore 6, 2) := by decide +kernel
theorem dX1_addPart_24 : decode cX1_addPart 24 = .ok (.aload_n 0, 1) := by decide +kernel
theorem dX1_addPart_25 : decode cX1_addPart 25 = .ok (.getfield 19, 3) := by decide +kernel
theorem dX1_addPart_28 : decode cX1_addPart 28 = .ok (.lload 6, 2) := by decide +kernel
theorem dX1_addPart_30 : decode cX1_addPart 30 = .ok (.land, 1) := by decide +kernel
theorem dX1_addPart_31 : decode cX1_addPart 31 = .ok (.lconst 0, 1) := by decide +kernel
theorem dX1_addPart_32 : decode cX1_addPart 32 = .ok (.lcmp, 1) := by decide +kernel
theorem dX1_addPart_33 : decode cX1_addPart 33 = .ok (.ifCond .eq 17, 3) := by decide +kernel
theorem dX1_addPart_36 : decode cX1_addPart 36 = .ok (.aload_n 0, 1) := by decide +kernel
theorem dX1_addPart_37 : decode cX1_addPart 37 = .ok (.sipush 20000, 3) := by decide +kernel
theorem dX1_addPart_40 : decode cX1_addPart 40 = .ok (.aload 4, 2) := by decide +kernel
theorem dX1_addPart_42 : decode cX1_addPart 42 = .ok (.getfield 64, 3) := by decide +kernel
theorem dX1_addPart_45 : decode cX1_addPart 45 = .ok (.iadd, 1) := by decide +kernel
theorem dX1_addPart_46 : decode cX1_addPart 46 = .ok (.invokevirtual 67, 3) := by decide +kernel
theorem dX1_addPart_49 : decode cX1_addPart 49 = .ok (.return_, 1) := by decide +kernel
theorem dX1_addPart_50 : decode cX1_addPart 50 = .ok (.aload_n 0, 1) := by decide +kernel
theorem dX1_addPart_51 : decode cX1_addPart 51 = .ok (.dup, 1) := by decide +kernel
theorem dX1_addPart_52 : decode cX1_addPart 52 = .ok (.getfield 19, 3) := by decide +kernel
theorem dX1_addPart_55 : decode cX1_addPart 55 = .ok (.lload 6, 2) := by decide +kernel
theorem dX1_addPart_57 : decode cX1_addPart 57 = .ok (.lor, 1) := by decide +kernel
theorem dX1_addPart_58 : decode cX1_addPart 58 = .ok (.putfield 19, 3) := by decide +kernel
theorem dX1_addPart_61 : decode cX1_addPart 61 = .ok (.aload_n 0, 1) := by decide +kernel
theorem dX1_addPart_62 : decode cX1_addPart 62 = .ok (.sipush 10000, 3) := by decide +kernel
theorem dX1_addPart_65 : decode cX1_addPart 65 = .ok (.aload 4, 2) := by decide +kernel
theorem dX1_addPart_67 : decode cX1_addPart 67 = .ok (.getfield 64, 3) := by decide +kernel
theorem dX1_addPart_70 : decode cX1_addPart 70 = .ok (.iadd, 1) := by decide +kernel
theorem dX1_addPart_71 : decode cX1_addPart 71 = .ok (.invokevirtual 67, 3) := by decide +kernel
theorem dX1_addPart_74 : decode cX1_addPart 74 = .ok (.aload_n 1, 1) := by decide +kernel
theorem dX1_addPart_75 : decode cX1_addPart 75 = .ok (.invokevirtual 71, 3) := by decide +kernel
theorem dX1_addPart_78 : decode cX1_addPart 78 = .ok (.istore 8, 2) := by decide +kernel
theorem dX1_addPart_80 : decode cX1_addPart 80 = .ok (.iconst 0, 1) := by decide +kernel
theorem dX1_addPart_81 : decode cX1_addPart 81 = .ok (.istore 9, 2) := by decide +kernel
theorem dX1_addPart_83 : decode cX1_addPart 83 = .ok (.iload 9, 2) := by decide +kernel
theorem dX1_addPart_85 : decode cX1_addPart 85 = .ok (.iload 8, 2) := by decide +kernel
theorem dX1_addPart_87 : decode cX1_addPart 87 = .ok (.if_icmp .ge 87, 3) := by decide +kernel
theorem dX1_addPart_90 : decode cX1_addPart 90 = .ok (.aload_n 1, 1) := by decide +kernel
theorem dX1_addPart_91 : decode cX1_addPart 91 = .ok (.iload 9, 2) := by decide +kernel
theorem dX1_addPart_93 : decode cX1_addPart 93 = .ok (.invokevirtual 75, 3) := by decide +kernel
theorem dX1_addPart_96 : decode cX1_addPart 96 = .ok (.iload_n 3, 1) := by decide +kernel
theorem dX1_addPart_97 : decode cX1_addPart 97 = .ok (.if_icmp .ne 12, 3) := by decide +kernel
theorem dX1_addPart_100 : decode cX1_addPart 100 = .ok (.aload_n 1, 1) := by decide +kernel
theorem dX1_addPart_101 : decode cX1_addPart 101 = .ok (.iload 9, 2) := by decide +kernel
theorem dX1_addPart_103 : decode cX1_addPart 103 = .ok (.invokevirtual 78, 3) := by decide +kernel
theorem dX1_addPart_106 : decode cX1_addPart 106 = .ok (.goto 4, 3) := by decide +kernel
theorem dX1_addPart_109 : decode cX1_addPart 109 = .ok (.iconst (-1), 1) := by decide +kernel
theorem dX1_addPart_110 : decode cX1_addPart 110 = .ok (.istore 10, 2) := by decide +kernel
theorem dX1_addPart_112 : decode cX1_addPart 112 = .ok (.iload 10, 2) := by decide +kernel
theorem dX1_addPart_114 : decode cX1_addPart 114 = .ok (.ifCond .ne 15, 3) := by decide +kernel
theorem dX1_addPart_117 : decode cX1_addPart 117 = .ok (.aload_n 0, 1) := by decide +kernel
theorem dX1_addPart_118 : decode cX1_addPart 118 = .ok (.aload 4, 2) := by decide +kernel
theorem dX1_addPart_120 : decode cX1_addPart 120 = .ok (.getfield 81, 3) := by decide +kernel
theorem dX1_addPart_123 : decode cX1_addPart 123 = .ok (.invokevirtual 67, 3) := by decide +kernel
theorem dX1_addPart_126 : decode cX1_addPart 126 = .ok (.goto 42, 3) := by decide +kernel
theorem dX1_addPart_129 : decode cX1_addPart 129 = .ok (.iload 10, 2) := by decide +kernel
theorem dX1_addPart_131 : decode cX1_addPart 131 = .ok (.iconst 1, 1) := by decide +kernel
theorem dX1_addPart_132 : decode cX1_addPart 132 = .ok (.if_icmp .ne 18, 3) := by decide +kernel
theorem dX1_addPart_135 : decode cX1_addPart 135 = .ok (.aload_n 0, 1) := by decide +kernel
theorem dX1_addPart_136 : decode cX1_addPart 136 = .ok (.aload_n 1, 1) := by decide +kernel
theorem dX1_addPart_137 : decode cX1_addPart 137 = .ok (.aload_n 2, 1) := by decide +kernel
theorem dX1_addPart_138 : decode cX1_addPart 138 = .ok (.iload 9, 2) := by decide +kernel
theorem dX1_addPart_140 : decode cX1_addPart 140 = .ok (.aload 4, 2) := by decide +kernel
theorem dX1_addPart_142 : decode cX1_addPart 142 = .ok (.iload 5, 2) := by decide +kernel
theorem dX1_addPart_144 : decode cX1_addPart 144 = .ok (.invokevirtual 84, 3) := by decide +kernel
theorem dX1_addPart_147 : decode cX1_addPart 147 = .ok (.goto 21, 3) := by decide +kernel
theorem dX1_addPart_150 : decode cX1_addPart 150 = .ok (.iload 10, 2) := by decide +kernel
theorem dX1_addPart_152 : decode cX1_addPart 152 = .ok (.iconst 2, 1) := by decide +kernel
theorem dX1_addPart_153 : decode cX1_addPart 153 = .ok (.if_icmp .ne 15, 3) := by decide +kernel
theorem dX1_addPart_156 : decode cX1_addPart 156 = .ok (.aload_n 0, 1) := by decide +kernel
theorem dX1_addPart_157 : decode cX1_addPart 157 = .ok (.aload_n 1, 1) := by decide +kernel
theorem dX1_addPart_158 : decode cX1_addPart 158 = .ok (.aload_n 2, 1) := by decide +kernel
theorem dX1_addPart_159 : decode cX1_addPart 159 = .ok (.iload 9, 2) := by decide +kernel
theorem dX1_addPart_161 : decode cX1_addPart 161 = .ok (.aload 4, 2) := by decide +kernel
theorem dX1_addPart_163 : decode cX1_addPart 163 = .ok (.iload 5, 2) := by decide +kernel
theorem dX1_addPart_165 : decode cX1_addPart 165 = .ok (.invokevirtual 87, 3) := by decide +kernel
theorem dX1_addPart_168 : decode cX1_addPart 168 = .ok (.iinc 9 1, 3) := by decide +kernel
theorem dX1_addPart_171 : decode cX1_addPart 171 = .ok (.goto (-88), 3) := by decide +kernel
theorem dX1_addPart_174 : decode cX1_addPart 174 = .ok (.aload_n 0, 1) := by decide +kernel
theorem dX1_addPart_175 : decode cX1_addPart 175 = .ok (.sipush 30000, 3) := by decide +kernel
theorem dX1_addPart_178 : decode cX1_addPart 178 = .ok (.invokevirtual 67, 3) := by decide +kernel
theorem dX1_addPart_181 : decode cX1_addPart 181 = .ok (.return_, 1) := by decide +kernel
theorem dX1_addUp_0 : decode cX1_addUp 0 = .ok (.aload_n 1, 1) := by decide +kernel
theorem dX1_addUp_1 : decode cX1_addUp 1 = .ok (.iload_n 3, 1) := by decide +kernel
theorem dX1_addUp_2 : decode cX1_addUp 2 = .ok (.invokevirtual 90, 3) := by decide +kernel
theorem dX1_addUp_5 : decode cX1_addUp 5 = .ok (.istore 6, 2) := by decide +kernel
theorem dX1_addUp_7 : decode cX1_addUp 7 = .ok (.aload_n 2, 1) := by decide +kernel
theorem dX1_addUp_8 : decode cX1_addUp 8 = .ok (.aload 4, 2) := by decide +kernel
theorem dX1_addUp_10 : decode cX1_addUp 10 = .ok (.aload_n 1, 1) := by decide +kernel
theorem dX1_addUp_11 : decode cX1_addUp 11 = .ok (.iload_n 3, 1) := by decide +kernel
theorem dX1_addUp_12 : decode cX1_addUp 12 = .ok (.invokevirtual 93, 3) := by decide +kernel
theorem dX1_addUp_15 : decode cX1_addUp 15 = .ok (.invokevirtual 96, 3) := by decide +kernel
theorem dX1_addUp_18 : decode cX1_addUp 18 = .ok (.invokevirtual 40, 3) := by decide +kernel
theorem dX1_addUp_21 : decode cX1_addUp 21 = .ok (.astore 7, 2) := by decide +kernel
theorem dX1_addUp_23 : decode cX1_addUp 23 = .ok (.aload 7, 2) := by decide +kernel
theorem dX1_addUp_25 : decode cX1_addUp 25 = .ok (.ifnull 31, 3) := by decide +kernel
theorem dX1_addUp_28 : decode cX1_addUp 28 = .ok (.aload 7, 2) := by decide +kernel
theorem dX1_addUp_30 : decode cX1_addUp 30 = .ok (.getfield 46, 3) := by decide +kernel
theorem dX1_addUp_33 : decode cX1_addUp 33 = .ok (.aload_n 1, 1) := by decide +kernel
theorem dX1_addUp_34 : decode cX1_addUp 34 = .ok (.iload 6, 2) := by decide +kernel
theorem dX1_addUp_36 : decode cX1_addUp 36 = .ok (.invokevirtual 51, 3) := by decide +kernel
theorem dX1_addUp_39 : decode cX1_addUp 39 = .ok (.if_icmp .ne 17, 3) := by decide +kernel
theorem dX1_addUp_42 : decode cX1_addUp 42 = .ok (.aload_n 0, 1) := by decide +kernel
theorem dX1_addUp_43 : decode cX1_addUp 43 = .ok (.aload_n 1, 1) := by decide +kernel
theorem dX1_addUp_44 : decode cX1_addUp 44 = .ok (.aload_n 2, 1) := by decide +kernel
theorem dX1_addUp_45 : decode cX1_addUp 45 = .ok (.iload 6, 2) := by decide +kernel
theorem dX1_addUp_47 : decode cX1_addUp 47 = .ok (.aload 7, 2) := by decide +kernel
theorem dX1_addUp_49 : decode cX1_addUp 49 = .ok (.iload 5, 2) := by decide +kernel
theorem dX1_addUp_51 : decode cX1_addUp 51 = .ok (.iconst 1, 1) := by decide +kernel
theorem dX1_addUp_52 : decode cX1_addUp 52 = .ok (.iadd, 1) := by decide +kernel
theorem dX1_addUp_53 : decode cX1_addUp 53 = .ok (.invokevirtual 56, 3) := by decide +kernel
theorem dX1_addUp_56 : decode cX1_addUp 56 = .ok (.return_, 1) := by decide +kernel
theorem dX1_addDown_0 : decode cX1_addDown 0 = .ok (.aload_n 1, 1) := by decide +kernel
theorem dX1_addDown_1 : decode cX1_addDown 1 = .ok (.iload_n 3, 1) := by decide +kernel
theorem dX1_addDown_2 : decode cX1_addDown 2 = .ok (.invokevirtual 90, 3) := by decide +kernel
theorem dX1_addDown_5 : decode cX1_addDown 5 = .ok (.istore 6, 2) := by decide +kernel
theorem dX1_addDown_7 : decode cX1_addDown 7 = .ok (.aload_n 1, 1) := by decide +kernel
theorem dX1_addDown_8 : decode cX1_addDown 8 = .ok (.iload_n 3, 1) := by decide +kernel
theorem dX1_addDown_9 : decode cX1_addDown 9 = .ok (.invokevirtual 93, 3) := by decide +kernel
theorem dX1_addDown_12 : decode cX1_addDown 12 = .ok (.istore 7, 2) := by decide +kernel
theorem dX1_addDown_14 : decode cX1_addDown 14 = .ok (.aload_n 2, 1) := by decide +kernel
theorem dX1_addDown_15 : decode cX1_addDown 15 = .ok (.invokevirtual 99, 3) := by decide +kernel
theorem dX1_addDown_18 : decode cX1_addDown 18 = .ok (.istore 8, 2) := by decide +kernel
theorem dX1_addDown_20 : decode cX1_addDown 20 = .ok (.iconst 0, 1) := by decide +kernel
theorem dX1_addDown_21 : decode cX1_addDown 21 = .ok (.istore 9, 2) := by decide +kernel
theorem dX1_addDown_23 : decode cX1_addDown 23 = .ok (.iload 9, 2) := by decide +kernel
theorem dX1_addDown_25 : decode cX1_addDown 25 = .ok (.iload 8, 2) := by decide +kernel
theorem dX1_addDown_27 : decode cX1_addDown 27 = .ok (.if_icmp .ge 72, 3) := by decide +kernel
theorem dX1_addDown_30 : decode cX1_addDown 30 = .ok (.aload_n 0, 1) := by decide +kernel
theorem dX1_addDown_31 : decode cX1_addDown 31 = .ok (.invokevirtual 60, 3) := by decide +kernel
theorem dX1_addDown_34 : decode cX1_addDown 34 = .ok (.ifCond .ne 65, 3) := by decide +kernel
theorem dX1_addDown_37 : decode cX1_addDown 37 = .ok (.aload_n 2, 1) := by decide +kernel
theorem dX1_addDown_38 : decode cX1_addDown 38 = .ok (.iload 9, 2) := by decide +kernel
theorem dX1_addDown_40 : decode cX1_addDown 40 = .ok (.invokevirtual 40, 3) := by decide +kernel
theorem dX1_addDown_43 : decode cX1_addDown 43 = .ok (.astore 10, 2) := by decide +kernel
theorem dX1_addDown_45 : decode cX1_addDown 45 = .ok (.aload 10, 2) := by decide +kernel
theorem dX1_addDown_47 : decode cX1_addDown 47 = .ok (.ifnull 46, 3) := by decide +kernel
theorem dX1_addDown_50 : decode cX1_addDown 50 = .ok (.aload 10, 2) := by decide +kernel
theorem dX1_addDown_52 : decode cX1_addDown 52 = .ok (.getfield 46, 3) := by decide +kernel
theorem dX1_addDown_55 : decode cX1_addDown 55 = .ok (.aload_n 1, 1) := by decide +kernel
theorem dX1_addDown_56 : decode cX1_addDown 56 = .ok (.iload 6, 2) := by decide +kernel
theorem dX1_addDown_58 : decode cX1_addDown 58 = .ok (.invokevirtual 51, 3) := by decide +kernel
theorem dX1_addDown_61 : decode cX1_addDown 61 = .ok (.if_icmp .ne 32, 3) := by decide +kernel
theorem dX1_addDown_64 : decode cX1_addDown 64 = .ok (.aload 10, 2) := by decide +kernel
theorem dX1_addDown_66 : decode cX1_addDown 66 = .ok (.iload 7, 2) := by decide +kernel
theorem dX1_addDown_68 : decode cX1_addDown 68 = .ok (.invokevirtual 96, 3) := by decide +kernel
theorem dX1_addDown_71 : decode cX1_addDown 71 = .ok (.aload 4, 2) := by decide +kernel
theorem dX1_addDown_73 : decode cX1_addDown 73 = .ok (.getfield 64, 3) := by decide +kernel
theorem dX1_addDown_76 : decode cX1_addDown 76 = .ok (.if_icmp .ne 17, 3) := by decide +kernel
theorem dX1_addDown_79 : decode cX1_addDown 79 = .ok (.aload_n 0, 1) := by decide +kernel
theorem dX1_addDown_80 : decode cX1_addDown 80 = .ok (.aload_n 1, 1) := by decide +kernel
theorem dX1_addDown_81 : decode cX1_addDown 81 = .ok (.aload_n 2, 1) := by decide +kernel
theorem dX1_addDown_82 : decode cX1_addDown 82 = .ok (.iload 6, 2) := by decide +kernel
theorem dX1_addDown_84 : decode cX1_addDown 84 = .ok (.aload 10, 2) := by decide +kernel
theorem dX1_addDown_86 : decode cX1_addDown 86 = .ok (.iload 5, 2) := by decide +kernel
theorem dX1_addDown_88 : decode cX1_addDown 88 = .ok (.iconst 1, 1) := by decide +kernel
theorem dX1_addDown_89 : decode cX1_addDown 89 = .ok (.iadd, 1) := by decide +kernel
theorem dX1_addDown_90 : decode cX1_addDown 90 = .ok (.invokevirtual 56, 3) := by decide +kernel
theorem dX1_addDown_93 : decode cX1_addDown 93 = .ok (.iinc 9 1, 3) := by decide +kernel
theorem dX1_addDown_96 : decode cX1_addDown 96 = .ok (.goto (-73), 3) := by decide +kernel
theorem dX1_addDown_99 : decode cX1_addDown 99 = .ok (.return_, 1) := by decide +kernel
theorem dX1_isFull_0 : decode cX1_isFull 0 = .ok (.aload_n 0, 1) := by decide +kernel
theorem dX1_isFull_1 : decode cX1_isFull 1 = .ok (.getfield 15, 3) := by decide +kernel
theorem dX1_isFull_4 : decode cX1_isFull 4 = .ok (.aload_n 0, 1) := by decide +kernel
theorem dX1_isFull_5 : decode cX1_isFull 5 = .ok (.getfield 9, 3) := by decide +kernel
theorem dX1_isFull_8 : decode cX1_isFull 8 = .ok (.arraylength, 1) := by decide +kernel
theorem dX1_isFull_9 : decode cX1_isFull 9 = .ok (.if_icmp .lt 7, 3) := by decide +kernel
theorem dX1_isFull_12 : decode cX1_isFull 12 = .ok (.iconst 1, 1) := by decide +kernel
theorem dX1_isFull_13 : decode cX1_isFull 13 = .ok (.goto 4, 3) := by decide +kernel
theorem dX1_isFull_16 : decode cX1_isFull 16 = .ok (.iconst 0, 1) := by decide +kernel
theorem dX1_isFull_17 : decode cX1_isFull 17 = .ok (.ireturn, 1) := by decide +kernel
theorem dX1_add_0 : decode cX1_add 0 = .ok (.aload_n 0, 1) := by decide +kernel
theorem dX1_add_1 : decode cX1_add 1 = .ok (.getfield 15, 3) := by decide +kernel
theorem dX1_add_4 : decode cX1_add 4 = .ok (.ifCond .lt 15, 3) := by decide +kernel
theorem dX1_add_7 : decode cX1_add 7 = .ok (.aload_n 0, 1) := by decide +kernel
theorem dX1_add_8 : decode cX1_add 8 = .ok (.getfield 15, 3) := by decide +kernel
theorem dX1_add_11 : decode cX1_add 11 = .ok (.aload_n 0, 1) := by decide +kernel
theorem dX1_add_12 : decode cX1_add 12 = .ok (.getfield 9, 3) := by decide +kernel
theorem dX1_add_15 : decode cX1_add 15 = .ok (.arraylength, 1) := by decide +kernel
theorem dX1_add_16 : decode cX1_add 16 = .ok (.if_icmp .lt 4, 3) := by decide +kernel
theorem dX1_add_19 : decode cX1_add 19 = .ok (.return_, 1) := by decide +kernel
theorem dX1_add_20 : decode cX1_add 20 = .ok (.aload_n 0, 1) := by decide +kernel
theorem dX1_add_21 : decode cX1_add 21 = .ok (.getfield 9, 3) := by decide +kernel
theorem dX1_add_24 : decode cX1_add 24 = .ok (.aload_n 0, 1) := by decide +kernel
theorem dX1_add_25 : decode cX1_add 25 = .ok (.getfield 15, 3) := by decide +kernel
theorem dX1_add_28 : decode cX1_add 28 = .ok (.iload_n 1, 1) := by decide +kernel
theorem dX1_add_29 : decode cX1_add 29 = .ok (.iastore, 1) := by decide +kernel
theorem dX1_add_30 : decode cX1_add 30 = .ok (.aload_n 0, 1) := by decide +kernel
theorem dX1_add_31 : decode cX1_add 31 = .ok (.dup, 1) := by decide +kernel
theorem dX1_add_32 : decode cX1_add 32 = .ok (.getfield 15, 3) := by decide +kernel
theorem dX1_add_35 : decode cX1_add 35 = .ok (.iconst 1, 1) := by decide +kernel
theorem dX1_add_36 : decode cX1_add 36 = .ok (.iadd, 1) := by decide +kernel
theorem dX1_add_37 : decode cX1_add 37 = .ok (.putfield 15, 3) := by decide +kernel
theorem dX1_add_40 : decode cX1_add 40 = .ok (.return_, 1) := by decide +kernel
theorem dX3_init_0 : decode cX3_init 0 = .ok (.aload_n 0, 1) := by decide +kernel
theorem dX3_init_1 : decode cX3_init 1 = .ok (.invokespecial 1, 3) := by decide +kernel
theorem dX3_init_4 : decode cX3_init 4 = .ok (.aload_n 0, 1) := by decide +kernel
theorem dX3_init_5 : decode cX3_init 5 = .ok (.new 7, 3) := by decide +kernel
theorem dX3_init_8 : decode cX3_init 8 = .ok (.dup, 1) := by decide +kernel
theorem dX3_init_9 : decode cX3_init 9 = .ok (.invokespecial 9, 3) := by decide +kernel
theorem dX3_init_12 : decode cX3_init 12 = .ok (.putfield 10, 3) := by decide +kernel
theorem dX3_init_15 : decode cX3_init 15 = .ok (.aload_n 0, 1) := by decide +kernel
theorem dX3_init_16 : decode cX3_init 16 = .ok (.iload_n 1, 1) := by decide +kernel
theorem dX3_init_17 : decode cX3_init 17 = .ok (.putfield 16, 3) := by decide +kernel
theorem dX3_init_20 : decode cX3_init 20 = .ok (.return_, 1) := by decide +kernel
theorem dX4_init_0 : decode cX4_init 0 = .ok (.aload_n 0, 1) := by decide +kernel
theorem dX4_init_1 : decode cX4_init 1 = .ok (.invokespecial 1, 3) := by decide +kernel
theorem dX4_init_4 : decode cX4_init 4 = .ok (.aload_n 0, 1) := by decide +kernel
theorem dX4_init_5 : decode cX4_init 5 = .ok (.iload_n 1, 1) := by decide +kernel
theorem dX4_init_6 : decode cX4_init 6 = .ok (.putfield 7, 3) := by decide +kernel
theorem dX4_init_9 : decode cX4_init 9 = .ok (.aload_n 0, 1) := by decide +kernel
theorem dX4_init_10 : decode cX4_init 10 = .ok (.iload_n 2, 1) := by decide +kernel
theorem dX4_init_11 : decode cX4_init 11 = .ok (.putfield 13, 3) := by decide +kernel
theorem dX4_init_14 : decode cX4_init 14 = .ok (.aload_n 0, 1) := by decide +kernel
theorem dX4_init_15 : decode cX4_init 15 = .ok (.iload_n 3, 1) := by decide +kernel
theorem dX4_init_16 : decode cX4_init 16 = .ok (.putfield 16, 3) := by decide +kernel
theorem dX4_init_19 : decode cX4_init 19 = .ok (.aload_n 0, 1) := by decide +kernel
theorem dX4_init_20 : decode cX4_init 20 = .ok (.iload 4, 2) := by decide +kernel
theorem dX4_init_22 : decode cX4_init 22 = .ok (.putfield 19, 3) := by decide +kernel
theorem dX4_init_25 : decode cX4_init 25 = .ok (.aload_n 0, 1) := by decide +kernel
theorem dX4_init_26 : decode cX4_init 26 = .ok (.iload 5, 2) := by decide +kernel
theorem dX4_init_28 : decode cX4_init 28 = .ok (.putfield 22, 3) := by decide +kernel
theorem dX4_init_31 : decode cX4_init 31 = .ok (.aload_n 0, 1) := by decide +kernel
theorem dX4_init_32 : decode cX4_init 32 = .ok (.iload 6, 2) := by decide +kernel
theorem dX4_init_34 : decode cX4_init 34 = .ok (.putfield 25, 3) := by decide +kernel
theorem dX4_init_37 : decode cX4_init 37 = .ok (.return_, 1) := by decide +kernel
theorem dX4_withValue_0 : decode cX4_withValue 0 = .ok (.new 8, 3) := by decide +kernel
theorem dX4_withValue_3 : decode cX4_withValue 3 = .ok (.dup, 1) := by decide +kernel
theorem dX4_withValue_4 : decode cX4_withValue 4 = .ok (.aload_n 0, 1) := by decide +kernel
theorem dX4_withValue_5 : decode cX4_withValue 5 = .ok (.getfield 7, 3) := by decide +kernel
theorem dX4_withValue_8 : decode cX4_withValue 8 = .ok (.aload_n 0, 1) := by decide +kernel
theorem dX4_withValue_9 : decode cX4_withValue 9 = .ok (.getfield 13, 3) := by decide +kernel
theorem dX4_withValue_12 : decode cX4_withValue 12 = .ok (.iload_n 1, 1) := by decide +kernel
theorem dX4_withValue_13 : decode cX4_withValue 13 = .ok (.aload_n 0, 1) := by decide +kernel
theorem dX4_withValue_14 : decode cX4_withValue 14 = .ok (.getfield 19, 3) := by decide +kernel
theorem dX4_withValue_17 : decode cX4_withValue 17 = .ok (.aload_n 0, 1) := by decide +kernel
theorem dX4_withValue_18 : decode cX4_withValue 18 = .ok (.getfield 22, 3) := by decide +kernel
theorem dX4_withValue_21 : decode cX4_withValue 21 = .ok (.aload_n 0, 1) := by decide +kernel
theorem dX4_withValue_22 : decode cX4_withValue 22 = .ok (.getfield 25, 3) := by decide +kernel
theorem dX4_withValue_25 : decode cX4_withValue 25 = .ok (.invokespecial 29, 3) := by decide +kernel
theorem dX4_withValue_28 : decode cX4_withValue 28 = .ok (.areturn, 1) := by decide +kernel
theorem dX4_withReference_0 : decode cX4_withReference 0 = .ok (.new 8, 3) := by decide +kernel
theorem dX4_withReference_3 : decode cX4_withReference 3 = .ok (.dup, 1) := by decide +kernel
theorem dX4_withReference_4 : decode cX4_withReference 4 = .ok (.aload_n 0, 1) := by decide +kernel
theorem dX4_withReference_5 : decode cX4_withReference 5 = .ok (.getfield 7, 3) := by decide +kernel
theorem dX4_withReference_8 : decode cX4_withReference 8 = .ok (.aload_n 0, 1) := by decide +kernel
theorem dX4_withReference_9 : decode cX4_withReference 9 = .ok (.getfield 13, 3) := by decide +kernel
theorem dX4_withReference_12 : decode cX4_withReference 12 = .ok (.aload_n 0, 1) := by decide +kernel
theorem dX4_withReference_13 : decode cX4_withReference 13 = .ok (.getfield 16, 3) := by decide +kernel
theorem dX4_withReference_16 : decode cX4_withReference 16 = .ok (.iload_n 1, 1) := by decide +kernel
theorem dX4_withReference_17 : decode cX4_withReference 17 = .ok (.ifCond .ne 7, 3) := by decide +kernel
theorem dX4_withReference_20 : decode cX4_withReference 20 = .ok (.iload_n 2, 1) := by decide +kernel
theorem dX4_withReference_21 : decode cX4_withReference 21 = .ok (.goto 7, 3) := by decide +kernel
theorem dX4_withReference_24 : decode cX4_withReference 24 = .ok (.aload_n 0, 1) := by decide +kernel
theorem dX4_withReference_25 : decode cX4_withReference 25 = .ok (.getfield 19, 3) := by decide +kernel
theorem dX4_withReference_28 : decode cX4_withReference 28 = .ok (.iload_n 1, 1) := by decide +kernel
theorem dX4_withReference_29 : decode cX4_withReference 29 = .ok (.iconst 1, 1) := by decide +kernel
theorem dX4_withReference_30 : decode cX4_withReference 30 = .ok (.if_icmp .ne 7, 3) := by decide +kernel
theorem dX4_withReference_33 : decode cX4_withReference 33 = .ok (.iload_n 2, 1) := by decide +kernel
theorem dX4_withReference_34 : decode cX4_withReference 34 = .ok (.goto 7, 3) := by decide +kernel
theorem dX4_withReference_37 : decode cX4_withReference 37 = .ok (.aload_n 0, 1) := by decide +kernel
theorem dX4_withReference_38 : decode cX4_withReference 38 = .ok (.getfield 22, 3) := by decide +kernel
theorem dX4_withReference_41 : decode cX4_withReference 41 = .ok (.aload_n 0, 1) := by decide +kernel
theorem dX4_withReference_42 : decode cX4_withReference 42 = .ok (.getfield 25, 3) := by decide +kernel
theorem dX4_withReference_45 : decode cX4_withReference 45 = .ok (.invokespecial 29, 3) := by decide +kernel
theorem dX4_withReference_48 : decode cX4_withReference 48 = .ok (.areturn, 1) := by decide +kernel
theorem dX4_gone_0 : decode cX4_gone 0 = .ok (.new 8, 3) := by decide +kernel
theorem dX4_gone_3 : decode cX4_gone 3 = .ok (.dup, 1) := by decide +kernel
theorem dX4_gone_4 : decode cX4_gone 4 = .ok (.aload_n 0, 1) := by decide +kernel
theorem dX4_gone_5 : decode cX4_gone 5 = .ok (.getfield 7, 3) := by decide +kernel
theorem dX4_gone_8 : decode cX4_gone 8 = .ok (.aload_n 0, 1) := by decide +kernel
theorem dX4_gone_9 : decode cX4_gone 9 = .ok (.getfield 13, 3) := by decide +kernel
theorem dX4_gone_12 : decode cX4_gone 12 = .ok (.aload_n 0, 1) := by decide +kernel
theorem dX4_gone_13 : decode cX4_gone 13 = .ok (.getfield 16, 3) := by decide +kernel
theorem dX4_gone_16 : decode cX4_gone 16 = .ok (.aload_n 0, 1) := by decide +kernel
theorem dX4_gone_17 : decode cX4_gone 17 = .ok (.getfield 19, 3) := by decide +kernel
theorem dX4_gone_20 : decode cX4_gone 20 = .ok (.aload_n 0, 1) := by decide +kernel
theorem dX4_gone_21 : decode cX4_gone 21 = .ok (.getfield 22, 3) := by decide +kernel
theorem dX4_gone_24 : decode cX4_gone 24 = .ok (.iconst 0, 1) := by decide +kernel
theorem dX4_gone_25 : decode cX4_gone 25 = .ok (.invokespecial 29, 3) := by decide +kernel
theorem dX4_gone_28 : decode cX4_gone 28 = .ok (.areturn, 1) := by decide +kernel
theorem dX4_referenceBy_0 : decode cX4_referenceBy 0 = .ok (.iload_n 1, 1) := by decide +kernel
theorem dX4_referenceBy_1 : decode cX4_referenceBy 1 = .ok (.ifCond .ne 10, 3) := by decide +kernel
theorem dX4_referenceBy_4 : decode cX4_referenceBy 4 = .ok (.aload_n 0, 1) := by decide +kernel
theorem dX4_referenceBy_5 : decode cX4_referenceBy 5 = .ok (.getfield 19, 3) := by decide +kernel
theorem dX4_referenceBy_8 : decode cX4_referenceBy 8 = .ok (.goto 7, 3) := by decide +kernel
theorem dX4_referenceBy_11 : decode cX4_referenceBy 11 = .ok (.aload_n 0, 1) := by decide +kernel
theorem dX4_referenceBy_12 : decode cX4_referenceBy 12 = .ok (.getfield 22, 3) := by decide +kernel
theorem dX4_referenceBy_15 : decode cX4_referenceBy 15 = .ok (.ireturn, 1) := by decide +kernel
theorem dX5_init_0 : decode cX5_init 0 = .ok (.aload_n 0, 1) := by decide +kernel
theorem dX5_init_1 : decode cX5_init 1 = .ok (.invokespecial 3, 3) := by decide +kernel
theorem dX5_init_4 : decode cX5_init 4 = .ok (.aload_n 0, 1) := by decide +kernel
theorem dX5_init_5 : decode cX5_init 5 = .ok (.bipush 60, 2) := by decide +kernel
theorem dX5_init_7 : decode cX5_init 7 = .ok (.anewarray 9, 3) := by decide +kernel
theorem dX5_init_10 : decode cX5_init 10 = .ok (.putfield 11, 3) := by decide +kernel
theorem dX5_init_13 : decode cX5_init 13 = .ok (.aload_n 0, 1) := by decide +kernel
theorem dX5_init_14 : decode cX5_init 14 = .ok (.iconst 0, 1) := by decide +kernel
theorem dX5_init_15 : decode cX5_init 15 = .ok (.putfield 17, 3) := by decide +kernel
theorem dX5_init_18 : decode cX5_init 18 = .ok (.return_, 1) := by decide +kernel
theorem dX5_known_0 : decode cX5_known 0 = .ok (.aload_n 0, 1) := by decide +kernel
theorem dX5_known_1 : decode cX5_known 1 = .ok (.getfield 17, 3) := by decide +kernel
theorem dX5_known_4 : decode cX5_known 4 = .ok (.ireturn, 1) := by decide +kernel
theorem dX5_isFull_0 : decode cX5_isFull 0 = .ok (.aload_n 0, 1) := by decide +kernel
theorem dX5_isFull_1 : decode cX5_isFull 1 = .ok (.getfield 17, 3) := by decide +kernel
theorem dX5_isFull_4 : decode cX5_isFull 4 = .ok (.aload_n 0, 1) := by decide +kernel
theorem dX5_isFull_5 : decode cX5_isFull 5 = .ok (.getfield 11, 3) := by decide +kernel
theorem dX5_isFull_8 : decode cX5_isFull 8 = .ok (.arraylength, 1) := by decide +kernel
theorem dX5_isFull_9 : decode cX5_isFull 9 = .ok (.if_icmp .lt 7, 3) := by decide +kernel
theorem dX5_isFull_12 : decode cX5_isFull 12 = .ok (.iconst 1, 1) := by decide +kernel
theorem dX5_isFull_13 : decode cX5_isFull 13 = .ok (.goto 4, 3) := by decide +kernel
theorem dX5_isFull_16 : decode cX5_isFull 16 = .ok (.iconst 0, 1) := by decide +kernel
theorem dX5_isFull_17 : decode cX5_isFull 17 = .ok (.ireturn, 1) := by decide +kernel
theorem dX5_at_0 : decode cX5_at 0 = .ok (.iload_n 1, 1) := by decide +kernel
theorem dX5_at_1 : decode cX5_at 1 = .ok (.ifCond .lt 21, 3) := by decide +kernel
theorem dX5_at_4 : decode cX5_at 4 = .ok (.iload_n 1, 1) := by decide +kernel
theorem dX5_at_5 : decode cX5_at 5 = .ok (.aload_n 0, 1) := by decide +kernel
theorem dX5_at_6 : decode cX5_at 6 = .ok (.getfield 11, 3) := by decide +kernel
theorem dX5_at_9 : decode cX5_at 9 = .ok (.arraylength, 1) := by decide +kernel
theorem dX5_at_10 : decode cX5_at 10 = .ok (.if_icmp .ge 12, 3) := by decide +kernel
theorem dX5_at_13 : decode cX5_at 13 = .ok (.aload_n 0, 1) := by decide +kernel
theorem dX5_at_14 : decode cX5_at 14 = .ok (.getfield 11, 3) := by decide +kernel
theorem dX5_at_17 : decode cX5_at 17 = .ok (.iload_n 1, 1) := by decide +kernel
theorem dX5_at_18 : decode cX5_at 18 = .ok (.aaload, 1) := by decide +kernel
theorem dX5_at_19 : decode cX5_at 19 = .ok (.goto 4, 3) := by decide +kernel
theorem dX5_at_22 : decode cX5_at 22 = .ok (.aconst_null, 1) := by decide +kernel
theorem dX5_at_23 : decode cX5_at 23 = .ok (.areturn, 1) := by decide +kernel
theorem dX5_standing_0 : decode cX5_standing 0 = .ok (.aload_n 0, 1) := by decide +kernel
theorem dX5_standing_1 : decode cX5_standing 1 = .ok (.iload_n 1, 1) := by decide +kernel
theorem dX5_standing_2 : decode cX5_standing 2 = .ok (.invokevirtual 21, 3) := by decide +kernel
theorem dX5_standing_5 : decode cX5_standing 5 = .ok (.astore_n 2, 1) := by decide +kernel
theorem dX5_standing_6 : decode cX5_standing 6 = .ok (.aload_n 2, 1) := by decide +kernel
theorem dX5_standing_7 : decode cX5_standing 7 = .ok (.ifnull 14, 3) := by decide +kernel
theorem dX5_standing_10 : decode cX5_standing 10 = .ok (.aload_n 2, 1) := by decide +kernel
theorem dX5_standing_11 : decode cX5_standing 11 = .ok (.getfield 25, 3) := by decide +kernel
theorem dX5_standing_14 : decode cX5_standing 14 = .ok (.ifCond .eq 7, 3) := by decide +kernel
theorem dX5_standing_17 : decode cX5_standing 17 = .ok (.aload_n 2, 1) := by decide +kernel
theorem dX5_standing_18 : decode cX5_standing 18 = .ok (.goto 4, 3) := by decide +kernel
theorem dX5_standing_21 : decode cX5_standing 21 = .ok (.aconst_null, 1) := by decide +kernel
theorem dX5_standing_22 : decode cX5_standing 22 = .ok (.areturn, 1) := by decide +kernel
theorem dX5_standingOnes_0 : decode cX5_standingOnes 0 = .ok (.iconst 0, 1) := by decide +kernel
theorem dX5_standingOnes_1 : decode cX5_standingOnes 1 = .ok (.istore_n 1, 1) := by decide +kernel
theorem dX5_standingOnes_2 : decode cX5_standingOnes 2 = .ok (.iconst 0, 1) := by decide +kernel
theorem dX5_standingOnes_3 : decode cX5_standingOnes 3 = .ok (.istore_n 2, 1) := by decide +kernel
theorem dX5_standingOnes_4 : decode cX5_standingOnes 4 = .ok (.iload_n 2, 1) := by decide +kernel
theorem dX5_standingOnes_5 : decode cX5_standingOnes 5 = .ok (.aload_n 0, 1) := by decide +kernel
theorem dX5_standingOnes_6 : decode cX5_standingOnes 6 = .ok (.getfield 11, 3) := by decide +kernel
theorem dX5_standingOnes_9 : decode cX5_standingOnes 9 = .ok (.arraylength, 1) := by decide +kernel
theorem dX5_standingOnes_10 : decode cX5_standingOnes 10 = .ok (.if_icmp .ge 20, 3) := by decide +kernel
theorem dX5_standingOnes_13 : decode cX5_standingOnes 13 = .ok (.aload_n 0, 1) := by decide +kernel
theorem dX5_standingOnes_14 : decode cX5_standingOnes 14 = .ok (.iload_n 2, 1) := by decide +kernel
theorem dX5_standingOnes_15 : decode cX5_standingOnes 15 = .ok (.invokevirtual 29, 3) := by decide +kernel
theorem dX5_standingOnes_18 : decode cX5_standingOnes 18 = .ok (.ifnull 6, 3) := by decide +kernel
theorem dX5_standingOnes_21 : decode cX5_standingOnes 21 = .ok (.iinc 1 1, 3) := by decide +kernel
theorem dX5_standingOnes_24 : decode cX5_standingOnes 24 = .ok (.iinc 2 1, 3) := by decide +kernel
theorem dX5_standingOnes_27 : decode cX5_standingOnes 27 = .ok (.goto (-23), 3) := by decide +kernel
theorem dX5_standingOnes_30 : decode cX5_standingOnes 30 = .ok (.iload_n 1, 1) := by decide +kernel
theorem dX5_standingOnes_31 : decode cX5_standingOnes 31 = .ok (.ireturn, 1) := by decide +kernel
theorem dX5_put_0 : decode cX5_put 0 = .ok (.aload_n 1, 1) := by decide +kernel
theorem dX5_put_1 : decode cX5_put 1 = .ok (.getfield 32, 3) := by decide +kernel
theorem dX5_put_4 : decode cX5_put 4 = .ok (.istore_n 2, 1) := by decide +kernel
theorem dX5_put_5 : decode cX5_put 5 = .ok (.iload_n 2, 1) := by decide +kernel
theorem dX5_put_6 : decode cX5_put 6 = .ok (.ifCond .lt 12, 3) := by decide +kernel
theorem dX5_put_9 : decode cX5_put 9 = .ok (.iload_n 2, 1) := by decide +kernel
theorem dX5_put_10 : decode cX5_put 10 = .ok (.aload_n 0, 1) := by decide +kernel
theorem dX5_put_11 : decode cX5_put 11 = .ok (.getfield 11, 3) := by decide +kernel
theorem dX5_put_14 : decode cX5_put 14 = .ok (.arraylength, 1) := by decide +kernel
theorem dX5_put_15 : decode cX5_put 15 = .ok (.if_icmp .lt 4, 3) := by decide +kernel
theorem dX5_put_18 : decode cX5_put 18 = .ok (.return_, 1) := by decide +kernel
theorem dX5_put_19 : decode cX5_put 19 = .ok (.aload_n 0, 1) := by decide +kernel
theorem dX5_put_20 : decode cX5_put 20 = .ok (.getfield 11, 3) := by decide +kernel
theorem dX5_put_23 : decode cX5_put 23 = .ok (.iload_n 2, 1) := by decide +kernel
theorem dX5_put_24 : decode cX5_put 24 = .ok (.aload_n 1, 1) := by decide +kernel
theorem dX5_put_25 : decode cX5_put 25 = .ok (.aastore, 1) := by decide +kernel
theorem dX5_put_26 : decode cX5_put 26 = .ok (.aload_n 0, 1) := by decide +kernel
theorem dX5_put_27 : decode cX5_put 27 = .ok (.aload_n 0, 1) := by decide +kernel
theorem dX5_put_28 : decode cX5_put 28 = .ok (.getfield 17, 3) := by decide +kernel
theorem dX5_put_31 : decode cX5_put 31 = .ok (.iload_n 2, 1) := by decide +kernel
theorem dX5_put_32 : decode cX5_put 32 = .ok (.iconst 1, 1) := by decide +kernel
theorem dX5_put_33 : decode cX5_put 33 = .ok (.iadd, 1) := by decide +kernel
theorem dX5_put_34 : decode cX5_put 34 = .ok (.invokestatic 35, 3) := by decide +kernel
theorem dX5_put_37 : decode cX5_put 37 = .ok (.putfield 17, 3) := by decide +kernel
theorem dX5_put_40 : decode cX5_put 40 = .ok (.return_, 1) := by decide +kernel
theorem dX5_clear_0 : decode cX5_clear 0 = .ok (.iconst 0, 1) := by decide +kernel
theorem dX5_clear_1 : decode cX5_clear 1 = .ok (.istore_n 1, 1) := by decide +kernel
theorem dX5_clear_2 : decode cX5_clear 2 = .ok (.iload_n 1, 1) := by decide +kernel
theorem dX5_clear_3 : decode cX5_clear 3 = .ok (.aload_n 0, 1) := by decide +kernel
theorem dX5_clear_4 : decode cX5_clear 4 = .ok (.getfield 11, 3) := by decide +kernel
theorem dX5_clear_7 : decode cX5_clear 7 = .ok (.arraylength, 1) := by decide +kernel
theorem dX5_clear_8 : decode cX5_clear 8 = .ok (.if_icmp .ge 16, 3) := by decide +kernel
theorem dX5_clear_11 : decode cX5_clear 11 = .ok (.aload_n 0, 1) := by decide +kernel
theorem dX5_clear_12 : decode cX5_clear 12 = .ok (.getfield 11, 3) := by decide +kernel
theorem dX5_clear_15 : decode cX5_clear 15 = .ok (.iload_n 1, 1) := by decide +kernel
theorem dX5_clear_16 : decode cX5_clear 16 = .ok (.aconst_null, 1) := by decide +kernel
theorem dX5_clear_17 : decode cX5_clear 17 = .ok (.aastore, 1) := by decide +kernel
theorem dX5_clear_18 : decode cX5_clear 18 = .ok (.iinc 1 1, 3) := by decide +kernel
theorem dX5_clear_21 : decode cX5_clear 21 = .ok (.goto (-19), 3) := by decide +kernel
theorem dX5_clear_24 : decode cX5_clear 24 = .ok (.aload_n 0, 1) := by decide +kernel
theorem dX5_clear_25 : decode cX5_clear 25 = .ok (.iconst 0, 1) := by decide +kernel
theorem dX5_clear_26 : decode cX5_clear 26 = .ok (.putfield 17, 3) := by decide +kernel
theorem dX5_clear_29 : decode cX5_clear 29 = .ok (.return_, 1) := by decide +kernel
theorem dX5_takeFrom_0 : decode cX5_takeFrom 0 = .ok (.iconst 0, 1) := by decide +kernel
theorem dX5_takeFrom_1 : decode cX5_takeFrom 1 = .ok (.istore_n 2, 1) := by decide +kernel
theorem dX5_takeFrom_2 : decode cX5_takeFrom 2 = .ok (.iload_n 2, 1) := by decide +kernel
theorem dX5_takeFrom_3 : decode cX5_takeFrom 3 = .ok (.aload_n 0, 1) := by decide +kernel
theorem dX5_takeFrom_4 : decode cX5_takeFrom 4 = .ok (.getfield 11, 3) := by decide +kernel
theorem dX5_takeFrom_7 : decode cX5_takeFrom 7 = .ok (.arraylength, 1) := by decide +kernel
theorem dX5_takeFrom_8 : decode cX5_takeFrom 8 = .ok (.if_icmp .ge 20, 3) := by decide +kernel
theorem dX5_takeFrom_11 : decode cX5_takeFrom 11 = .ok (.aload_n 0, 1) := by decide +kernel
theorem dX5_takeFrom_12 : decode cX5_takeFrom 12 = .ok (.getfield 11, 3) := by decide +kernel
theorem dX5_takeFrom_15 : decode cX5_takeFrom 15 = .ok (.iload_n 2, 1) := by decide +kernel
theorem dX5_takeFrom_16 : decode cX5_takeFrom 16 = .ok (.aload_n 1, 1) := by decide +kernel
theorem dX5_takeFrom_17 : decode cX5_takeFrom 17 = .ok (.iload_n 2, 1) := by decide +kernel
theorem dX5_takeFrom_18 : decode cX5_takeFrom 18 = .ok (.invokevirtual 21, 3) := by decide +kernel
theorem dX5_takeFrom_21 : decode cX5_takeFrom 21 = .ok (.aastore, 1) := by decide +kernel
theorem dX5_takeFrom_22 : decode cX5_takeFrom 22 = .ok (.iinc 2 1, 3) := by decide +kernel
theorem dX5_takeFrom_25 : decode cX5_takeFrom 25 = .ok (.goto (-23), 3) := by decide +kernel
theorem dX5_takeFrom_28 : decode cX5_takeFrom 28 = .ok (.aload_n 0, 1) := by decide +kernel
theorem dX5_takeFrom_29 : decode cX5_takeFrom 29 = .ok (.aload_n 1, 1) := by decide +kernel
theorem dX5_takeFrom_30 : decode cX5_takeFrom 30 = .ok (.getfield 17, 3) := by decide +kernel
theorem dX5_takeFrom_33 : decode cX5_takeFrom 33 = .ok (.putfield 17, 3) := by decide +kernel
theorem dX5_takeFrom_36 : decode cX5_takeFrom 36 = .ok (.return_, 1) := by decide +kernel
theorem dX6_init_0 : decode cX6_init 0 = .ok (.aload_n 0, 1) := by decide +kernel
theorem dX6_init_1 : decode cX6_init 1 = .ok (.invokespecial 3, 3) := by decide +kernel
theorem dX6_init_4 : decode cX6_init 4 = .ok (.aload_n 0, 1) := by decide +kernel
theorem dX6_init_5 : decode cX6_init 5 = .ok (.bipush 20, 2) := by decide +kernel
theorem dX6_init_7 : decode cX6_init 7 = .ok (.newarray .int, 2) := by decide +kernel
theorem dX6_init_9 : decode cX6_init 9 = .ok (.putfield 9, 3) := by decide +kernel
theorem dX6_init_12 : decode cX6_init 12 = .ok (.aload_n 0, 1) := by decide +kernel
theorem dX6_init_13 : decode cX6_init 13 = .ok (.bipush 100, 2) := by decide +kernel
theorem dX6_init_15 : decode cX6_init 15 = .ok (.newarray .int, 2) := by decide +kernel
theorem dX6_init_17 : decode cX6_init 17 = .ok (.putfield 15, 3) := by decide +kernel
theorem dX6_init_20 : decode cX6_init 20 = .ok (.aload_n 0, 1) := by decide +kernel
theorem dX6_init_21 : decode cX6_init 21 = .ok (.bipush 100, 2) := by decide +kernel
theorem dX6_init_23 : decode cX6_init 23 = .ok (.newarray .int, 2) := by decide +kernel
theorem dX6_init_25 : decode cX6_init 25 = .ok (.putfield 18, 3) := by decide +kernel
theorem dX6_init_28 : decode cX6_init 28 = .ok (.aload_n 0, 1) := by decide +kernel
theorem dX6_init_29 : decode cX6_init 29 = .ok (.bipush 100, 2) := by decide +kernel
theorem dX6_init_31 : decode cX6_init 31 = .ok (.newarray .int, 2) := by decide +kernel
theorem dX6_init_33 : decode cX6_init 33 = .ok (.putfield 21, 3) := by decide +kernel
theorem dX6_init_36 : decode cX6_init 36 = .ok (.aload_n 0, 1) := by decide +kernel
theorem dX6_init_37 : decode cX6_init 37 = .ok (.bipush 100, 2) := by decide +kernel
theorem dX6_init_39 : decode cX6_init 39 = .ok (.newarray .int, 2) := by decide +kernel
theorem dX6_init_41 : decode cX6_init 41 = .ok (.putfield 24, 3) := by decide +kernel
theorem dX6_init_44 : decode cX6_init 44 = .ok (.aload_n 0, 1) := by decide +kernel
theorem dX6_init_45 : decode cX6_init 45 = .ok (.iconst 0, 1) := by decide +kernel
theorem dX6_init_46 : decode cX6_init 46 = .ok (.putfield 27, 3) := by decide +kernel
theorem dX6_init_49 : decode cX6_init 49 = .ok (.aload_n 0, 1) := by decide +kernel
theorem dX6_init_50 : decode cX6_init 50 = .ok (.iconst 0, 1) := by decide +kernel
theorem dX6_init_51 : decode cX6_init 51 = .ok (.putfield 31, 3) := by decide +kernel
theorem dX6_init_54 : decode cX6_init 54 = .ok (.return_, 1) := by decide +kernel
theorem dX6_parts_0 : decode cX6_parts 0 = .ok (.aload_n 0, 1) := by decide +kernel
theorem dX6_parts_1 : decode cX6_parts 1 = .ok (.getfield 27, 3) := by decide +kernel
theorem dX6_parts_4 : decode cX6_parts 4 = .ok (.ireturn, 1) := by decide +kernel
theorem dX6_items_0 : decode cX6_items 0 = .ok (.aload_n 0, 1) := by decide +kernel
theorem dX6_items_1 : decode cX6_items 1 = .ok (.getfield 31, 3) := by decide +kernel
theorem dX6_items_4 : decode cX6_items 4 = .ok (.ireturn, 1) := by decide +kernel
theorem dX6_clear_0 : decode cX6_clear 0 = .ok (.aload_n 0, 1) := by decide +kernel
theorem dX6_clear_1 : decode cX6_clear 1 = .ok (.iconst 0, 1) := by decide +kernel
theorem dX6_clear_2 : decode cX6_clear 2 = .ok (.putfield 27, 3) := by decide +kernel
theorem dX6_clear_5 : decode cX6_clear 5 = .ok (.aload_n 0, 1) := by decide +kernel
theorem dX6_clear_6 : decode cX6_clear 6 = .ok (.iconst 0, 1) := by decide +kernel
theorem dX6_clear_7 : decode cX6_clear 7 = .ok (.putfield 31, 3) := by decide +kernel
theorem dX6_clear_10 : decode cX6_clear 10 = .ok (.return_, 1) := by decide +kernel
theorem dX6_hasRoomForPart_0 : decode cX6_hasRoomForPart 0 = .ok (.aload_n 0, 1) := by decide +kernel
theorem dX6_hasRoomForPart_1 : decode cX6_hasRoomForPart 1 = .ok (.getfield 27, 3) := by decide +kernel
theorem dX6_hasRoomForPart_4 : decode cX6_hasRoomForPart 4 = .ok (.aload_n 0, 1) := by decide +kernel
theorem dX6_hasRoomForPart_5 : decode cX6_hasRoomForPart 5 = .ok (.getfield 9, 3) := by decide +kernel
theorem dX6_hasRoomForPart_8 : decode cX6_hasRoomForPart 8 = .ok (.arraylength, 1) := by decide +kernel
theorem dX6_hasRoomForPart_9 : decode cX6_hasRoomForPart 9 = .ok (.if_icmp .ge 7, 3) := by decide +kernel
theorem dX6_hasRoomForPart_12 : decode cX6_hasRoomForPart 12 = .ok (.iconst 1, 1) := by decide +kernel
theorem dX6_hasRoomForPart_13 : decode cX6_hasRoomForPart 13 = .ok (.goto 4, 3) := by decide +kernel
theorem dX6_hasRoomForPart_16 : decode cX6_hasRoomForPart 16 = .ok (.iconst 0, 1) := by decide +kernel
theorem dX6_hasRoomForPart_17 : decode cX6_hasRoomForPart 17 = .ok (.ireturn, 1) := by decide +kernel
theorem dX6_addPart_0 : decode cX6_addPart 0 = .ok (.aload_n 0, 1) := by decide +kernel
theorem dX6_addPart_1 : decode cX6_addPart 1 = .ok (.getfield 27, 3) := by decide +kernel
theorem dX6_addPart_4 : decode cX6_addPart 4 = .ok (.ifCond .lt 15, 3) := by decide +kernel
theorem dX6_addPart_7 : decode cX6_addPart 7 = .ok (.aload_n 0, 1) := by decide +kernel
theorem dX6_addPart_8 : decode cX6_addPart 8 = .ok (.getfield 27, 3) := by decide +kernel
theorem dX6_addPart_11 : decode cX6_addPart 11 = .ok (.aload_n 0, 1) := by decide +kernel
theorem dX6_addPart_12 : decode cX6_addPart 12 = .ok (.getfield 9, 3) := by decide +kernel
theorem dX6_addPart_15 : decode cX6_addPart 15 = .ok (.arraylength, 1) := by decide +kernel
theorem dX6_addPart_16 : decode cX6_addPart 16 = .ok (.if_icmp .lt 4, 3) := by decide +kernel
theorem dX6_addPart_19 : decode cX6_addPart 19 = .ok (.return_, 1) := by decide +kernel
theorem dX6_addPart_20 : decode cX6_addPart 20 = .ok (.aload_n 0, 1) := by decide +kernel
theorem dX6_addPart_21 : decode cX6_addPart 21 = .ok (.getfield 9, 3) := by decide +kernel
theorem dX6_addPart_24 : decode cX6_addPart 24 = .ok (.aload_n 0, 1) := by decide +kernel
theorem dX6_addPart_25 : decode cX6_addPart 25 = .ok (.getfield 27, 3) := by decide +kernel
theorem dX6_addPart_28 : decode cX6_addPart 28 = .ok (.iload_n 1, 1) := by decide +kernel
theorem dX6_addPart_29 : decode cX6_addPart 29 = .ok (.iastore, 1) := by decide +kernel
theorem dX6_addPart_30 : decode cX6_addPart 30 = .ok (.aload_n 0, 1) := by decide +kernel
theorem dX6_addPart_31 : decode cX6_addPart 31 = .ok (.dup, 1) := by decide +kernel
theorem dX6_addPart_32 : decode cX6_addPart 32 = .ok (.getfield 27, 3) := by decide +kernel
theorem dX6_addPart_35 : decode cX6_addPart 35 = .ok (.iconst 1, 1) := by decide +kernel
theorem dX6_addPart_36 : decode cX6_addPart 36 = .ok (.iadd, 1) := by decide +kernel
theorem dX6_addPart_37 : decode cX6_addPart 37 = .ok (.putfield 27, 3) := by decide +kernel
theorem dX6_addPart_40 : decode cX6_addPart 40 = .ok (.return_, 1) := by decide +kernel
theorem dX6_addItem_0 : decode cX6_addItem 0 = .ok (.aload_n 0, 1) := by decide +kernel
theorem dX6_addItem_1 : decode cX6_addItem 1 = .ok (.getfield 31, 3) := by decide +kernel
theorem dX6_addItem_4 : decode cX6_addItem 4 = .ok (.ifCond .lt 12, 3) := by decide +kernel
theorem dX6_addItem_7 : decode cX6_addItem 7 = .ok (.aload_n 0, 1) := by decide +kernel
theorem dX6_addItem_8 : decode cX6_addItem 8 = .ok (.getfield 31, 3) := by decide +kernel
theorem dX6_addItem_11 : decode cX6_addItem 11 = .ok (.bipush 100, 2) := by decide +kernel
theorem dX6_addItem_13 : decode cX6_addItem 13 = .ok (.if_icmp .lt 4, 3) := by decide +kernel
theorem dX6_addItem_16 : decode cX6_addItem 16 = .ok (.return_, 1) := by decide +kernel
theorem dX6_addItem_17 : decode cX6_addItem 17 = .ok (.aload_n 0, 1) := by decide +kernel
theorem dX6_addItem_18 : decode cX6_addItem 18 = .ok (.getfield 15, 3) := by decide +kernel
theorem dX6_addItem_21 : decode cX6_addItem 21 = .ok (.aload_n 0, 1) := by decide +kernel
theorem dX6_addItem_22 : decode cX6_addItem 22 = .ok (.getfield 31, 3) := by decide +kernel
theorem dX6_addItem_25 : decode cX6_addItem 25 = .ok (.iload_n 1, 1) := by decide +kernel
theorem dX6_addItem_26 : decode cX6_addItem 26 = .ok (.iastore, 1) := by decide +kernel
theorem dX6_addItem_27 : decode cX6_addItem 27 = .ok (.aload_n 0, 1) := by decide +kernel
theorem dX6_addItem_28 : decode cX6_addItem 28 = .ok (.getfield 18, 3) := by decide +kernel
theorem dX6_addItem_31 : decode cX6_addItem 31 = .ok (.aload_n 0, 1) := by decide +kernel
theorem dX6_addItem_32 : decode cX6_addItem 32 = .ok (.getfield 31, 3) := by decide +kernel
theorem dX6_addItem_35 : decode cX6_addItem 35 = .ok (.iload_n 2, 1) := by decide +kernel
theorem dX6_addItem_36 : decode cX6_addItem 36 = .ok (.iastore, 1) := by decide +kernel
theorem dX6_addItem_37 : decode cX6_addItem 37 = .ok (.aload_n 0, 1) := by decide +kernel
theorem dX6_addItem_38 : decode cX6_addItem 38 = .ok (.getfield 21, 3) := by decide +kernel
theorem dX6_addItem_41 : decode cX6_addItem 41 = .ok (.aload_n 0, 1) := by decide +kernel
theorem dX6_addItem_42 : decode cX6_addItem 42 = .ok (.getfield 31, 3) := by decide +kernel
theorem dX6_addItem_45 : decode cX6_addItem 45 = .ok (.iload_n 3, 1) := by decide +kernel
theorem dX6_addItem_46 : decode cX6_addItem 46 = .ok (.iastore, 1) := by decide +kernel
theorem dX6_addItem_47 : decode cX6_addItem 47 = .ok (.aload_n 0, 1) := by decide +kernel
theorem dX6_addItem_48 : decode cX6_addItem 48 = .ok (.getfield 24, 3) := by decide +kernel
theorem dX6_addItem_51 : decode cX6_addItem 51 = .ok (.aload_n 0, 1) := by decide +kernel
theorem dX6_addItem_52 : decode cX6_addItem 52 = .ok (.getfield 31, 3) := by decide +kernel
theorem dX6_addItem_55 : decode cX6_addItem 55 = .ok (.iload 4, 2) := by decide +kernel
theorem dX6_addItem_57 : decode cX6_addItem 57 = .ok (.iastore, 1) := by decide +kernel
theorem dX6_addItem_58 : decode cX6_addItem 58 = .ok (.aload_n 0, 1) := by decide +kernel
theorem dX6_addItem_59 : decode cX6_addItem 59 = .ok (.dup, 1) := by decide +kernel
theorem dX6_addItem_60 : decode cX6_addItem 60 = .ok (.getfield 31, 3) := by decide +kernel
theorem dX6_addItem_63 : decode cX6_addItem 63 = .ok (.iconst 1, 1) := by decide +kernel
theorem dX6_addItem_64 : decode cX6_addItem 64 = .ok (.iadd, 1) := by decide +kernel
theorem dX6_addItem_65 : decode cX6_addItem 65 = .ok (.putfield 31, 3) := by decide +kernel
theorem dX6_addItem_68 : decode cX6_addItem 68 = .ok (.return_, 1) := by decide +kernel
theorem dX6_tableOf_0 : decode cX6_tableOf 0 = .ok (.iload_n 1, 1) := by decide +kernel
theorem dX6_tableOf_1 : decode cX6_tableOf 1 = .ok (.ifCond .lt 29, 3) := by decide +kernel
theorem dX6_tableOf_4 : decode cX6_tableOf 4 = .ok (.iload_n 1, 1) := by decide +kernel
theorem dX6_tableOf_5 : decode cX6_tableOf 5 = .ok (.aload_n 0, 1) := by decide +kernel
theorem dX6_tableOf_6 : decode cX6_tableOf 6 = .ok (.getfield 27, 3) := by decide +kernel
theorem dX6_tableOf_9 : decode cX6_tableOf 9 = .ok (.if_icmp .ge 21, 3) := by decide +kernel
theorem dX6_tableOf_12 : decode cX6_tableOf 12 = .ok (.iload_n 1, 1) := by decide +kernel
theorem dX6_tableOf_13 : decode cX6_tableOf 13 = .ok (.aload_n 0, 1) := by decide +kernel
theorem dX6_tableOf_14 : decode cX6_tableOf 14 = .ok (.getfield 9, 3) := by decide +kernel
theorem dX6_tableOf_17 : decode cX6_tableOf 17 = .ok (.arraylength, 1) := by decide +kernel
theorem dX6_tableOf_18 : decode cX6_tableOf 18 = .ok (.if_icmp .ge 12, 3) := by decide +kernel
theorem dX6_tableOf_21 : decode cX6_tableOf 21 = .ok (.aload_n 0, 1) := by decide +kernel
theorem dX6_tableOf_22 : decode cX6_tableOf 22 = .ok (.getfield 9, 3) := by decide +kernel
theorem dX6_tableOf_25 : decode cX6_tableOf 25 = .ok (.iload_n 1, 1) := by decide +kernel
theorem dX6_tableOf_26 : decode cX6_tableOf 26 = .ok (.iaload, 1) := by decide +kernel
theorem dX6_tableOf_27 : decode cX6_tableOf 27 = .ok (.goto 4, 3) := by decide +kernel
theorem dX6_tableOf_30 : decode cX6_tableOf 30 = .ok (.iconst (-1), 1) := by decide +kernel
theorem dX6_tableOf_31 : decode cX6_tableOf 31 = .ok (.ireturn, 1) := by decide +kernel
theorem dX6_isItem_0 : decode cX6_isItem 0 = .ok (.iload_n 1, 1) := by decide +kernel
theorem dX6_isItem_1 : decode cX6_isItem 1 = .ok (.ifCond .lt 21, 3) := by decide +kernel
theorem dX6_isItem_4 : decode cX6_isItem 4 = .ok (.iload_n 1, 1) := by decide +kernel
theorem dX6_isItem_5 : decode cX6_isItem 5 = .ok (.aload_n 0, 1) := by decide +kernel
theorem dX6_isItem_6 : decode cX6_isItem 6 = .ok (.getfield 31, 3) := by decide +kernel
theorem dX6_isItem_9 : decode cX6_isItem 9 = .ok (.if_icmp .ge 13, 3) := by decide +kernel
theorem dX6_isItem_12 : decode cX6_isItem 12 = .ok (.iload_n 1, 1) := by decide +kernel
theorem dX6_isItem_13 : decode cX6_isItem 13 = .ok (.bipush 100, 2) := by decide +kernel
theorem dX6_isItem_15 : decode cX6_isItem 15 = .ok (.if_icmp .ge 7, 3) := by decide +kernel
theorem dX6_isItem_18 : decode cX6_isItem 18 = .ok (.iconst 1, 1) := by decide +kernel
theorem dX6_isItem_19 : decode cX6_isItem 19 = .ok (.goto 4, 3) := by decide +kernel
theorem dX6_isItem_22 : decode cX6_isItem 22 = .ok (.iconst 0, 1) := by decide +kernel
theorem dX6_isItem_23 : decode cX6_isItem 23 = .ok (.ireturn, 1) := by decide +kernel
theorem dX6_ownerOf_0 : decode cX6_ownerOf 0 = .ok (.aload_n 0, 1) := by decide +kernel
theorem dX6_ownerOf_1 : decode cX6_ownerOf 1 = .ok (.iload_n 1, 1) := by decide +kernel
theorem dX6_ownerOf_2 : decode cX6_ownerOf 2 = .ok (.invokevirtual 34, 3) := by decide +kernel
theorem dX6_ownerOf_5 : decode cX6_ownerOf 5 = .ok (.ifCond .eq 12, 3) := by decide +kernel
theorem dX6_ownerOf_8 : decode cX6_ownerOf 8 = .ok (.aload_n 0, 1) := by decide +kernel
theorem dX6_ownerOf_9 : decode cX6_ownerOf 9 = .ok (.getfield 15, 3) := by decide +kernel
theorem dX6_ownerOf_12 : decode cX6_ownerOf 12 = .ok (.iload_n 1, 1) := by decide +kernel
theorem dX6_ownerOf_13 : decode cX6_ownerOf 13 = .ok (.iaload, 1) := by decide +kernel
theorem dX6_ownerOf_14 : decode cX6_ownerOf 14 = .ok (.goto 4, 3) := by decide +kernel
theorem dX6_ownerOf_17 : decode cX6_ownerOf 17 = .ok (.iconst (-1), 1) := by decide +kernel
theorem dX6_ownerOf_18 : decode cX6_ownerOf 18 = .ok (.ireturn, 1) := by decide +kernel
theorem dX6_kindOf_0 : decode cX6_kindOf 0 = .ok (.aload_n 0, 1) := by decide +kernel
theorem dX6_kindOf_1 : decode cX6_kindOf 1 = .ok (.iload_n 1, 1) := by decide +kernel
theorem dX6_kindOf_2 : decode cX6_kindOf 2 = .ok (.invokevirtual 34, 3) := by decide +kernel
theorem dX6_kindOf_5 : decode cX6_kindOf 5 = .ok (.ifCond .eq 12, 3) := by decide +kernel
theorem dX6_kindOf_8 : decode cX6_kindOf 8 = .ok (.aload_n 0, 1) := by decide +kernel
theorem dX6_kindOf_9 : decode cX6_kindOf 9 = .ok (.getfield 18, 3) := by decide +kernel
theorem dX6_kindOf_12 : decode cX6_kindOf 12 = .ok (.iload_n 1, 1) := by decide +kernel
theorem dX6_kindOf_13 : decode cX6_kindOf 13 = .ok (.iaload, 1) := by decide +kernel
theorem dX6_kindOf_14 : decode cX6_kindOf 14 = .ok (.goto 4, 3) := by decide +kernel
theorem dX6_kindOf_17 : decode cX6_kindOf 17 = .ok (.iconst (-1), 1) := by decide +kernel
theorem dX6_kindOf_18 : decode cX6_kindOf 18 = .ok (.ireturn, 1) := by decide +kernel
theorem dX6_referenceOf_0 : decode cX6_referenceOf 0 = .ok (.aload_n 0, 1) := by decide +kernel
theorem dX6_referenceOf_1 : decode cX6_referenceOf 1 = .ok (.iload_n 1, 1) := by decide +kernel
theorem dX6_referenceOf_2 : decode cX6_referenceOf 2 = .ok (.invokevirtual 34, 3) := by decide +kernel
theorem dX6_referenceOf_5 : decode cX6_referenceOf 5 = .ok (.ifCond .eq 12, 3) := by decide +kernel
theorem dX6_referenceOf_8 : decode cX6_referenceOf 8 = .ok (.aload_n 0, 1) := by decide +kernel
theorem dX6_referenceOf_9 : decode cX6_referenceOf 9 = .ok (.getfield 21, 3) := by decide +kernel
theorem dX6_referenceOf_12 : decode cX6_referenceOf 12 = .ok (.iload_n 1, 1) := by decide +kernel
theorem dX6_referenceOf_13 : decode cX6_referenceOf 13 = .ok (.iaload, 1) := by decide +kernel
theorem dX6_referenceOf_14 : decode cX6_referenceOf 14 = .ok (.goto 4, 3) := by decide +kernel
theorem dX6_referenceOf_17 : decode cX6_referenceOf 17 = .ok (.iconst (-1), 1) := by decide +kernel
theorem dX6_referenceOf_18 : decode cX6_referenceOf 18 = .ok (.ireturn, 1) := by decide +kernel
theorem dX6_partWithin_0 : decode cX6_partWithin 0 = .ok (.aload_n 0, 1) := by decide +kernel
theorem dX6_partWithin_1 : decode cX6_partWithin 1 = .ok (.iload_n 1, 1) := by decide +kernel
theorem dX6_partWithin_2 : decode cX6_partWithin 2 = .ok (.invokevirtual 34, 3) := by decide +kernel
theorem dX6_partWithin_5 : decode cX6_partWithin 5 = .ok (.ifCond .eq 12, 3) := by decide +kernel
theorem dX6_partWithin_8 : decode cX6_partWithin 8 = .ok (.aload_n 0, 1) := by decide +kernel
theorem dX6_partWithin_9 : decode cX6_partWithin 9 = .ok (.getfield 24, 3) := by decide +kernel
theorem dX6_partWithin_12 : decode cX6_partWithin 12 = .ok (.iload_n 1, 1) := by decide +kernel
theorem dX6_partWithin_13 : decode cX6_partWithin 13 = .ok (.iaload, 1) := by decide +kernel
theorem dX6_partWithin_14 : decode cX6_partWithin 14 = .ok (.goto 4, 3) := by decide +kernel
theorem dX6_partWithin_17 : decode cX6_partWithin 17 = .ok (.iconst (-1), 1) := by decide +kernel
theorem dX6_partWithin_18 : decode cX6_partWithin 18 = .ok (.ireturn, 1) := by decide +kernel
theorem dX7_init_0 : decode cX7_init 0 = .ok (.aload_n 0, 1) := by decide +kernel
theorem dX7_init_1 : decode cX7_init 1 = .ok (.invokespecial 3, 3) := by decide +kernel
theorem dX7_init_4 : decode cX7_init 4 = .ok (.aload_n 0, 1) := by decide +kernel
theorem dX7_init_5 : decode cX7_init 5 = .ok (.sipush 200, 3) := by decide +kernel
theorem dX7_init_8 : decode cX7_init 8 = .ok (.newarray .int, 2) := by decide +kernel
theorem dX7_init_10 : decode cX7_init 10 = .ok (.putfield 9, 3) := by decide +kernel
theorem dX7_init_13 : decode cX7_init 13 = .ok (.aload_n 0, 1) := by decide +kernel
theorem dX7_init_14 : decode cX7_init 14 = .ok (.iconst 0, 1) := by decide +kernel
theorem dX7_init_15 : decode cX7_init 15 = .ok (.putfield 15, 3) := by decide +kernel
theorem dX7_init_18 : decode cX7_init 18 = .ok (.return_, 1) := by decide +kernel
theorem dX7_length_0 : decode cX7_length 0 = .ok (.aload_n 0, 1) := by decide +kernel
theorem dX7_length_1 : decode cX7_length 1 = .ok (.getfield 15, 3) := by decide +kernel
theorem dX7_length_4 : decode cX7_length 4 = .ok (.ireturn, 1) := by decide +kernel
theorem dX7_addNumber_0 : decode cX7_addNumber 0 = .ok (.iconst 3, 1) := by decide +kernel
theorem dX7_addNumber_1 : decode cX7_addNumber 1 = .ok (.istore_n 2, 1) := by decide +kernel
theorem dX7_addNumber_2 : decode cX7_addNumber 2 = .ok (.iload_n 2, 1) := by decide +kernel
theorem dX7_addNumber_3 : decode cX7_addNumber 3 = .ok (.ifCond .lt 23, 3) := by decide +kernel
theorem dX7_addNumber_6 : decode cX7_addNumber 6 = .ok (.aload_n 0, 1) := by decide +kernel
theorem dX7_addNumber_7 : decode cX7_addNumber 7 = .ok (.iload_n 1, 1) := by decide +kernel
theorem dX7_addNumber_8 : decode cX7_addNumber 8 = .ok (.bipush 8, 2) := by decide +kernel
theorem dX7_addNumber_10 : decode cX7_addNumber 10 = .ok (.iload_n 2, 1) := by decide +kernel
theorem dX7_addNumber_11 : decode cX7_addNumber 11 = .ok (.imul, 1) := by decide +kernel
theorem dX7_addNumber_12 : decode cX7_addNumber 12 = .ok (.iushr, 1) := by decide +kernel
theorem dX7_addNumber_13 : decode cX7_addNumber 13 = .ok (.sipush 255, 3) := by decide +kernel
theorem dX7_addNumber_16 : decode cX7_addNumber 16 = .ok (.iand, 1) := by decide +kernel
theorem dX7_addNumber_17 : decode cX7_addNumber 17 = .ok (.invokevirtual 19, 3) := by decide +kernel
theorem dX7_addNumber_20 : decode cX7_addNumber 20 = .ok (.iinc 2 (-1), 3) := by decide +kernel
theorem dX7_addNumber_23 : decode cX7_addNumber 23 = .ok (.goto (-21), 3) := by decide +kernel
theorem dX7_addNumber_26 : decode cX7_addNumber 26 = .ok (.return_, 1) := by decide +kernel
theorem dX7_addByte_0 : decode cX7_addByte 0 = .ok (.aload_n 0, 1) := by decide +kernel
theorem dX7_addByte_1 : decode cX7_addByte 1 = .ok (.getfield 15, 3) := by decide +kernel
theorem dX7_addByte_4 : decode cX7_addByte 4 = .ok (.ifCond .lt 15, 3) := by decide +kernel
theorem dX7_addByte_7 : decode cX7_addByte 7 = .ok (.aload_n 0, 1) := by decide +kernel
theorem dX7_addByte_8 : decode cX7_addByte 8 = .ok (.getfield 15, 3) := by decide +kernel
theorem dX7_addByte_11 : decode cX7_addByte 11 = .ok (.aload_n 0, 1) := by decide +kernel
theorem dX7_addByte_12 : decode cX7_addByte 12 = .ok (.getfield 9, 3) := by decide +kernel
theorem dX7_addByte_15 : decode cX7_addByte 15 = .ok (.arraylength, 1) := by decide +kernel
theorem dX7_addByte_16 : decode cX7_addByte 16 = .ok (.if_icmp .lt 4, 3) := by decide +kernel
theorem dX7_addByte_19 : decode cX7_addByte 19 = .ok (.return_, 1) := by decide +kernel
theorem dX7_addByte_20 : decode cX7_addByte 20 = .ok (.aload_n 0, 1) := by decide +kernel
theorem dX7_addByte_21 : decode cX7_addByte 21 = .ok (.getfield 9, 3) := by decide +kernel
theorem dX7_addByte_24 : decode cX7_addByte 24 = .ok (.aload_n 0, 1) := by decide +kernel
theorem dX7_addByte_25 : decode cX7_addByte 25 = .ok (.getfield 15, 3) := by decide +kernel
theorem dX7_addByte_28 : decode cX7_addByte 28 = .ok (.iload_n 1, 1) := by decide +kernel
theorem dX7_addByte_29 : decode cX7_addByte 29 = .ok (.iastore, 1) := by decide +kernel
theorem dX7_addByte_30 : decode cX7_addByte 30 = .ok (.aload_n 0, 1) := by decide +kernel
theorem dX7_addByte_31 : decode cX7_addByte 31 = .ok (.dup, 1) := by decide +kernel
theorem dX7_addByte_32 : decode cX7_addByte 32 = .ok (.getfield 15, 3) := by decide +kernel
theorem dX7_addByte_35 : decode cX7_addByte 35 = .ok (.iconst 1, 1) := by decide +kernel
theorem dX7_addByte_36 : decode cX7_addByte 36 = .ok (.iadd, 1) := by decide +kernel
theorem dX7_addByte_37 : decode cX7_addByte 37 = .ok (.putfield 15, 3) := by decide +kernel
theorem dX7_addByte_40 : decode cX7_addByte 40 = .ok (.return_, 1) := by decide +kernel
theorem dX7_cutTo_0 : decode cX7_cutTo 0 = .ok (.aload_n 0, 1) := by decide +kernel
theorem dX7_cutTo_1 : decode cX7_cutTo 1 = .ok (.iconst 0, 1) := by decide +kernel
theorem dX7_cutTo_2 : decode cX7_cutTo 2 = .ok (.aload_n 0, 1) := by decide +kernel
theorem dX7_cutTo_3 : decode cX7_cutTo 3 = .ok (.getfield 15, 3) := by decide +kernel
theorem dX7_cutTo_6 : decode cX7_cutTo 6 = .ok (.iload_n 1, 1) := by decide +kernel
theorem dX7_cutTo_7 : decode cX7_cutTo 7 = .ok (.invokestatic 23, 3) := by decide +kernel
theorem dX7_cutTo_10 : decode cX7_cutTo 10 = .ok (.invokestatic 29, 3) := by decide +kernel
theorem dX7_cutTo_13 : decode cX7_cutTo 13 = .ok (.putfield 15, 3) := by decide +kernel
theorem dX7_cutTo_16 : decode cX7_cutTo 16 = .ok (.return_, 1) := by decide +kernel
theorem dX7_byteAt_0 : decode cX7_byteAt 0 = .ok (.iload_n 1, 1) := by decide +kernel
theorem dX7_byteAt_1 : decode cX7_byteAt 1 = .ok (.ifCond .lt 29, 3) := by decide +kernel
theorem dX7_byteAt_4 : decode cX7_byteAt 4 = .ok (.iload_n 1, 1) := by decide +kernel
theorem dX7_byteAt_5 : decode cX7_byteAt 5 = .ok (.aload_n 0, 1) := by decide +kernel
theorem dX7_byteAt_6 : decode cX7_byteAt 6 = .ok (.getfield 15, 3) := by decide +kernel
theorem dX7_byteAt_9 : decode cX7_byteAt 9 = .ok (.if_icmp .ge 21, 3) := by decide +kernel
theorem dX7_byteAt_12 : decode cX7_byteAt 12 = .ok (.iload_n 1, 1) := by decide +kernel
theorem dX7_byteAt_13 : decode cX7_byteAt 13 = .ok (.aload_n 0, 1) := by decide +kernel
theorem dX7_byteAt_14 : decode cX7_byteAt 14 = .ok (.getfield 9, 3) := by decide +kernel
theorem dX7_byteAt_17 : decode cX7_byteAt 17 = .ok (.arraylength, 1) := by decide +kernel
theorem dX7_byteAt_18 : decode cX7_byteAt 18 = .ok (.if_icmp .ge 12, 3) := by decide +kernel
theorem dX7_byteAt_21 : decode cX7_byteAt 21 = .ok (.aload_n 0, 1) := by decide +kernel
theorem dX7_byteAt_22 : decode cX7_byteAt 22 = .ok (.getfield 9, 3) := by decide +kernel
theorem dX7_byteAt_25 : decode cX7_byteAt 25 = .ok (.iload_n 1, 1) := by decide +kernel
theorem dX7_byteAt_26 : decode cX7_byteAt 26 = .ok (.iaload, 1) := by decide +kernel
theorem dX7_byteAt_27 : decode cX7_byteAt 27 = .ok (.goto 4, 3) := by decide +kernel
theorem dX7_byteAt_30 : decode cX7_byteAt 30 = .ok (.iconst (-1), 1) := by decide +kernel
theorem dX7_byteAt_31 : decode cX7_byteAt 31 = .ok (.ireturn, 1) := by decide +kernel
end
section
theorem dX2_init_0 : decode cX2_init 0 = .ok (.aload_n 0, 1) := by decide +kernel
theorem dX2_init_1 : decode cX2_init 1 = .ok (.invokespecial 3, 3) := by decide +kernel
theorem dX2_init_4 : decode cX2_init 4 = .ok (.aload_n 0, 1) := by decide +kernel
theorem dX2_init_5 : decode cX2_init 5 = .ok (.iconst 0, 1) := by decide +kernel
theorem dX2_init_6 : decode cX2_init 6 = .ok (.putfield 9, 3) := by decide +kernel
theorem dX2_init_9 : decode cX2_init 9 = .ok (.aload_n 0, 1) := by decide +kernel
theorem dX2_init_10 : decode cX2_init 10 = .ok (.iconst 0, 1) := by decide +kernel
theorem dX2_init_11 : decode cX2_init 11 = .ok (.putfield 15, 3) := by decide +kernel
theorem dX2_init_14 : decode cX2_init 14 = .ok (.aload_n 0, 1) := by decide +kernel
theorem dX2_init_15 : decode cX2_init 15 = .ok (.aload_n 1, 1) := by decide +kernel
theorem dX2_init_16 : decode cX2_init 16 = .ok (.putfield 18, 3) := by decide +kernel
theorem dX2_init_19 : decode cX2_init 19 = .ok (.aload_n 0, 1) := by decide +kernel
theorem dX2_init_20 : decode cX2_init 20 = .ok (.aload_n 2, 1) := by decide +kernel
theorem dX2_init_21 : decode cX2_init 21 = .ok (.putfield 22, 3) := by decide +kernel
theorem dX2_init_24 : decode cX2_init 24 = .ok (.return_, 1) := by decide +kernel
theorem dX2_place_0 : decode cX2_place 0 = .ok (.aload_n 0, 1) := by decide +kernel
theorem dX2_place_1 : decode cX2_place 1 = .ok (.getfield 9, 3) := by decide +kernel
theorem dX2_place_4 : decode cX2_place 4 = .ok (.ireturn, 1) := by decide +kernel
theorem dX2_readText_0 : decode cX2_readText 0 = .ok (.aload_n 0, 1) := by decide +kernel
theorem dX2_readText_1 : decode cX2_readText 1 = .ok (.invokevirtual 26, 3) := by decide +kernel
theorem dX2_readText_4 : decode cX2_readText 4 = .ok (.aload_n 0, 1) := by decide +kernel
theorem dX2_readText_5 : decode cX2_readText 5 = .ok (.iconst 0, 1) := by decide +kernel
theorem dX2_readText_6 : decode cX2_readText 6 = .ok (.invokevirtual 29, 3) := by decide +kernel
theorem dX2_readText_9 : decode cX2_readText 9 = .ok (.ifCond .eq 14, 3) := by decide +kernel
theorem dX2_readText_12 : decode cX2_readText 12 = .ok (.aload_n 0, 1) := by decide +kernel
theorem dX2_readText_13 : decode cX2_readText 13 = .ok (.invokevirtual 33, 3) := by decide +kernel
theorem dX2_readText_16 : decode cX2_readText 16 = .ok (.ifCond .eq 7, 3) := by decide +kernel
theorem dX2_readText_19 : decode cX2_readText 19 = .ok (.iconst 1, 1) := by decide +kernel
theorem dX2_readText_20 : decode cX2_readText 20 = .ok (.goto 4, 3) := by decide +kernel
theorem dX2_readText_23 : decode cX2_readText 23 = .ok (.iconst 0, 1) := by decide +kernel
theorem dX2_readText_24 : decode cX2_readText 24 = .ok (.ireturn, 1) := by decide +kernel
theorem dX2_readPart_0 : decode cX2_readPart 0 = .ok (.aload_n 0, 1) := by decide +kernel
theorem dX2_readPart_1 : decode cX2_readPart 1 = .ok (.invokevirtual 37, 3) := by decide +kernel
theorem dX2_readPart_4 : decode cX2_readPart 4 = .ok (.istore_n 2, 1) := by decide +kernel
theorem dX2_readPart_5 : decode cX2_readPart 5 = .ok (.iload_n 2, 1) := by decide +kernel
theorem dX2_readPart_6 : decode cX2_readPart 6 = .ok (.iconst (-1), 1) := by decide +kernel
theorem dX2_readPart_7 : decode cX2_readPart 7 = .ok (.if_icmp .eq 13, 3) := by decide +kernel
theorem dX2_readPart_10 : decode cX2_readPart 10 = .ok (.aload_n 0, 1) := by decide +kernel
theorem dX2_readPart_11 : decode cX2_readPart 11 = .ok (.getfield 22, 3) := by decide +kernel
theorem dX2_readPart_14 : decode cX2_readPart 14 = .ok (.invokevirtual 41, 3) := by decide +kernel
theorem dX2_readPart_17 : decode cX2_readPart 17 = .ok (.ifCond .ne 5, 3) := by decide +kernel
theorem dX2_readPart_20 : decode cX2_readPart 20 = .ok (.iconst 0, 1) := by decide +kernel
theorem dX2_readPart_21 : decode cX2_readPart 21 = .ok (.ireturn, 1) := by decide +kernel
theorem dX2_readPart_22 : decode cX2_readPart 22 = .ok (.aload_n 0, 1) := by decide +kernel
theorem dX2_readPart_23 : decode cX2_readPart 23 = .ok (.getfield 22, 3) := by decide +kernel
theorem dX2_readPart_26 : decode cX2_readPart 26 = .ok (.invokevirtual 46, 3) := by decide +kernel
theorem dX2_readPart_29 : decode cX2_readPart 29 = .ok (.istore_n 3, 1) := by decide +kernel
theorem dX2_readPart_30 : decode cX2_readPart 30 = .ok (.aload_n 0, 1) := by decide +kernel
theorem dX2_readPart_31 : decode cX2_readPart 31 = .ok (.getfield 22, 3) := by decide +kernel
theorem dX2_readPart_34 : decode cX2_readPart 34 = .ok (.iload_n 2, 1) := by decide +kernel
theorem dX2_readPart_35 : decode cX2_readPart 35 = .ok (.invokevirtual 49, 3) := by decide +kernel
theorem dX2_readPart_38 : decode cX2_readPart 38 = .ok (.aload_n 0, 1) := by decide +kernel
theorem dX2_readPart_39 : decode cX2_readPart 39 = .ok (.invokevirtual 26, 3) := by decide +kernel
theorem dX2_readPart_42 : decode cX2_readPart 42 = .ok (.aload_n 0, 1) := by decide +kernel
theorem dX2_readPart_43 : decode cX2_readPart 43 = .ok (.bipush 123, 2) := by decide +kernel
theorem dX2_readPart_45 : decode cX2_readPart 45 = .ok (.invokevirtual 53, 3) := by decide +kernel
theorem dX2_readPart_48 : decode cX2_readPart 48 = .ok (.ifCond .ne 5, 3) := by decide +kernel
theorem dX2_readPart_51 : decode cX2_readPart 51 = .ok (.iconst 1, 1) := by decide +kernel
theorem dX2_readPart_52 : decode cX2_readPart 52 = .ok (.ireturn, 1) := by decide +kernel
theorem dX2_readPart_53 : decode cX2_readPart 53 = .ok (.iload_n 1, 1) := by decide +kernel
theorem dX2_readPart_54 : decode cX2_readPart 54 = .ok (.bipush 6, 2) := by decide +kernel
theorem dX2_readPart_56 : decode cX2_readPart 56 = .ok (.if_icmp .lt 5, 3) := by decide +kernel
theorem dX2_readPart_59 : decode cX2_readPart 59 = .ok (.iconst 0, 1) := by decide +kernel
theorem dX2_readPart_60 : decode cX2_readPart 60 = .ok (.ireturn, 1) := by decide +kernel
theorem dX2_readPart_61 : decode cX2_readPart 61 = .ok (.aload_n 0, 1) := by decide +kernel
theorem dX2_readPart_62 : decode cX2_readPart 62 = .ok (.invokevirtual 26, 3) := by decide +kernel
theorem dX2_readPart_65 : decode cX2_readPart 65 = .ok (.aload_n 0, 1) := by decide +kernel
theorem dX2_readPart_66 : decode cX2_readPart 66 = .ok (.iload_n 3, 1) := by decide +kernel
theorem dX2_readPart_67 : decode cX2_readPart 67 = .ok (.iload_n 1, 1) := by decide +kernel
theorem dX2_readPart_68 : decode cX2_readPart 68 = .ok (.iconst 1, 1) := by decide +kernel
theorem dX2_readPart_69 : decode cX2_readPart 69 = .ok (.iadd, 1) := by decide +kernel
theorem dX2_readPart_70 : decode cX2_readPart 70 = .ok (.invokevirtual 57, 3) := by decide +kernel
theorem dX2_readPart_73 : decode cX2_readPart 73 = .ok (.ireturn, 1) := by decide +kernel
theorem dX2_readItems_0 : decode cX2_readItems 0 = .ok (.iconst 0, 1) := by decide +kernel
theorem dX2_readItems_1 : decode cX2_readItems 1 = .ok (.istore_n 3, 1) := by decide +kernel
theorem dX2_readItems_2 : decode cX2_readItems 2 = .ok (.iload_n 3, 1) := by decide +kernel
theorem dX2_readItems_3 : decode cX2_readItems 3 = .ok (.bipush 100, 2) := by decide +kernel
theorem dX2_readItems_5 : decode cX2_readItems 5 = .ok (.if_icmp .ge 55, 3) := by decide +kernel
theorem dX2_readItems_8 : decode cX2_readItems 8 = .ok (.aload_n 0, 1) := by decide +kernel
theorem dX2_readItems_9 : decode cX2_readItems 9 = .ok (.iload_n 1, 1) := by decide +kernel
theorem dX2_readItems_10 : decode cX2_readItems 10 = .ok (.iload_n 2, 1) := by decide +kernel
theorem dX2_readItems_11 : decode cX2_readItems 11 = .ok (.invokevirtual 61, 3) := by decide +kernel
theorem dX2_readItems_14 : decode cX2_readItems 14 = .ok (.ifCond .ne 5, 3) := by decide +kernel
theorem dX2_readItems_17 : decode cX2_readItems 17 = .ok (.iconst 0, 1) := by decide +kernel
theorem dX2_readItems_18 : decode cX2_readItems 18 = .ok (.ireturn, 1) := by decide +kernel
theorem dX2_readItems_19 : decode cX2_readItems 19 = .ok (.aload_n 0, 1) := by decide +kernel
theorem dX2_readItems_20 : decode cX2_readItems 20 = .ok (.bipush 125, 2) := by decide +kernel
theorem dX2_readItems_22 : decode cX2_readItems 22 = .ok (.invokevirtual 53, 3) := by decide +kernel
theorem dX2_readItems_25 : decode cX2_readItems 25 = .ok (.istore 4, 2) := by decide +kernel
theorem dX2_readItems_27 : decode cX2_readItems 27 = .ok (.iload 4, 2) := by decide +kernel
theorem dX2_readItems_29 : decode cX2_readItems 29 = .ok (.ifCond .ne 14, 3) := by decide +kernel
theorem dX2_readItems_32 : decode cX2_readItems 32 = .ok (.aload_n 0, 1) := by decide +kernel
theorem dX2_readItems_33 : decode cX2_readItems 33 = .ok (.bipush 44, 2) := by decide +kernel
theorem dX2_readItems_35 : decode cX2_readItems 35 = .ok (.invokevirtual 53, 3) := by decide +kernel
theorem dX2_readItems_38 : decode cX2_readItems 38 = .ok (.ifCond .ne 5, 3) := by decide +kernel
theorem dX2_readItems_41 : decode cX2_readItems 41 = .ok (.iconst 0, 1) := by decide +kernel
theorem dX2_readItems_42 : decode cX2_readItems 42 = .ok (.ireturn, 1) := by decide +kernel
theorem dX2_readItems_43 : decode cX2_readItems 43 = .ok (.aload_n 0, 1) := by decide +kernel
theorem dX2_readItems_44 : decode cX2_readItems 44 = .ok (.invokevirtual 26, 3) := by decide +kernel
theorem dX2_readItems_47 : decode cX2_readItems 47 = .ok (.iload 4, 2) := by decide +kernel
theorem dX2_readItems_49 : decode cX2_readItems 49 = .ok (.ifCond .eq 5, 3) := by decide +kernel
theorem dX2_readItems_52 : decode cX2_readItems 52 = .ok (.iconst 1, 1) := by decide +kernel
theorem dX2_readItems_53 : decode cX2_readItems 53 = .ok (.ireturn, 1) := by decide +kernel
theorem dX2_readItems_54 : decode cX2_readItems 54 = .ok (.iinc 3 1, 3) := by decide +kernel
theorem dX2_readItems_57 : decode cX2_readItems 57 = .ok (.goto (-55), 3) := by decide +kernel
theorem dX2_readItems_60 : decode cX2_readItems 60 = .ok (.iconst 0, 1) := by decide +kernel
theorem dX2_readItems_61 : decode cX2_readItems 61 = .ok (.ireturn, 1) := by decide +kernel
theorem dX2_readItem_0 : decode cX2_readItem 0 = .ok (.aload_n 0, 1) := by decide +kernel
theorem dX2_readItem_1 : decode cX2_readItem 1 = .ok (.ldc 64, 2) := by decide +kernel
theorem dX2_readItem_3 : decode cX2_readItem 3 = .ok (.invokevirtual 66, 3) := by decide +kernel
theorem dX2_readItem_6 : decode cX2_readItem 6 = .ok (.ifCond .eq 20, 3) := by decide +kernel
theorem dX2_readItem_9 : decode cX2_readItem 9 = .ok (.aload_n 0, 1) := by decide +kernel
theorem dX2_readItem_10 : decode cX2_readItem 10 = .ok (.getfield 22, 3) := by decide +kernel
theorem dX2_readItem_13 : decode cX2_readItem 13 = .ok (.iload_n 1, 1) := by decide +kernel
theorem dX2_readItem_14 : decode cX2_readItem 14 = .ok (.iconst 0, 1) := by decide +kernel
theorem dX2_readItem_15 : decode cX2_readItem 15 = .ok (.iconst (-1), 1) := by decide +kernel
theorem dX2_readItem_16 : decode cX2_readItem 16 = .ok (.iconst (-1), 1) := by decide +kernel
theorem dX2_readItem_17 : decode cX2_readItem 17 = .ok (.invokevirtual 70, 3) := by decide +kernel
theorem dX2_readItem_20 : decode cX2_readItem 20 = .ok (.aload_n 0, 1) := by decide +kernel
theorem dX2_readItem_21 : decode cX2_readItem 21 = .ok (.invokevirtual 26, 3) := by decide +kernel
theorem dX2_readItem_24 : decode cX2_readItem 24 = .ok (.iconst 1, 1) := by decide +kernel
theorem dX2_readItem_25 : decode cX2_readItem 25 = .ok (.ireturn, 1) := by decide +kernel
theorem dX2_readItem_26 : decode cX2_readItem 26 = .ok (.aload_n 0, 1) := by decide +kernel
theorem dX2_readItem_27 : decode cX2_readItem 27 = .ok (.ldc 74, 2) := by decide +kernel
theorem dX2_readItem_29 : decode cX2_readItem 29 = .ok (.invokevirtual 66, 3) := by decide +kernel
theorem dX2_readItem_32 : decode cX2_readItem 32 = .ok (.istore_n 3, 1) := by decide +kernel
theorem dX2_readItem_33 : decode cX2_readItem 33 = .ok (.iload_n 3, 1) := by decide +kernel
theorem dX2_readItem_34 : decode cX2_readItem 34 = .ok (.ifCond .ne 14, 3) := by decide +kernel
theorem dX2_readItem_37 : decode cX2_readItem 37 = .ok (.aload_n 0, 1) := by decide +kernel
theorem dX2_readItem_38 : decode cX2_readItem 38 = .ok (.ldc 76, 2) := by decide +kernel
theorem dX2_readItem_40 : decode cX2_readItem 40 = .ok (.invokevirtual 66, 3) := by decide +kernel
theorem dX2_readItem_43 : decode cX2_readItem 43 = .ok (.ifCond .ne 5, 3) := by decide +kernel
theorem dX2_readItem_46 : decode cX2_readItem 46 = .ok (.iconst 0, 1) := by decide +kernel
theorem dX2_readItem_47 : decode cX2_readItem 47 = .ok (.ireturn, 1) := by decide +kernel
theorem dX2_readItem_48 : decode cX2_readItem 48 = .ok (.aload_n 0, 1) := by decide +kernel
theorem dX2_readItem_49 : decode cX2_readItem 49 = .ok (.invokevirtual 26, 3) := by decide +kernel
theorem dX2_readItem_52 : decode cX2_readItem 52 = .ok (.aload_n 0, 1) := by decide +kernel
theorem dX2_readItem_53 : decode cX2_readItem 53 = .ok (.invokevirtual 78, 3) := by decide +kernel
theorem dX2_readItem_56 : decode cX2_readItem 56 = .ok (.istore 4, 2) := by decide +kernel
theorem dX2_readItem_58 : decode cX2_readItem 58 = .ok (.iload 4, 2) := by decide +kernel
theorem dX2_readItem_60 : decode cX2_readItem 60 = .ok (.iconst (-1), 1) := by decide +kernel
theorem dX2_readItem_61 : decode cX2_readItem 61 = .ok (.if_icmp .ne 5, 3) := by decide +kernel
theorem dX2_readItem_64 : decode cX2_readItem 64 = .ok (.iconst 0, 1) := by decide +kernel
theorem dX2_readItem_65 : decode cX2_readItem 65 = .ok (.ireturn, 1) := by decide +kernel
theorem dX2_readItem_66 : decode cX2_readItem 66 = .ok (.aload_n 0, 1) := by decide +kernel
theorem dX2_readItem_67 : decode cX2_readItem 67 = .ok (.invokevirtual 26, 3) := by decide +kernel
theorem dX2_readItem_70 : decode cX2_readItem 70 = .ok (.aload_n 0, 1) := by decide +kernel
theorem dX2_readItem_71 : decode cX2_readItem 71 = .ok (.getfield 22, 3) := by decide +kernel
theorem dX2_readItem_74 : decode cX2_readItem 74 = .ok (.iload_n 1, 1) := by decide +kernel
theorem dX2_readItem_75 : decode cX2_readItem 75 = .ok (.iload_n 3, 1) := by decide +kernel
theorem dX2_readItem_76 : decode cX2_readItem 76 = .ok (.ifCond .eq 7, 3) := by decide +kernel
theorem dX2_readItem_79 : decode cX2_readItem 79 = .ok (.iconst 1, 1) := by decide +kernel
theorem dX2_readItem_80 : decode cX2_readItem 80 = .ok (.goto 4, 3) := by decide +kernel
theorem dX2_readItem_83 : decode cX2_readItem 83 = .ok (.iconst 2, 1) := by decide +kernel
theorem dX2_readItem_84 : decode cX2_readItem 84 = .ok (.iload 4, 2) := by decide +kernel
theorem dX2_readItem_86 : decode cX2_readItem 86 = .ok (.aload_n 0, 1) := by decide +kernel
theorem dX2_readItem_87 : decode cX2_readItem 87 = .ok (.getfield 22, 3) := by decide +kernel
theorem dX2_readItem_90 : decode cX2_readItem 90 = .ok (.invokevirtual 46, 3) := by decide +kernel
theorem dX2_readItem_93 : decode cX2_readItem 93 = .ok (.invokevirtual 70, 3) := by decide +kernel
theorem dX2_readItem_96 : decode cX2_readItem 96 = .ok (.aload_n 0, 1) := by decide +kernel
theorem dX2_readItem_97 : decode cX2_readItem 97 = .ok (.iload_n 2, 1) := by decide +kernel
theorem dX2_readItem_98 : decode cX2_readItem 98 = .ok (.invokevirtual 29, 3) := by decide +kernel
theorem dX2_readItem_101 : decode cX2_readItem 101 = .ok (.ireturn, 1) := by decide +kernel
theorem dX2_advance_0 : decode cX2_advance 0 = .ok (.aload_n 0, 1) := by decide +kernel
theorem dX2_advance_1 : decode cX2_advance 1 = .ok (.aload_n 0, 1) := by decide +kernel
theorem dX2_advance_2 : decode cX2_advance 2 = .ok (.getfield 15, 3) := by decide +kernel
theorem dX2_advance_5 : decode cX2_advance 5 = .ok (.putfield 9, 3) := by decide +kernel
theorem dX2_advance_8 : decode cX2_advance 8 = .ok (.aload_n 0, 1) := by decide +kernel
theorem dX2_advance_9 : decode cX2_advance 9 = .ok (.getfield 9, 3) := by decide +kernel
theorem dX2_advance_12 : decode cX2_advance 12 = .ok (.sipush 200, 3) := by decide +kernel
theorem dX2_advance_15 : decode cX2_advance 15 = .ok (.if_icmp .ge 32, 3) := by decide +kernel
theorem dX2_advance_18 : decode cX2_advance 18 = .ok (.aload_n 0, 1) := by decide +kernel
theorem dX2_advance_19 : decode cX2_advance 19 = .ok (.getfield 18, 3) := by decide +kernel
theorem dX2_advance_22 : decode cX2_advance 22 = .ok (.aload_n 0, 1) := by decide +kernel
theorem dX2_advance_23 : decode cX2_advance 23 = .ok (.getfield 9, 3) := by decide +kernel
theorem dX2_advance_26 : decode cX2_advance 26 = .ok (.invokevirtual 81, 3) := by decide +kernel
theorem dX2_advance_29 : decode cX2_advance 29 = .ok (.bipush 32, 2) := by decide +kernel
theorem dX2_advance_31 : decode cX2_advance 31 = .ok (.if_icmp .ne 16, 3) := by decide +kernel
theorem dX2_advance_34 : decode cX2_advance 34 = .ok (.aload_n 0, 1) := by decide +kernel
theorem dX2_advance_35 : decode cX2_advance 35 = .ok (.dup, 1) := by decide +kernel
theorem dX2_advance_36 : decode cX2_advance 36 = .ok (.getfield 9, 3) := by decide +kernel
theorem dX2_advance_39 : decode cX2_advance 39 = .ok (.iconst 1, 1) := by decide +kernel
theorem dX2_advance_40 : decode cX2_advance 40 = .ok (.iadd, 1) := by decide +kernel
theorem dX2_advance_41 : decode cX2_advance 41 = .ok (.putfield 9, 3) := by decide +kernel
theorem dX2_advance_44 : decode cX2_advance 44 = .ok (.goto (-36), 3) := by decide +kernel
theorem dX2_advance_47 : decode cX2_advance 47 = .ok (.aload_n 0, 1) := by decide +kernel
theorem dX2_advance_48 : decode cX2_advance 48 = .ok (.getfield 18, 3) := by decide +kernel
theorem dX2_advance_51 : decode cX2_advance 51 = .ok (.aload_n 0, 1) := by decide +kernel
theorem dX2_advance_52 : decode cX2_advance 52 = .ok (.getfield 9, 3) := by decide +kernel
theorem dX2_advance_55 : decode cX2_advance 55 = .ok (.invokevirtual 81, 3) := by decide +kernel
theorem dX2_advance_58 : decode cX2_advance 58 = .ok (.istore_n 1, 1) := by decide +kernel
theorem dX2_advance_59 : decode cX2_advance 59 = .ok (.aload_n 0, 1) := by decide +kernel
theorem dX2_advance_60 : decode cX2_advance 60 = .ok (.iload_n 1, 1) := by decide +kernel
theorem dX2_advance_61 : decode cX2_advance 61 = .ok (.iconst (-1), 1) := by decide +kernel
theorem dX2_advance_62 : decode cX2_advance 62 = .ok (.if_icmp .ne 10, 3) := by decide +kernel
theorem dX2_advance_65 : decode cX2_advance 65 = .ok (.aload_n 0, 1) := by decide +kernel
theorem dX2_advance_66 : decode cX2_advance 66 = .ok (.getfield 9, 3) := by decide +kernel
theorem dX2_advance_69 : decode cX2_advance 69 = .ok (.goto 9, 3) := by decide +kernel
theorem dX2_advance_72 : decode cX2_advance 72 = .ok (.aload_n 0, 1) := by decide +kernel
theorem dX2_advance_73 : decode cX2_advance 73 = .ok (.getfield 9, 3) := by decide +kernel
theorem dX2_advance_76 : decode cX2_advance 76 = .ok (.iconst 1, 1) := by decide +kernel
theorem dX2_advance_77 : decode cX2_advance 77 = .ok (.iadd, 1) := by decide +kernel
theorem dX2_advance_78 : decode cX2_advance 78 = .ok (.putfield 15, 3) := by decide +kernel
theorem dX2_advance_81 : decode cX2_advance 81 = .ok (.iload_n 1, 1) := by decide +kernel
theorem dX2_advance_82 : decode cX2_advance 82 = .ok (.invokestatic 87, 3) := by decide +kernel
theorem dX2_advance_85 : decode cX2_advance 85 = .ok (.istore_n 2, 1) := by decide +kernel
theorem dX2_advance_86 : decode cX2_advance 86 = .ok (.iload_n 1, 1) := by decide +kernel
theorem dX2_advance_87 : decode cX2_advance 87 = .ok (.invokestatic 90, 3) := by decide +kernel
theorem dX2_advance_90 : decode cX2_advance 90 = .ok (.istore_n 3, 1) := by decide +kernel
theorem dX2_advance_91 : decode cX2_advance 91 = .ok (.aload_n 0, 1) := by decide +kernel
theorem dX2_advance_92 : decode cX2_advance 92 = .ok (.getfield 15, 3) := by decide +kernel
theorem dX2_advance_95 : decode cX2_advance 95 = .ok (.sipush 200, 3) := by decide +kernel
theorem dX2_advance_98 : decode cX2_advance 98 = .ok (.if_icmp .ge 58, 3) := by decide +kernel
theorem dX2_advance_101 : decode cX2_advance 101 = .ok (.iload_n 2, 1) := by decide +kernel
theorem dX2_advance_102 : decode cX2_advance 102 = .ok (.ifCond .eq 20, 3) := by decide +kernel
theorem dX2_advance_105 : decode cX2_advance 105 = .ok (.aload_n 0, 1) := by decide +kernel
theorem dX2_advance_106 : decode cX2_advance 106 = .ok (.getfield 18, 3) := by decide +kernel
theorem dX2_advance_109 : decode cX2_advance 109 = .ok (.aload_n 0, 1) := by decide +kernel
theorem dX2_advance_110 : decode cX2_advance 110 = .ok (.getfield 15, 3) := by decide +kernel
theorem dX2_advance_113 : decode cX2_advance 113 = .ok (.invokevirtual 81, 3) := by decide +kernel
theorem dX2_advance_116 : decode cX2_advance 116 = .ok (.invokestatic 87, 3) := by decide +kernel
theorem dX2_advance_119 : decode cX2_advance 119 = .ok (.ifCond .ne 24, 3) := by decide +kernel
theorem dX2_advance_122 : decode cX2_advance 122 = .ok (.iload_n 3, 1) := by decide +kernel
theorem dX2_advance_123 : decode cX2_advance 123 = .ok (.ifCond .eq 33, 3) := by decide +kernel
theorem dX2_advance_126 : decode cX2_advance 126 = .ok (.aload_n 0, 1) := by decide +kernel
theorem dX2_advance_127 : decode cX2_advance 127 = .ok (.getfield 18, 3) := by decide +kernel
theorem dX2_advance_130 : decode cX2_advance 130 = .ok (.aload_n 0, 1) := by decide +kernel
theorem dX2_advance_131 : decode cX2_advance 131 = .ok (.getfield 15, 3) := by decide +kernel
theorem dX2_advance_134 : decode cX2_advance 134 = .ok (.invokevirtual 81, 3) := by decide +kernel
theorem dX2_advance_137 : decode cX2_advance 137 = .ok (.invokestatic 90, 3) := by decide +kernel
theorem dX2_advance_140 : decode cX2_advance 140 = .ok (.ifCond .eq 16, 3) := by decide +kernel
theorem dX2_advance_143 : decode cX2_advance 143 = .ok (.aload_n 0, 1) := by decide +kernel
theorem dX2_advance_144 : decode cX2_advance 144 = .ok (.dup, 1) := by decide +kernel
theorem dX2_advance_145 : decode cX2_advance 145 = .ok (.getfield 15, 3) := by decide +kernel
theorem dX2_advance_148 : decode cX2_advance 148 = .ok (.iconst 1, 1) := by decide +kernel
theorem dX2_advance_149 : decode cX2_advance 149 = .ok (.iadd, 1) := by decide +kernel
theorem dX2_advance_150 : decode cX2_advance 150 = .ok (.putfield 15, 3) := by decide +kernel
theorem dX2_advance_153 : decode cX2_advance 153 = .ok (.goto (-62), 3) := by decide +kernel
theorem dX2_advance_156 : decode cX2_advance 156 = .ok (.return_, 1) := by decide +kernel
theorem dX2_isAtEnd_0 : decode cX2_isAtEnd 0 = .ok (.aload_n 0, 1) := by decide +kernel
theorem dX2_isAtEnd_1 : decode cX2_isAtEnd 1 = .ok (.getfield 9, 3) := by decide +kernel
theorem dX2_isAtEnd_4 : decode cX2_isAtEnd 4 = .ok (.aload_n 0, 1) := by decide +kernel
theorem dX2_isAtEnd_5 : decode cX2_isAtEnd 5 = .ok (.getfield 18, 3) := by decide +kernel
theorem dX2_isAtEnd_8 : decode cX2_isAtEnd 8 = .ok (.invokevirtual 93, 3) := by decide +kernel
theorem dX2_isAtEnd_11 : decode cX2_isAtEnd 11 = .ok (.if_icmp .lt 7, 3) := by decide +kernel
theorem dX2_isAtEnd_14 : decode cX2_isAtEnd 14 = .ok (.iconst 1, 1) := by decide +kernel
theorem dX2_isAtEnd_15 : decode cX2_isAtEnd 15 = .ok (.goto 4, 3) := by decide +kernel
theorem dX2_isAtEnd_18 : decode cX2_isAtEnd 18 = .ok (.iconst 0, 1) := by decide +kernel
theorem dX2_isAtEnd_19 : decode cX2_isAtEnd 19 = .ok (.ireturn, 1) := by decide +kernel
theorem dX2_isLetter_0 : decode cX2_isLetter 0 = .ok (.iload_n 0, 1) := by decide +kernel
theorem dX2_isLetter_1 : decode cX2_isLetter 1 = .ok (.bipush 97, 2) := by decide +kernel
theorem dX2_isLetter_3 : decode cX2_isLetter 3 = .ok (.if_icmp .lt 13, 3) := by decide +kernel
theorem dX2_isLetter_6 : decode cX2_isLetter 6 = .ok (.iload_n 0, 1) := by decide +kernel
theorem dX2_isLetter_7 : decode cX2_isLetter 7 = .ok (.bipush 122, 2) := by decide +kernel
theorem dX2_isLetter_9 : decode cX2_isLetter 9 = .ok (.if_icmp .gt 7, 3) := by decide +kernel
theorem dX2_isLetter_12 : decode cX2_isLetter 12 = .ok (.iconst 1, 1) := by decide +kernel
theorem dX2_isLetter_13 : decode cX2_isLetter 13 = .ok (.goto 4, 3) := by decide +kernel
theorem dX2_isLetter_16 : decode cX2_isLetter 16 = .ok (.iconst 0, 1) := by decide +kernel
theorem dX2_isLetter_17 : decode cX2_isLetter 17 = .ok (.ireturn, 1) := by decide +kernel
theorem dX2_isDigit_0 : decode cX2_isDigit 0 = .ok (.iload_n 0, 1) := by decide +kernel
theorem dX2_isDigit_1 : decode cX2_isDigit 1 = .ok (.bipush 48, 2) := by decide +kernel
theorem dX2_isDigit_3 : decode cX2_isDigit 3 = .ok (.if_icmp .lt 13, 3) := by decide +kernel
theorem dX2_isDigit_6 : decode cX2_isDigit 6 = .ok (.iload_n 0, 1) := by decide +kernel
theorem dX2_isDigit_7 : decode cX2_isDigit 7 = .ok (.bipush 57, 2) := by decide +kernel
theorem dX2_isDigit_9 : decode cX2_isDigit 9 = .ok (.if_icmp .gt 7, 3) := by decide +kernel
theorem dX2_isDigit_12 : decode cX2_isDigit 12 = .ok (.iconst 1, 1) := by decide +kernel
theorem dX2_isDigit_13 : decode cX2_isDigit 13 = .ok (.goto 4, 3) := by decide +kernel
theorem dX2_isDigit_16 : decode cX2_isDigit 16 = .ok (.iconst 0, 1) := by decide +kernel
theorem dX2_isDigit_17 : decode cX2_isDigit 17 = .ok (.ireturn, 1) := by decide +kernel
theorem dX2_isSign_0 : decode cX2_isSign 0 = .ok (.aload_n 0, 1) := by decide +kernel
theorem dX2_isSign_1 : decode cX2_isSign 1 = .ok (.getfield 18, 3) := by decide +kernel
theorem dX2_isSign_4 : decode cX2_isSign 4 = .ok (.aload_n 0, 1) := by decide +kernel
theorem dX2_isSign_5 : decode cX2_isSign 5 = .ok (.getfield 9, 3) := by decide +kernel
theorem dX2_isSign_8 : decode cX2_isSign 8 = .ok (.invokevirtual 81, 3) := by decide +kernel
theorem dX2_isSign_11 : decode cX2_isSign 11 = .ok (.iload_n 1, 1) := by decide +kernel
theorem dX2_isSign_12 : decode cX2_isSign 12 = .ok (.if_icmp .ne 7, 3) := by decide +kernel
theorem dX2_isSign_15 : decode cX2_isSign 15 = .ok (.iconst 1, 1) := by decide +kernel
theorem dX2_isSign_16 : decode cX2_isSign 16 = .ok (.goto 4, 3) := by decide +kernel
theorem dX2_isSign_19 : decode cX2_isSign 19 = .ok (.iconst 0, 1) := by decide +kernel
theorem dX2_isSign_20 : decode cX2_isSign 20 = .ok (.ireturn, 1) := by decide +kernel
theorem dX2_isWord_0 : decode cX2_isWord 0 = .ok (.aload_n 0, 1) := by decide +kernel
theorem dX2_isWord_1 : decode cX2_isWord 1 = .ok (.getfield 15, 3) := by decide +kernel
theorem dX2_isWord_4 : decode cX2_isWord 4 = .ok (.aload_n 0, 1) := by decide +kernel
theorem dX2_isWord_5 : decode cX2_isWord 5 = .ok (.getfield 9, 3) := by decide +kernel
theorem dX2_isWord_8 : decode cX2_isWord 8 = .ok (.isub, 1) := by decide +kernel
theorem dX2_isWord_9 : decode cX2_isWord 9 = .ok (.aload_n 1, 1) := by decide +kernel
theorem dX2_isWord_10 : decode cX2_isWord 10 = .ok (.invokevirtual 96, 3) := by decide +kernel
theorem dX2_isWord_13 : decode cX2_isWord 13 = .ok (.if_icmp .eq 5, 3) := by decide +kernel
theorem dX2_isWord_16 : decode cX2_isWord 16 = .ok (.iconst 0, 1) := by decide +kernel
theorem dX2_isWord_17 : decode cX2_isWord 17 = .ok (.ireturn, 1) := by decide +kernel
theorem dX2_isWord_18 : decode cX2_isWord 18 = .ok (.iconst 0, 1) := by decide +kernel
theorem dX2_isWord_19 : decode cX2_isWord 19 = .ok (.istore_n 2, 1) := by decide +kernel
theorem dX2_isWord_20 : decode cX2_isWord 20 = .ok (.iload_n 2, 1) := by decide +kernel
theorem dX2_isWord_21 : decode cX2_isWord 21 = .ok (.aload_n 1, 1) := by decide +kernel
theorem dX2_isWord_22 : decode cX2_isWord 22 = .ok (.invokevirtual 96, 3) := by decide +kernel
theorem dX2_isWord_25 : decode cX2_isWord 25 = .ok (.if_icmp .ge 32, 3) := by decide +kernel
theorem dX2_isWord_28 : decode cX2_isWord 28 = .ok (.aload_n 0, 1) := by decide +kernel
theorem dX2_isWord_29 : decode cX2_isWord 29 = .ok (.getfield 18, 3) := by decide +kernel
theorem dX2_isWord_32 : decode cX2_isWord 32 = .ok (.aload_n 0, 1) := by decide +kernel
theorem dX2_isWord_33 : decode cX2_isWord 33 = .ok (.getfield 9, 3) := by decide +kernel
theorem dX2_isWord_36 : decode cX2_isWord 36 = .ok (.iload_n 2, 1) := by decide +kernel
theorem dX2_isWord_37 : decode cX2_isWord 37 = .ok (.iadd, 1) := by decide +kernel
theorem dX2_isWord_38 : decode cX2_isWord 38 = .ok (.invokevirtual 81, 3) := by decide +kernel
theorem dX2_isWord_41 : decode cX2_isWord 41 = .ok (.aload_n 1, 1) := by decide +kernel
theorem dX2_isWord_42 : decode cX2_isWord 42 = .ok (.iload_n 2, 1) := by decide +kernel
theorem dX2_isWord_43 : decode cX2_isWord 43 = .ok (.invokevirtual 99, 3) := by decide +kernel
theorem dX2_isWord_46 : decode cX2_isWord 46 = .ok (.if_icmp .eq 5, 3) := by decide +kernel
theorem dX2_isWord_49 : decode cX2_isWord 49 = .ok (.iconst 0, 1) := by decide +kernel
theorem dX2_isWord_50 : decode cX2_isWord 50 = .ok (.ireturn, 1) := by decide +kernel
theorem dX2_isWord_51 : decode cX2_isWord 51 = .ok (.iinc 2 1, 3) := by decide +kernel
theorem dX2_isWord_54 : decode cX2_isWord 54 = .ok (.goto (-34), 3) := by decide +kernel
theorem dX2_isWord_57 : decode cX2_isWord 57 = .ok (.iconst 1, 1) := by decide +kernel
theorem dX2_isWord_58 : decode cX2_isWord 58 = .ok (.ireturn, 1) := by decide +kernel
theorem dX2_tableHere_0 : decode cX2_tableHere 0 = .ok (.aload_n 0, 1) := by decide +kernel
theorem dX2_tableHere_1 : decode cX2_tableHere 1 = .ok (.getfield 18, 3) := by decide +kernel
theorem dX2_tableHere_4 : decode cX2_tableHere 4 = .ok (.aload_n 0, 1) := by decide +kernel
theorem dX2_tableHere_5 : decode cX2_tableHere 5 = .ok (.getfield 9, 3) := by decide +kernel
theorem dX2_tableHere_8 : decode cX2_tableHere 8 = .ok (.invokevirtual 81, 3) := by decide +kernel
theorem dX2_tableHere_11 : decode cX2_tableHere 11 = .ok (.bipush 97, 2) := by decide +kernel
theorem dX2_tableHere_13 : decode cX2_tableHere 13 = .ok (.isub, 1) := by decide +kernel
theorem dX2_tableHere_14 : decode cX2_tableHere 14 = .ok (.istore_n 1, 1) := by decide +kernel
theorem dX2_tableHere_15 : decode cX2_tableHere 15 = .ok (.aload_n 0, 1) := by decide +kernel
theorem dX2_tableHere_16 : decode cX2_tableHere 16 = .ok (.getfield 15, 3) := by decide +kernel
theorem dX2_tableHere_19 : decode cX2_tableHere 19 = .ok (.aload_n 0, 1) := by decide +kernel
theorem dX2_tableHere_20 : decode cX2_tableHere 20 = .ok (.getfield 9, 3) := by decide +kernel
theorem dX2_tableHere_23 : decode cX2_tableHere 23 = .ok (.isub, 1) := by decide +kernel
theorem dX2_tableHere_24 : decode cX2_tableHere 24 = .ok (.iconst 1, 1) := by decide +kernel
theorem dX2_tableHere_25 : decode cX2_tableHere 25 = .ok (.if_icmp .ne 16, 3) := by decide +kernel
theorem dX2_tableHere_28 : decode cX2_tableHere 28 = .ok (.iload_n 1, 1) := by decide +kernel
theorem dX2_tableHere_29 : decode cX2_tableHere 29 = .ok (.ifCond .lt 12, 3) := by decide +kernel
theorem dX2_tableHere_32 : decode cX2_tableHere 32 = .ok (.iload_n 1, 1) := by decide +kernel
theorem dX2_tableHere_33 : decode cX2_tableHere 33 = .ok (.iconst 4, 1) := by decide +kernel
theorem dX2_tableHere_34 : decode cX2_tableHere 34 = .ok (.if_icmp .ge 7, 3) := by decide +kernel
theorem dX2_tableHere_37 : decode cX2_tableHere 37 = .ok (.iload_n 1, 1) := by decide +kernel
theorem dX2_tableHere_38 : decode cX2_tableHere 38 = .ok (.goto 4, 3) := by decide +kernel
theorem dX2_tableHere_41 : decode cX2_tableHere 41 = .ok (.iconst (-1), 1) := by decide +kernel
theorem dX2_tableHere_42 : decode cX2_tableHere 42 = .ok (.ireturn, 1) := by decide +kernel
theorem dX2_referenceHere_0 : decode cX2_referenceHere 0 = .ok (.aload_n 0, 1) := by decide +kernel
theorem dX2_referenceHere_1 : decode cX2_referenceHere 1 = .ok (.getfield 9, 3) := by decide +kernel
theorem dX2_referenceHere_4 : decode cX2_referenceHere 4 = .ok (.istore_n 1, 1) := by decide +kernel
theorem dX2_referenceHere_5 : decode cX2_referenceHere 5 = .ok (.iload_n 1, 1) := by decide +kernel
theorem dX2_referenceHere_6 : decode cX2_referenceHere 6 = .ok (.aload_n 0, 1) := by decide +kernel
theorem dX2_referenceHere_7 : decode cX2_referenceHere 7 = .ok (.getfield 15, 3) := by decide +kernel
theorem dX2_referenceHere_10 : decode cX2_referenceHere 10 = .ok (.iconst 1, 1) := by decide +kernel
theorem dX2_referenceHere_11 : decode cX2_referenceHere 11 = .ok (.isub, 1) := by decide +kernel
theorem dX2_referenceHere_12 : decode cX2_referenceHere 12 = .ok (.if_icmp .ge 31, 3) := by decide +kernel
theorem dX2_referenceHere_15 : decode cX2_referenceHere 15 = .ok (.iload_n 1, 1) := by decide +kernel
theorem dX2_referenceHere_16 : decode cX2_referenceHere 16 = .ok (.sipush 200, 3) := by decide +kernel
theorem dX2_referenceHere_19 : decode cX2_referenceHere 19 = .ok (.if_icmp .ge 24, 3) := by decide +kernel
theorem dX2_referenceHere_22 : decode cX2_referenceHere 22 = .ok (.aload_n 0, 1) := by decide +kernel
theorem dX2_referenceHere_23 : decode cX2_referenceHere 23 = .ok (.getfield 18, 3) := by decide +kernel
theorem dX2_referenceHere_26 : decode cX2_referenceHere 26 = .ok (.iload_n 1, 1) := by decide +kernel
theorem dX2_referenceHere_27 : decode cX2_referenceHere 27 = .ok (.invokevirtual 81, 3) := by decide +kernel
theorem dX2_referenceHere_30 : decode cX2_referenceHere 30 = .ok (.bipush 48, 2) := by decide +kernel
theorem dX2_referenceHere_32 : decode cX2_referenceHere 32 = .ok (.if_icmp .eq 5, 3) := by decide +kernel
theorem dX2_referenceHere_35 : decode cX2_referenceHere 35 = .ok (.iconst (-1), 1) := by decide +kernel
theorem dX2_referenceHere_36 : decode cX2_referenceHere 36 = .ok (.ireturn, 1) := by decide +kernel
theorem dX2_referenceHere_37 : decode cX2_referenceHere 37 = .ok (.iinc 1 1, 3) := by decide +kernel
theorem dX2_referenceHere_40 : decode cX2_referenceHere 40 = .ok (.goto (-35), 3) := by decide +kernel
theorem dX2_referenceHere_43 : decode cX2_referenceHere 43 = .ok (.aload_n 0, 1) := by decide +kernel
theorem dX2_referenceHere_44 : decode cX2_referenceHere 44 = .ok (.getfield 18, 3) := by decide +kernel
theorem dX2_referenceHere_47 : decode cX2_referenceHere 47 = .ok (.aload_n 0, 1) := by decide +kernel
theorem dX2_referenceHere_48 : decode cX2_referenceHere 48 = .ok (.getfield 15, 3) := by decide +kernel
theorem dX2_referenceHere_51 : decode cX2_referenceHere 51 = .ok (.iconst 1, 1) := by decide +kernel
theorem dX2_referenceHere_52 : decode cX2_referenceHere 52 = .ok (.isub, 1) := by decide +kernel
theorem dX2_referenceHere_53 : decode cX2_referenceHere 53 = .ok (.invokevirtual 81, 3) := by decide +kernel
theorem dX2_referenceHere_56 : decode cX2_referenceHere 56 = .ok (.bipush 48, 2) := by decide +kernel
theorem dX2_referenceHere_58 : decode cX2_referenceHere 58 = .ok (.isub, 1) := by decide +kernel
theorem dX2_referenceHere_59 : decode cX2_referenceHere 59 = .ok (.istore_n 1, 1) := by decide +kernel
theorem dX2_referenceHere_60 : decode cX2_referenceHere 60 = .ok (.aload_n 0, 1) := by decide +kernel
theorem dX2_referenceHere_61 : decode cX2_referenceHere 61 = .ok (.getfield 18, 3) := by decide +kernel
theorem dX2_referenceHere_64 : decode cX2_referenceHere 64 = .ok (.aload_n 0, 1) := by decide +kernel
theorem dX2_referenceHere_65 : decode cX2_referenceHere 65 = .ok (.getfield 9, 3) := by decide +kernel
theorem dX2_referenceHere_68 : decode cX2_referenceHere 68 = .ok (.invokevirtual 81, 3) := by decide +kernel
theorem dX2_referenceHere_71 : decode cX2_referenceHere 71 = .ok (.invokestatic 90, 3) := by decide +kernel
theorem dX2_referenceHere_74 : decode cX2_referenceHere 74 = .ok (.ifCond .eq 16, 3) := by decide +kernel
theorem dX2_referenceHere_77 : decode cX2_referenceHere 77 = .ok (.iload_n 1, 1) := by decide +kernel
theorem dX2_referenceHere_78 : decode cX2_referenceHere 78 = .ok (.ifCond .eq 8, 3) := by decide +kernel
theorem dX2_referenceHere_81 : decode cX2_referenceHere 81 = .ok (.iload_n 1, 1) := by decide +kernel
theorem dX2_referenceHere_82 : decode cX2_referenceHere 82 = .ok (.iconst 1, 1) := by decide +kernel
theorem dX2_referenceHere_83 : decode cX2_referenceHere 83 = .ok (.if_icmp .ne 7, 3) := by decide +kernel
theorem dX2_referenceHere_86 : decode cX2_referenceHere 86 = .ok (.iload_n 1, 1) := by decide +kernel
theorem dX2_referenceHere_87 : decode cX2_referenceHere 87 = .ok (.goto 4, 3) := by decide +kernel
theorem dX2_referenceHere_90 : decode cX2_referenceHere 90 = .ok (.iconst (-1), 1) := by decide +kernel
theorem dX2_referenceHere_91 : decode cX2_referenceHere 91 = .ok (.ireturn, 1) := by decide +kernel
theorem dX8_init_0 : decode cX8_init 0 = .ok (.aload_n 0, 1) := by decide +kernel
theorem dX8_init_1 : decode cX8_init 1 = .ok (.invokespecial 3, 3) := by decide +kernel
theorem dX8_init_4 : decode cX8_init 4 = .ok (.aload_n 0, 1) := by decide +kernel
theorem dX8_init_5 : decode cX8_init 5 = .ok (.new 9, 3) := by decide +kernel
theorem dX8_init_8 : decode cX8_init 8 = .ok (.dup, 1) := by decide +kernel
theorem dX8_init_9 : decode cX8_init 9 = .ok (.invokespecial 11, 3) := by decide +kernel
theorem dX8_init_12 : decode cX8_init 12 = .ok (.putfield 12, 3) := by decide +kernel
theorem dX8_init_15 : decode cX8_init 15 = .ok (.aload_n 0, 1) := by decide +kernel
theorem dX8_init_16 : decode cX8_init 16 = .ok (.new 16, 3) := by decide +kernel
theorem dX8_init_19 : decode cX8_init 19 = .ok (.dup, 1) := by decide +kernel
theorem dX8_init_20 : decode cX8_init 20 = .ok (.invokespecial 18, 3) := by decide +kernel
theorem dX8_init_23 : decode cX8_init 23 = .ok (.putfield 19, 3) := by decide +kernel
theorem dX8_init_26 : decode cX8_init 26 = .ok (.aload_n 0, 1) := by decide +kernel
theorem dX8_init_27 : decode cX8_init 27 = .ok (.new 23, 3) := by decide +kernel
theorem dX8_init_30 : decode cX8_init 30 = .ok (.dup, 1) := by decide +kernel
theorem dX8_init_31 : decode cX8_init 31 = .ok (.invokespecial 25, 3) := by decide +kernel
theorem dX8_init_34 : decode cX8_init 34 = .ok (.putfield 26, 3) := by decide +kernel
theorem dX8_init_37 : decode cX8_init 37 = .ok (.aload_n 0, 1) := by decide +kernel
theorem dX8_init_38 : decode cX8_init 38 = .ok (.bipush 10, 2) := by decide +kernel
theorem dX8_init_40 : decode cX8_init 40 = .ok (.anewarray 30, 3) := by decide +kernel
theorem dX8_init_43 : decode cX8_init 43 = .ok (.putfield 32, 3) := by decide +kernel
theorem dX8_init_46 : decode cX8_init 46 = .ok (.aload_n 0, 1) := by decide +kernel
theorem dX8_init_47 : decode cX8_init 47 = .ok (.new 36, 3) := by decide +kernel
theorem dX8_init_50 : decode cX8_init 50 = .ok (.dup, 1) := by decide +kernel
theorem dX8_init_51 : decode cX8_init 51 = .ok (.invokespecial 38, 3) := by decide +kernel
theorem dX8_init_54 : decode cX8_init 54 = .ok (.putfield 39, 3) := by decide +kernel
theorem dX8_init_57 : decode cX8_init 57 = .ok (.aload_n 0, 1) := by decide +kernel
theorem dX8_init_58 : decode cX8_init 58 = .ok (.iconst 0, 1) := by decide +kernel
theorem dX8_init_59 : decode cX8_init 59 = .ok (.putfield 43, 3) := by decide +kernel
theorem dX8_init_62 : decode cX8_init 62 = .ok (.aload_n 0, 1) := by decide +kernel
theorem dX8_init_63 : decode cX8_init 63 = .ok (.iconst 0, 1) := by decide +kernel
theorem dX8_init_64 : decode cX8_init 64 = .ok (.putfield 47, 3) := by decide +kernel
theorem dX8_init_67 : decode cX8_init 67 = .ok (.aload_n 0, 1) := by decide +kernel
theorem dX8_init_68 : decode cX8_init 68 = .ok (.iconst (-1), 1) := by decide +kernel
theorem dX8_init_69 : decode cX8_init 69 = .ok (.putfield 50, 3) := by decide +kernel
theorem dX8_init_72 : decode cX8_init 72 = .ok (.aload_n 0, 1) := by decide +kernel
theorem dX8_init_73 : decode cX8_init 73 = .ok (.iconst 0, 1) := by decide +kernel
theorem dX8_init_74 : decode cX8_init 74 = .ok (.putfield 53, 3) := by decide +kernel
theorem dX8_init_77 : decode cX8_init 77 = .ok (.aload_n 0, 1) := by decide +kernel
theorem dX8_init_78 : decode cX8_init 78 = .ok (.new 36, 3) := by decide +kernel
theorem dX8_init_81 : decode cX8_init 81 = .ok (.dup, 1) := by decide +kernel
theorem dX8_init_82 : decode cX8_init 82 = .ok (.invokespecial 38, 3) := by decide +kernel
theorem dX8_init_85 : decode cX8_init 85 = .ok (.putfield 56, 3) := by decide +kernel
theorem dX8_init_88 : decode cX8_init 88 = .ok (.aload_n 0, 1) := by decide +kernel
theorem dX8_init_89 : decode cX8_init 89 = .ok (.new 9, 3) := by decide +kernel
theorem dX8_init_92 : decode cX8_init 92 = .ok (.dup, 1) := by decide +kernel
theorem dX8_init_93 : decode cX8_init 93 = .ok (.invokespecial 11, 3) := by decide +kernel
theorem dX8_init_96 : decode cX8_init 96 = .ok (.putfield 59, 3) := by decide +kernel
theorem dX8_init_99 : decode cX8_init 99 = .ok (.aload_n 0, 1) := by decide +kernel
theorem dX8_init_100 : decode cX8_init 100 = .ok (.new 62, 3) := by decide +kernel
theorem dX8_init_103 : decode cX8_init 103 = .ok (.dup, 1) := by decide +kernel
theorem dX8_init_104 : decode cX8_init 104 = .ok (.invokespecial 64, 3) := by decide +kernel
theorem dX8_init_107 : decode cX8_init 107 = .ok (.putfield 65, 3) := by decide +kernel
theorem dX8_init_110 : decode cX8_init 110 = .ok (.aload_n 0, 1) := by decide +kernel
theorem dX8_init_111 : decode cX8_init 111 = .ok (.new 62, 3) := by decide +kernel
theorem dX8_init_114 : decode cX8_init 114 = .ok (.dup, 1) := by decide +kernel
theorem dX8_init_115 : decode cX8_init 115 = .ok (.invokespecial 64, 3) := by decide +kernel
theorem dX8_init_118 : decode cX8_init 118 = .ok (.putfield 69, 3) := by decide +kernel
theorem dX8_init_121 : decode cX8_init 121 = .ok (.return_, 1) := by decide +kernel
theorem dX8_row_0 : decode cX8_row 0 = .ok (.iload_n 1, 1) := by decide +kernel
theorem dX8_row_1 : decode cX8_row 1 = .ok (.ifCond .lt 15, 3) := by decide +kernel
theorem dX8_row_4 : decode cX8_row 4 = .ok (.iload_n 1, 1) := by decide +kernel
theorem dX8_row_5 : decode cX8_row 5 = .ok (.iconst 4, 1) := by decide +kernel
theorem dX8_row_6 : decode cX8_row 6 = .ok (.if_icmp .ge 10, 3) := by decide +kernel
theorem dX8_row_9 : decode cX8_row 9 = .ok (.iload_n 2, 1) := by decide +kernel
theorem dX8_row_10 : decode cX8_row 10 = .ok (.invokestatic 72, 3) := by decide +kernel
theorem dX8_row_13 : decode cX8_row 13 = .ok (.ifCond .ne 9, 3) := by decide +kernel
theorem dX8_row_16 : decode cX8_row 16 = .ok (.aload_n 0, 1) := by decide +kernel
theorem dX8_row_17 : decode cX8_row 17 = .ok (.iconst (-1), 1) := by decide +kernel
theorem dX8_row_18 : decode cX8_row 18 = .ok (.invokevirtual 76, 3) := by decide +kernel
theorem dX8_row_21 : decode cX8_row 21 = .ok (.ireturn, 1) := by decide +kernel
theorem dX8_row_22 : decode cX8_row 22 = .ok (.aload_n 0, 1) := by decide +kernel
theorem dX8_row_23 : decode cX8_row 23 = .ok (.iload_n 3, 1) := by decide +kernel
theorem dX8_row_24 : decode cX8_row 24 = .ok (.invokevirtual 80, 3) := by decide +kernel
theorem dX8_row_27 : decode cX8_row 27 = .ok (.ifCond .eq 12, 3) := by decide +kernel
theorem dX8_row_30 : decode cX8_row 30 = .ok (.aload_n 0, 1) := by decide +kernel
theorem dX8_row_31 : decode cX8_row 31 = .ok (.iload 4, 2) := by decide +kernel
theorem dX8_row_33 : decode cX8_row 33 = .ok (.invokevirtual 80, 3) := by decide +kernel
theorem dX8_row_36 : decode cX8_row 36 = .ok (.ifCond .ne 10, 3) := by decide +kernel
theorem dX8_row_39 : decode cX8_row 39 = .ok (.aload_n 0, 1) := by decide +kernel
theorem dX8_row_40 : decode cX8_row 40 = .ok (.bipush (-2), 2) := by decide +kernel
theorem dX8_row_42 : decode cX8_row 42 = .ok (.invokevirtual 76, 3) := by decide +kernel
theorem dX8_row_45 : decode cX8_row 45 = .ok (.ireturn, 1) := by decide +kernel
theorem dX8_row_46 : decode cX8_row 46 = .ok (.aload_n 0, 1) := by decide +kernel
theorem dX8_row_47 : decode cX8_row 47 = .ok (.getfield 12, 3) := by decide +kernel
theorem dX8_row_50 : decode cX8_row 50 = .ok (.invokevirtual 83, 3) := by decide +kernel
theorem dX8_row_53 : decode cX8_row 53 = .ok (.ifCond .ne 13, 3) := by decide +kernel
theorem dX8_row_56 : decode cX8_row 56 = .ok (.aload_n 0, 1) := by decide +kernel
theorem dX8_row_57 : decode cX8_row 57 = .ok (.getfield 19, 3) := by decide +kernel
theorem dX8_row_60 : decode cX8_row 60 = .ok (.invokevirtual 87, 3) := by decide +kernel
theorem dX8_row_63 : decode cX8_row 63 = .ok (.ifCond .eq 10, 3) := by decide +kernel
theorem dX8_row_66 : decode cX8_row 66 = .ok (.aload_n 0, 1) := by decide +kernel
theorem dX8_row_67 : decode cX8_row 67 = .ok (.bipush (-5), 2) := by decide +kernel
theorem dX8_row_69 : decode cX8_row 69 = .ok (.invokevirtual 76, 3) := by decide +kernel
theorem dX8_row_72 : decode cX8_row 72 = .ok (.ireturn, 1) := by decide +kernel
theorem dX8_row_73 : decode cX8_row 73 = .ok (.aload_n 0, 1) := by decide +kernel
theorem dX8_row_74 : decode cX8_row 74 = .ok (.getfield 12, 3) := by decide +kernel
theorem dX8_row_77 : decode cX8_row 77 = .ok (.invokevirtual 88, 3) := by decide +kernel
theorem dX8_row_80 : decode cX8_row 80 = .ok (.istore 5, 2) := by decide +kernel
theorem dX8_row_82 : decode cX8_row 82 = .ok (.aload_n 0, 1) := by decide +kernel
theorem dX8_row_83 : decode cX8_row 83 = .ok (.new 92, 3) := by decide +kernel
theorem dX8_row_86 : decode cX8_row 86 = .ok (.dup, 1) := by decide +kernel
theorem dX8_row_87 : decode cX8_row 87 = .ok (.iload 5, 2) := by decide +kernel
theorem dX8_row_89 : decode cX8_row 89 = .ok (.iload_n 1, 1) := by decide +kernel
theorem dX8_row_90 : decode cX8_row 90 = .ok (.iload_n 2, 1) := by decide +kernel
theorem dX8_row_91 : decode cX8_row 91 = .ok (.iload_n 3, 1) := by decide +kernel
theorem dX8_row_92 : decode cX8_row 92 = .ok (.iload 4, 2) := by decide +kernel
theorem dX8_row_94 : decode cX8_row 94 = .ok (.iconst 1, 1) := by decide +kernel
theorem dX8_row_95 : decode cX8_row 95 = .ok (.invokespecial 94, 3) := by decide +kernel
theorem dX8_row_98 : decode cX8_row 98 = .ok (.invokevirtual 97, 3) := by decide +kernel
theorem dX8_row_101 : decode cX8_row 101 = .ok (.aload_n 0, 1) := by decide +kernel
theorem dX8_row_102 : decode cX8_row 102 = .ok (.iload 5, 2) := by decide +kernel
theorem dX8_row_104 : decode cX8_row 104 = .ok (.invokevirtual 101, 3) := by decide +kernel
theorem dX8_row_107 : decode cX8_row 107 = .ok (.ireturn, 1) := by decide +kernel
theorem dX8_value_0 : decode cX8_value 0 = .ok (.iload_n 2, 1) := by decide +kernel
theorem dX8_value_1 : decode cX8_value 1 = .ok (.invokestatic 72, 3) := by decide +kernel
theorem dX8_value_4 : decode cX8_value 4 = .ok (.ifCond .ne 9, 3) := by decide +kernel
theorem dX8_value_7 : decode cX8_value 7 = .ok (.aload_n 0, 1) := by decide +kernel
theorem dX8_value_8 : decode cX8_value 8 = .ok (.iconst (-1), 1) := by decide +kernel
theorem dX8_value_9 : decode cX8_value 9 = .ok (.invokevirtual 76, 3) := by decide +kernel
theorem dX8_value_12 : decode cX8_value 12 = .ok (.ireturn, 1) := by decide +kernel
theorem dX8_value_13 : decode cX8_value 13 = .ok (.aload_n 0, 1) := by decide +kernel
theorem dX8_value_14 : decode cX8_value 14 = .ok (.getfield 12, 3) := by decide +kernel
theorem dX8_value_17 : decode cX8_value 17 = .ok (.iload_n 1, 1) := by decide +kernel
theorem dX8_value_18 : decode cX8_value 18 = .ok (.invokevirtual 104, 3) := by decide +kernel
theorem dX8_value_21 : decode cX8_value 21 = .ok (.astore_n 3, 1) := by decide +kernel
theorem dX8_value_22 : decode cX8_value 22 = .ok (.aload_n 3, 1) := by decide +kernel
theorem dX8_value_23 : decode cX8_value 23 = .ok (.ifnonnull 10, 3) := by decide +kernel
theorem dX8_value_26 : decode cX8_value 26 = .ok (.aload_n 0, 1) := by decide +kernel
theorem dX8_value_27 : decode cX8_value 27 = .ok (.bipush (-2), 2) := by decide +kernel
theorem dX8_value_29 : decode cX8_value 29 = .ok (.invokevirtual 76, 3) := by decide +kernel
theorem dX8_value_32 : decode cX8_value 32 = .ok (.ireturn, 1) := by decide +kernel
theorem dX8_value_33 : decode cX8_value 33 = .ok (.aload_n 0, 1) := by decide +kernel
theorem dX8_value_34 : decode cX8_value 34 = .ok (.getfield 19, 3) := by decide +kernel
theorem dX8_value_37 : decode cX8_value 37 = .ok (.invokevirtual 87, 3) := by decide +kernel
theorem dX8_value_40 : decode cX8_value 40 = .ok (.ifCond .eq 10, 3) := by decide +kernel
theorem dX8_value_43 : decode cX8_value 43 = .ok (.aload_n 0, 1) := by decide +kernel
theorem dX8_value_44 : decode cX8_value 44 = .ok (.bipush (-5), 2) := by decide +kernel
theorem dX8_value_46 : decode cX8_value 46 = .ok (.invokevirtual 76, 3) := by decide +kernel
theorem dX8_value_49 : decode cX8_value 49 = .ok (.ireturn, 1) := by decide +kernel
theorem dX8_value_50 : decode cX8_value 50 = .ok (.aload_n 0, 1) := by decide +kernel
theorem dX8_value_51 : decode cX8_value 51 = .ok (.aload_n 3, 1) := by decide +kernel
theorem dX8_value_52 : decode cX8_value 52 = .ok (.iload_n 2, 1) := by decide +kernel
theorem dX8_value_53 : decode cX8_value 53 = .ok (.invokevirtual 108, 3) := by decide +kernel
theorem dX8_value_56 : decode cX8_value 56 = .ok (.invokevirtual 97, 3) := by decide +kernel
theorem dX8_value_59 : decode cX8_value 59 = .ok (.aload_n 0, 1) := by decide +kernel
theorem dX8_value_60 : decode cX8_value 60 = .ok (.aload_n 3, 1) := by decide +kernel
theorem dX8_value_61 : decode cX8_value 61 = .ok (.getfield 111, 3) := by decide +kernel
theorem dX8_value_64 : decode cX8_value 64 = .ok (.invokevirtual 101, 3) := by decide +kernel
theorem dX8_value_67 : decode cX8_value 67 = .ok (.ireturn, 1) := by decide +kernel
theorem dX8_refer_0 : decode cX8_refer 0 = .ok (.iload_n 2, 1) := by decide +kernel
theorem dX8_refer_1 : decode cX8_refer 1 = .ok (.ifCond .eq 14, 3) := by decide +kernel
theorem dX8_refer_4 : decode cX8_refer 4 = .ok (.iload_n 2, 1) := by decide +kernel
theorem dX8_refer_5 : decode cX8_refer 5 = .ok (.iconst 1, 1) := by decide +kernel
theorem dX8_refer_6 : decode cX8_refer 6 = .ok (.if_icmp .eq 9, 3) := by decide +kernel
theorem dX8_refer_9 : decode cX8_refer 9 = .ok (.aload_n 0, 1) := by decide +kernel
theorem dX8_refer_10 : decode cX8_refer 10 = .ok (.iconst (-1), 1) := by decide +kernel
theorem dX8_refer_11 : decode cX8_refer 11 = .ok (.invokevirtual 76, 3) := by decide +kernel
theorem dX8_refer_14 : decode cX8_refer 14 = .ok (.ireturn, 1) := by decide +kernel
theorem dX8_refer_15 : decode cX8_refer 15 = .ok (.aload_n 0, 1) := by decide +kernel
theorem dX8_refer_16 : decode cX8_refer 16 = .ok (.getfield 12, 3) := by decide +kernel
theorem dX8_refer_19 : decode cX8_refer 19 = .ok (.iload_n 1, 1) := by decide +kernel
theorem dX8_refer_20 : decode cX8_refer 20 = .ok (.invokevirtual 104, 3) := by decide +kernel
theorem dX8_refer_23 : decode cX8_refer 23 = .ok (.astore 4, 2) := by decide +kernel
theorem dX8_refer_25 : decode cX8_refer 25 = .ok (.aload 4, 2) := by decide +kernel
theorem dX8_refer_27 : decode cX8_refer 27 = .ok (.ifnull 11, 3) := by decide +kernel
theorem dX8_refer_30 : decode cX8_refer 30 = .ok (.aload_n 0, 1) := by decide +kernel
theorem dX8_refer_31 : decode cX8_refer 31 = .ok (.iload_n 3, 1) := by decide +kernel
theorem dX8_refer_32 : decode cX8_refer 32 = .ok (.invokevirtual 80, 3) := by decide +kernel
theorem dX8_refer_35 : decode cX8_refer 35 = .ok (.ifCond .ne 10, 3) := by decide +kernel
theorem dX8_refer_38 : decode cX8_refer 38 = .ok (.aload_n 0, 1) := by decide +kernel
theorem dX8_refer_39 : decode cX8_refer 39 = .ok (.bipush (-2), 2) := by decide +kernel
theorem dX8_refer_41 : decode cX8_refer 41 = .ok (.invokevirtual 76, 3) := by decide +kernel
theorem dX8_refer_44 : decode cX8_refer 44 = .ok (.ireturn, 1) := by decide +kernel
theorem dX8_refer_45 : decode cX8_refer 45 = .ok (.aload_n 0, 1) := by decide +kernel
theorem dX8_refer_46 : decode cX8_refer 46 = .ok (.getfield 19, 3) := by decide +kernel
theorem dX8_refer_49 : decode cX8_refer 49 = .ok (.invokevirtual 87, 3) := by decide +kernel
theorem dX8_refer_52 : decode cX8_refer 52 = .ok (.ifCond .eq 10, 3) := by decide +kernel
theorem dX8_refer_55 : decode cX8_refer 55 = .ok (.aload_n 0, 1) := by decide +kernel
theorem dX8_refer_56 : decode cX8_refer 56 = .ok (.bipush (-5), 2) := by decide +kernel
theorem dX8_refer_58 : decode cX8_refer 58 = .ok (.invokevirtual 76, 3) := by decide +kernel
theorem dX8_refer_61 : decode cX8_refer 61 = .ok (.ireturn, 1) := by decide +kernel
theorem dX8_refer_62 : decode cX8_refer 62 = .ok (.aload_n 0, 1) := by decide +kernel
theorem dX8_refer_63 : decode cX8_refer 63 = .ok (.aload 4, 2) := by decide +kernel
theorem dX8_refer_65 : decode cX8_refer 65 = .ok (.iload_n 2, 1) := by decide +kernel
theorem dX8_refer_66 : decode cX8_refer 66 = .ok (.iload_n 3, 1) := by decide +kernel
theorem dX8_refer_67 : decode cX8_refer 67 = .ok (.invokevirtual 114, 3) := by decide +kernel
theorem dX8_refer_70 : decode cX8_refer 70 = .ok (.invokevirtual 97, 3) := by decide +kernel
theorem dX8_refer_73 : decode cX8_refer 73 = .ok (.aload_n 0, 1) := by decide +kernel
theorem dX8_refer_74 : decode cX8_refer 74 = .ok (.iconst 0, 1) := by decide +kernel
theorem dX8_refer_75 : decode cX8_refer 75 = .ok (.invokevirtual 101, 3) := by decide +kernel
theorem dX8_refer_78 : decode cX8_refer 78 = .ok (.ireturn, 1) := by decide +kernel
theorem dX8_go_0 : decode cX8_go 0 = .ok (.aload_n 0, 1) := by decide +kernel
theorem dX8_go_1 : decode cX8_go 1 = .ok (.getfield 12, 3) := by decide +kernel
theorem dX8_go_4 : decode cX8_go 4 = .ok (.iload_n 1, 1) := by decide +kernel
theorem dX8_go_5 : decode cX8_go 5 = .ok (.invokevirtual 104, 3) := by decide +kernel
theorem dX8_go_8 : decode cX8_go 8 = .ok (.astore_n 2, 1) := by decide +kernel
theorem dX8_go_9 : decode cX8_go 9 = .ok (.aload_n 2, 1) := by decide +kernel
theorem dX8_go_10 : decode cX8_go 10 = .ok (.ifnonnull 10, 3) := by decide +kernel
theorem dX8_go_13 : decode cX8_go 13 = .ok (.aload_n 0, 1) := by decide +kernel
theorem dX8_go_14 : decode cX8_go 14 = .ok (.bipush (-2), 2) := by decide +kernel
theorem dX8_go_16 : decode cX8_go 16 = .ok (.invokevirtual 76, 3) := by decide +kernel
theorem dX8_go_19 : decode cX8_go 19 = .ok (.ireturn, 1) := by decide +kernel
theorem dX8_go_20 : decode cX8_go 20 = .ok (.aload_n 0, 1) := by decide +kernel
theorem dX8_go_21 : decode cX8_go 21 = .ok (.getfield 19, 3) := by decide +kernel
theorem dX8_go_24 : decode cX8_go 24 = .ok (.invokevirtual 87, 3) := by decide +kernel
theorem dX8_go_27 : decode cX8_go 27 = .ok (.ifCond .eq 10, 3) := by decide +kernel
theorem dX8_go_30 : decode cX8_go 30 = .ok (.aload_n 0, 1) := by decide +kernel
theorem dX8_go_31 : decode cX8_go 31 = .ok (.bipush (-5), 2) := by decide +kernel
theorem dX8_go_33 : decode cX8_go 33 = .ok (.invokevirtual 76, 3) := by decide +kernel
theorem dX8_go_36 : decode cX8_go 36 = .ok (.ireturn, 1) := by decide +kernel
theorem dX8_go_37 : decode cX8_go 37 = .ok (.aload_n 0, 1) := by decide +kernel
theorem dX8_go_38 : decode cX8_go 38 = .ok (.aload_n 2, 1) := by decide +kernel
theorem dX8_go_39 : decode cX8_go 39 = .ok (.invokevirtual 118, 3) := by decide +kernel
theorem dX8_go_42 : decode cX8_go 42 = .ok (.invokevirtual 97, 3) := by decide +kernel
theorem dX8_go_45 : decode cX8_go 45 = .ok (.aload_n 0, 1) := by decide +kernel
theorem dX8_go_46 : decode cX8_go 46 = .ok (.iconst 0, 1) := by decide +kernel
theorem dX8_go_47 : decode cX8_go 47 = .ok (.invokevirtual 101, 3) := by decide +kernel
theorem dX8_go_50 : decode cX8_go 50 = .ok (.ireturn, 1) := by decide +kernel
theorem dX8_of_0 : decode cX8_of 0 = .ok (.aload_n 0, 1) := by decide +kernel
theorem dX8_of_1 : decode cX8_of 1 = .ok (.getfield 12, 3) := by decide +kernel
theorem dX8_of_4 : decode cX8_of 4 = .ok (.iload_n 1, 1) := by decide +kernel
theorem dX8_of_5 : decode cX8_of 5 = .ok (.invokevirtual 122, 3) := by decide +kernel
theorem dX8_of_8 : decode cX8_of 8 = .ok (.astore_n 3, 1) := by decide +kernel
theorem dX8_of_9 : decode cX8_of 9 = .ok (.aload_n 3, 1) := by decide +kernel
theorem dX8_of_10 : decode cX8_of 10 = .ok (.ifnonnull 7, 3) := by decide +kernel
theorem dX8_of_13 : decode cX8_of 13 = .ok (.sipush (-5000), 3) := by decide +kernel
theorem dX8_of_16 : decode cX8_of 16 = .ok (.ireturn, 1) := by decide +kernel
theorem dX8_of_17 : decode cX8_of 17 = .ok (.iload_n 2, 1) := by decide +kernel
theorem dX8_of_18 : decode cX8_of 18 = .ok (.tableswitch 67 0 4 #[34, 39, 44, 49, 54], 34) := by decide +kernel
theorem dX8_of_52 : decode cX8_of 52 = .ok (.aload_n 3, 1) := by decide +kernel
theorem dX8_of_53 : decode cX8_of 53 = .ok (.getfield 125, 3) := by decide +kernel
theorem dX8_of_56 : decode cX8_of 56 = .ok (.ireturn, 1) := by decide +kernel
theorem dX8_of_57 : decode cX8_of 57 = .ok (.aload_n 3, 1) := by decide +kernel
theorem dX8_of_58 : decode cX8_of 58 = .ok (.getfield 111, 3) := by decide +kernel
theorem dX8_of_61 : decode cX8_of 61 = .ok (.ireturn, 1) := by decide +kernel
theorem dX8_of_62 : decode cX8_of 62 = .ok (.aload_n 3, 1) := by decide +kernel
theorem dX8_of_63 : decode cX8_of 63 = .ok (.getfield 128, 3) := by decide +kernel
theorem dX8_of_66 : decode cX8_of 66 = .ok (.ireturn, 1) := by decide +kernel
theorem dX8_of_67 : decode cX8_of 67 = .ok (.aload_n 3, 1) := by decide +kernel
theorem dX8_of_68 : decode cX8_of 68 = .ok (.getfield 131, 3) := by decide +kernel
theorem dX8_of_71 : decode cX8_of 71 = .ok (.ireturn, 1) := by decide +kernel
theorem dX8_of_72 : decode cX8_of 72 = .ok (.aload_n 3, 1) := by decide +kernel
theorem dX8_of_73 : decode cX8_of 73 = .ok (.getfield 134, 3) := by decide +kernel
theorem dX8_of_76 : decode cX8_of 76 = .ok (.ifCond .eq 7, 3) := by decide +kernel
theorem dX8_of_79 : decode cX8_of 79 = .ok (.iconst 1, 1) := by decide +kernel
theorem dX8_of_80 : decode cX8_of 80 = .ok (.goto 4, 3) := by decide +kernel
theorem dX8_of_83 : decode cX8_of 83 = .ok (.iconst 0, 1) := by decide +kernel
theorem dX8_of_84 : decode cX8_of 84 = .ok (.ireturn, 1) := by decide +kernel
theorem dX8_of_85 : decode cX8_of 85 = .ok (.sipush (-5000), 3) := by decide +kernel
theorem dX8_of_88 : decode cX8_of 88 = .ok (.ireturn, 1) := by decide +kernel
theorem dX8_feed_0 : decode cX8_feed 0 = .ok (.aload_n 0, 1) := by decide +kernel
theorem dX8_feed_1 : decode cX8_feed 1 = .ok (.getfield 26, 3) := by decide +kernel
theorem dX8_feed_4 : decode cX8_feed 4 = .ok (.invokevirtual 138, 3) := by decide +kernel
theorem dX8_feed_7 : decode cX8_feed 7 = .ok (.bipush 20, 2) := by decide +kernel
theorem dX8_feed_9 : decode cX8_feed 9 = .ok (.iadd, 1) := by decide +kernel
theorem dX8_feed_10 : decode cX8_feed 10 = .ok (.sipush 200, 3) := by decide +kernel
theorem dX8_feed_13 : decode cX8_feed 13 = .ok (.if_icmp .le 5, 3) := by decide +kernel
theorem dX8_feed_16 : decode cX8_feed 16 = .ok (.iconst (-1), 1) := by decide +kernel
theorem dX8_feed_17 : decode cX8_feed 17 = .ok (.ireturn, 1) := by decide +kernel
theorem dX8_feed_18 : decode cX8_feed 18 = .ok (.aload_n 0, 1) := by decide +kernel
theorem dX8_feed_19 : decode cX8_feed 19 = .ok (.getfield 26, 3) := by decide +kernel
theorem dX8_feed_22 : decode cX8_feed 22 = .ok (.iload_n 1, 1) := by decide +kernel
theorem dX8_feed_23 : decode cX8_feed 23 = .ok (.invokevirtual 141, 3) := by decide +kernel
theorem dX8_feed_26 : decode cX8_feed 26 = .ok (.aload_n 0, 1) := by decide +kernel
theorem dX8_feed_27 : decode cX8_feed 27 = .ok (.getfield 26, 3) := by decide +kernel
theorem dX8_feed_30 : decode cX8_feed 30 = .ok (.iload_n 2, 1) := by decide +kernel
theorem dX8_feed_31 : decode cX8_feed 31 = .ok (.invokevirtual 141, 3) := by decide +kernel
theorem dX8_feed_34 : decode cX8_feed 34 = .ok (.aload_n 0, 1) := by decide +kernel
theorem dX8_feed_35 : decode cX8_feed 35 = .ok (.getfield 26, 3) := by decide +kernel
theorem dX8_feed_38 : decode cX8_feed 38 = .ok (.iload_n 3, 1) := by decide +kernel
theorem dX8_feed_39 : decode cX8_feed 39 = .ok (.invokevirtual 141, 3) := by decide +kernel
theorem dX8_feed_42 : decode cX8_feed 42 = .ok (.aload_n 0, 1) := by decide +kernel
theorem dX8_feed_43 : decode cX8_feed 43 = .ok (.getfield 26, 3) := by decide +kernel
theorem dX8_feed_46 : decode cX8_feed 46 = .ok (.iload 4, 2) := by decide +kernel
theorem dX8_feed_48 : decode cX8_feed 48 = .ok (.invokevirtual 141, 3) := by decide +kernel
theorem dX8_feed_51 : decode cX8_feed 51 = .ok (.aload_n 0, 1) := by decide +kernel
theorem dX8_feed_52 : decode cX8_feed 52 = .ok (.getfield 26, 3) := by decide +kernel
theorem dX8_feed_55 : decode cX8_feed 55 = .ok (.iload 5, 2) := by decide +kernel
theorem dX8_feed_57 : decode cX8_feed 57 = .ok (.invokevirtual 141, 3) := by decide +kernel
theorem dX8_feed_60 : decode cX8_feed 60 = .ok (.aload_n 0, 1) := by decide +kernel
theorem dX8_feed_61 : decode cX8_feed 61 = .ok (.getfield 26, 3) := by decide +kernel
theorem dX8_feed_64 : decode cX8_feed 64 = .ok (.invokevirtual 138, 3) := by decide +kernel
theorem dX8_feed_67 : decode cX8_feed 67 = .ok (.ireturn, 1) := by decide +kernel
theorem dX8_end_0 : decode cX8_end 0 = .ok (.iload_n 1, 1) := by decide +kernel
theorem dX8_end_1 : decode cX8_end 1 = .ok (.ifCond .lt 14, 3) := by decide +kernel
theorem dX8_end_4 : decode cX8_end 4 = .ok (.iload_n 1, 1) := by decide +kernel
theorem dX8_end_5 : decode cX8_end 5 = .ok (.aload_n 0, 1) := by decide +kernel
theorem dX8_end_6 : decode cX8_end 6 = .ok (.getfield 26, 3) := by decide +kernel
theorem dX8_end_9 : decode cX8_end 9 = .ok (.invokevirtual 138, 3) := by decide +kernel
theorem dX8_end_12 : decode cX8_end 12 = .ok (.if_icmp .le 5, 3) := by decide +kernel
theorem dX8_end_15 : decode cX8_end 15 = .ok (.iconst (-1), 1) := by decide +kernel
theorem dX8_end_16 : decode cX8_end 16 = .ok (.ireturn, 1) := by decide +kernel
theorem dX8_end_17 : decode cX8_end 17 = .ok (.aload_n 0, 1) := by decide +kernel
theorem dX8_end_18 : decode cX8_end 18 = .ok (.getfield 26, 3) := by decide +kernel
theorem dX8_end_21 : decode cX8_end 21 = .ok (.iload_n 1, 1) := by decide +kernel
theorem dX8_end_22 : decode cX8_end 22 = .ok (.invokevirtual 145, 3) := by decide +kernel
theorem dX8_end_25 : decode cX8_end 25 = .ok (.iload_n 1, 1) := by decide +kernel
theorem dX8_end_26 : decode cX8_end 26 = .ok (.ireturn, 1) := by decide +kernel
theorem dX8_shape_0 : decode cX8_shape 0 = .ok (.aload_n 0, 1) := by decide +kernel
theorem dX8_shape_1 : decode cX8_shape 1 = .ok (.getfield 56, 3) := by decide +kernel
theorem dX8_shape_4 : decode cX8_shape 4 = .ok (.invokevirtual 148, 3) := by decide +kernel
theorem dX8_shape_7 : decode cX8_shape 7 = .ok (.new 151, 3) := by decide +kernel
theorem dX8_shape_10 : decode cX8_shape 10 = .ok (.dup, 1) := by decide +kernel
theorem dX8_shape_11 : decode cX8_shape 11 = .ok (.aload_n 0, 1) := by decide +kernel
theorem dX8_shape_12 : decode cX8_shape 12 = .ok (.getfield 26, 3) := by decide +kernel
theorem dX8_shape_15 : decode cX8_shape 15 = .ok (.aload_n 0, 1) := by decide +kernel
theorem dX8_shape_16 : decode cX8_shape 16 = .ok (.getfield 56, 3) := by decide +kernel
theorem dX8_shape_19 : decode cX8_shape 19 = .ok (.invokespecial 153, 3) := by decide +kernel
theorem dX8_shape_22 : decode cX8_shape 22 = .ok (.astore_n 1, 1) := by decide +kernel
theorem dX8_shape_23 : decode cX8_shape 23 = .ok (.aload_n 1, 1) := by decide +kernel
theorem dX8_shape_24 : decode cX8_shape 24 = .ok (.invokevirtual 156, 3) := by decide +kernel
theorem dX8_shape_27 : decode cX8_shape 27 = .ok (.istore_n 2, 1) := by decide +kernel
theorem dX8_shape_28 : decode cX8_shape 28 = .ok (.aload_n 0, 1) := by decide +kernel
theorem dX8_shape_29 : decode cX8_shape 29 = .ok (.iload_n 2, 1) := by decide +kernel
theorem dX8_shape_30 : decode cX8_shape 30 = .ok (.ifCond .eq 7, 3) := by decide +kernel
theorem dX8_shape_33 : decode cX8_shape 33 = .ok (.iconst (-1), 1) := by decide +kernel
theorem dX8_shape_34 : decode cX8_shape 34 = .ok (.goto 7, 3) := by decide +kernel
theorem dX8_shape_37 : decode cX8_shape 37 = .ok (.aload_n 1, 1) := by decide +kernel
theorem dX8_shape_38 : decode cX8_shape 38 = .ok (.invokevirtual 159, 3) := by decide +kernel
theorem dX8_shape_41 : decode cX8_shape 41 = .ok (.putfield 50, 3) := by decide +kernel
theorem dX8_shape_44 : decode cX8_shape 44 = .ok (.aload_n 0, 1) := by decide +kernel
theorem dX8_shape_45 : decode cX8_shape 45 = .ok (.getfield 26, 3) := by decide +kernel
theorem dX8_shape_48 : decode cX8_shape 48 = .ok (.iconst 0, 1) := by decide +kernel
theorem dX8_shape_49 : decode cX8_shape 49 = .ok (.invokevirtual 145, 3) := by decide +kernel
theorem dX8_shape_52 : decode cX8_shape 52 = .ok (.iload_n 2, 1) := by decide +kernel
theorem dX8_shape_53 : decode cX8_shape 53 = .ok (.ifCond .ne 10, 3) := by decide +kernel
theorem dX8_shape_56 : decode cX8_shape 56 = .ok (.aload_n 0, 1) := by decide +kernel
theorem dX8_shape_57 : decode cX8_shape 57 = .ok (.bipush (-6), 2) := by decide +kernel
theorem dX8_shape_59 : decode cX8_shape 59 = .ok (.invokevirtual 76, 3) := by decide +kernel
theorem dX8_shape_62 : decode cX8_shape 62 = .ok (.ireturn, 1) := by decide +kernel
theorem dX8_shape_63 : decode cX8_shape 63 = .ok (.aload_n 0, 1) := by decide +kernel
theorem dX8_shape_64 : decode cX8_shape 64 = .ok (.getfield 39, 3) := by decide +kernel
theorem dX8_shape_67 : decode cX8_shape 67 = .ok (.astore_n 3, 1) := by decide +kernel
theorem dX8_shape_68 : decode cX8_shape 68 = .ok (.aload_n 0, 1) := by decide +kernel
theorem dX8_shape_69 : decode cX8_shape 69 = .ok (.aload_n 0, 1) := by decide +kernel
theorem dX8_shape_70 : decode cX8_shape 70 = .ok (.getfield 56, 3) := by decide +kernel
theorem dX8_shape_73 : decode cX8_shape 73 = .ok (.putfield 39, 3) := by decide +kernel
theorem dX8_shape_76 : decode cX8_shape 76 = .ok (.aload_n 0, 1) := by decide +kernel
theorem dX8_shape_77 : decode cX8_shape 77 = .ok (.aload_n 3, 1) := by decide +kernel
theorem dX8_shape_78 : decode cX8_shape 78 = .ok (.putfield 56, 3) := by decide +kernel
theorem dX8_shape_81 : decode cX8_shape 81 = .ok (.aload_n 0, 1) := by decide +kernel
theorem dX8_shape_82 : decode cX8_shape 82 = .ok (.aload_n 0, 1) := by decide +kernel
theorem dX8_shape_83 : decode cX8_shape 83 = .ok (.getfield 39, 3) := by decide +kernel
theorem dX8_shape_86 : decode cX8_shape 86 = .ok (.invokevirtual 162, 3) := by decide +kernel
theorem dX8_shape_89 : decode cX8_shape 89 = .ok (.invokevirtual 101, 3) := by decide +kernel
theorem dX8_shape_92 : decode cX8_shape 92 = .ok (.ireturn, 1) := by decide +kernel
theorem dX8_fault_0 : decode cX8_fault 0 = .ok (.aload_n 0, 1) := by decide +kernel
theorem dX8_fault_1 : decode cX8_fault 1 = .ok (.getfield 50, 3) := by decide +kernel
theorem dX8_fault_4 : decode cX8_fault 4 = .ok (.ireturn, 1) := by decide +kernel
theorem dX8_size_0 : decode cX8_size 0 = .ok (.aload_n 0, 1) := by decide +kernel
theorem dX8_size_1 : decode cX8_size 1 = .ok (.getfield 65, 3) := by decide +kernel
theorem dX8_size_4 : decode cX8_size 4 = .ok (.aload_n 0, 1) := by decide +kernel
theorem dX8_size_5 : decode cX8_size 5 = .ok (.getfield 39, 3) := by decide +kernel
theorem dX8_size_8 : decode cX8_size 8 = .ok (.aload_n 0, 1) := by decide +kernel
theorem dX8_size_9 : decode cX8_size 9 = .ok (.getfield 12, 3) := by decide +kernel
theorem dX8_size_12 : decode cX8_size 12 = .ok (.iload_n 1, 1) := by decide +kernel
theorem dX8_size_13 : decode cX8_size 13 = .ok (.invokevirtual 165, 3) := by decide +kernel
theorem dX8_size_16 : decode cX8_size 16 = .ok (.aload_n 0, 1) := by decide +kernel
theorem dX8_size_17 : decode cX8_size 17 = .ok (.getfield 65, 3) := by decide +kernel
theorem dX8_size_20 : decode cX8_size 20 = .ok (.invokevirtual 169, 3) := by decide +kernel
theorem dX8_size_23 : decode cX8_size 23 = .ok (.ireturn, 1) := by decide +kernel
theorem dX8_mark_0 : decode cX8_mark 0 = .ok (.aload_n 0, 1) := by decide +kernel
theorem dX8_mark_1 : decode cX8_mark 1 = .ok (.getfield 65, 3) := by decide +kernel
theorem dX8_mark_4 : decode cX8_mark 4 = .ok (.aload_n 0, 1) := by decide +kernel
theorem dX8_mark_5 : decode cX8_mark 5 = .ok (.getfield 39, 3) := by decide +kernel
theorem dX8_mark_8 : decode cX8_mark 8 = .ok (.aload_n 0, 1) := by decide +kernel
theorem dX8_mark_9 : decode cX8_mark 9 = .ok (.getfield 12, 3) := by decide +kernel
theorem dX8_mark_12 : decode cX8_mark 12 = .ok (.iload_n 1, 1) := by decide +kernel
theorem dX8_mark_13 : decode cX8_mark 13 = .ok (.invokevirtual 165, 3) := by decide +kernel
theorem dX8_mark_16 : decode cX8_mark 16 = .ok (.aload_n 0, 1) := by decide +kernel
theorem dX8_mark_17 : decode cX8_mark 17 = .ok (.getfield 65, 3) := by decide +kernel
theorem dX8_mark_20 : decode cX8_mark 20 = .ok (.iload_n 2, 1) := by decide +kernel
theorem dX8_mark_21 : decode cX8_mark 21 = .ok (.invokevirtual 170, 3) := by decide +kernel
theorem dX8_mark_24 : decode cX8_mark 24 = .ok (.ireturn, 1) := by decide +kernel
theorem dX8_page_0 : decode cX8_page 0 = .ok (.iload 4, 2) := by decide +kernel
theorem dX8_page_2 : decode cX8_page 2 = .ok (.iconst (-1), 1) := by decide +kernel
theorem dX8_page_3 : decode cX8_page 3 = .ok (.if_icmp .ne 7, 3) := by decide +kernel
theorem dX8_page_6 : decode cX8_page 6 = .ok (.iconst 1, 1) := by decide +kernel
theorem dX8_page_7 : decode cX8_page 7 = .ok (.goto 4, 3) := by decide +kernel
theorem dX8_page_10 : decode cX8_page 10 = .ok (.iconst 0, 1) := by decide +kernel
theorem dX8_page_11 : decode cX8_page 11 = .ok (.istore 5, 2) := by decide +kernel
theorem dX8_page_13 : decode cX8_page 13 = .ok (.iload_n 2, 1) := by decide +kernel
theorem dX8_page_14 : decode cX8_page 14 = .ok (.iconst 1, 1) := by decide +kernel
theorem dX8_page_15 : decode cX8_page 15 = .ok (.if_icmp .lt 13, 3) := by decide +kernel
theorem dX8_page_18 : decode cX8_page 18 = .ok (.iload_n 2, 1) := by decide +kernel
theorem dX8_page_19 : decode cX8_page 19 = .ok (.bipush 100, 2) := by decide +kernel
theorem dX8_page_21 : decode cX8_page 21 = .ok (.if_icmp .gt 7, 3) := by decide +kernel
theorem dX8_page_24 : decode cX8_page 24 = .ok (.iload_n 3, 1) := by decide +kernel
theorem dX8_page_25 : decode cX8_page 25 = .ok (.ifCond .ge 16, 3) := by decide +kernel
theorem dX8_page_28 : decode cX8_page 28 = .ok (.iload 5, 2) := by decide +kernel
theorem dX8_page_30 : decode cX8_page 30 = .ok (.ifCond .eq 7, 3) := by decide +kernel
theorem dX8_page_33 : decode cX8_page 33 = .ok (.iconst 0, 1) := by decide +kernel
theorem dX8_page_34 : decode cX8_page 34 = .ok (.goto 6, 3) := by decide +kernel
theorem dX8_page_37 : decode cX8_page 37 = .ok (.sipush (-5000), 3) := by decide +kernel
theorem dX8_page_40 : decode cX8_page 40 = .ok (.ireturn, 1) := by decide +kernel
theorem dX8_page_41 : decode cX8_page 41 = .ok (.aload_n 0, 1) := by decide +kernel
theorem dX8_page_42 : decode cX8_page 42 = .ok (.getfield 65, 3) := by decide +kernel
theorem dX8_page_45 : decode cX8_page 45 = .ok (.aload_n 0, 1) := by decide +kernel
theorem dX8_page_46 : decode cX8_page 46 = .ok (.getfield 39, 3) := by decide +kernel
theorem dX8_page_49 : decode cX8_page 49 = .ok (.aload_n 0, 1) := by decide +kernel
theorem dX8_page_50 : decode cX8_page 50 = .ok (.getfield 12, 3) := by decide +kernel
theorem dX8_page_53 : decode cX8_page 53 = .ok (.iload_n 1, 1) := by decide +kernel
theorem dX8_page_54 : decode cX8_page 54 = .ok (.invokevirtual 165, 3) := by decide +kernel
theorem dX8_page_57 : decode cX8_page 57 = .ok (.iload_n 3, 1) := by decide +kernel
theorem dX8_page_58 : decode cX8_page 58 = .ok (.i2l, 1) := by decide +kernel
theorem dX8_page_59 : decode cX8_page 59 = .ok (.iload_n 2, 1) := by decide +kernel
theorem dX8_page_60 : decode cX8_page 60 = .ok (.i2l, 1) := by decide +kernel
theorem dX8_page_61 : decode cX8_page 61 = .ok (.lmul, 1) := by decide +kernel
theorem dX8_page_62 : decode cX8_page 62 = .ok (.lstore 6, 2) := by decide +kernel
theorem dX8_page_64 : decode cX8_page 64 = .ok (.lconst 0, 1) := by decide +kernel
theorem dX8_page_65 : decode cX8_page 65 = .ok (.iload_n 2, 1) := by decide +kernel
theorem dX8_page_66 : decode cX8_page 66 = .ok (.i2l, 1) := by decide +kernel
theorem dX8_page_67 : decode cX8_page 67 = .ok (.aload_n 0, 1) := by decide +kernel
theorem dX8_page_68 : decode cX8_page 68 = .ok (.getfield 65, 3) := by decide +kernel
theorem dX8_page_71 : decode cX8_page 71 = .ok (.invokevirtual 169, 3) := by decide +kernel
theorem dX8_page_74 : decode cX8_page 74 = .ok (.i2l, 1) := by decide +kernel
theorem dX8_page_75 : decode cX8_page 75 = .ok (.lload 6, 2) := by decide +kernel
theorem dX8_page_77 : decode cX8_page 77 = .ok (.lsub, 1) := by decide +kernel
theorem dX8_page_78 : decode cX8_page 78 = .ok (.invokestatic 172, 3) := by decide +kernel
theorem dX8_page_81 : decode cX8_page 81 = .ok (.invokestatic 178, 3) := by decide +kernel
theorem dX8_page_84 : decode cX8_page 84 = .ok (.lstore 8, 2) := by decide +kernel
theorem dX8_page_86 : decode cX8_page 86 = .ok (.iload 5, 2) := by decide +kernel
theorem dX8_page_88 : decode cX8_page 88 = .ok (.ifCond .eq 7, 3) := by decide +kernel
theorem dX8_page_91 : decode cX8_page 91 = .ok (.lload 8, 2) := by decide +kernel
theorem dX8_page_93 : decode cX8_page 93 = .ok (.l2i, 1) := by decide +kernel
theorem dX8_page_94 : decode cX8_page 94 = .ok (.ireturn, 1) := by decide +kernel
theorem dX8_page_95 : decode cX8_page 95 = .ok (.iload 4, 2) := by decide +kernel
theorem dX8_page_97 : decode cX8_page 97 = .ok (.ifCond .lt 28, 3) := by decide +kernel
theorem dX8_page_100 : decode cX8_page 100 = .ok (.iload 4, 2) := by decide +kernel
theorem dX8_page_102 : decode cX8_page 102 = .ok (.i2l, 1) := by decide +kernel
theorem dX8_page_103 : decode cX8_page 103 = .ok (.lload 8, 2) := by decide +kernel
theorem dX8_page_105 : decode cX8_page 105 = .ok (.lcmp, 1) := by decide +kernel
theorem dX8_page_106 : decode cX8_page 106 = .ok (.ifCond .ge 19, 3) := by decide +kernel
theorem dX8_page_109 : decode cX8_page 109 = .ok (.aload_n 0, 1) := by decide +kernel
theorem dX8_page_110 : decode cX8_page 110 = .ok (.getfield 65, 3) := by decide +kernel
theorem dX8_page_113 : decode cX8_page 113 = .ok (.lload 6, 2) := by decide +kernel
theorem dX8_page_115 : decode cX8_page 115 = .ok (.l2i, 1) := by decide +kernel
theorem dX8_page_116 : decode cX8_page 116 = .ok (.iload 4, 2) := by decide +kernel
theorem dX8_page_118 : decode cX8_page 118 = .ok (.iadd, 1) := by decide +kernel
theorem dX8_page_119 : decode cX8_page 119 = .ok (.invokevirtual 170, 3) := by decide +kernel
theorem dX8_page_122 : decode cX8_page 122 = .ok (.goto 6, 3) := by decide +kernel
theorem dX8_page_125 : decode cX8_page 125 = .ok (.sipush (-5000), 3) := by decide +kernel
theorem dX8_page_128 : decode cX8_page 128 = .ok (.ireturn, 1) := by decide +kernel
theorem dX8_reader_0 : decode cX8_reader 0 = .ok (.aload_n 0, 1) := by decide +kernel
theorem dX8_reader_1 : decode cX8_reader 1 = .ok (.getfield 12, 3) := by decide +kernel
theorem dX8_reader_4 : decode cX8_reader 4 = .ok (.iload_n 1, 1) := by decide +kernel
theorem dX8_reader_5 : decode cX8_reader 5 = .ok (.invokevirtual 104, 3) := by decide +kernel
theorem dX8_reader_8 : decode cX8_reader 8 = .ok (.ifnonnull 10, 3) := by decide +kernel
theorem dX8_reader_11 : decode cX8_reader 11 = .ok (.aload_n 0, 1) := by decide +kernel
theorem dX8_reader_12 : decode cX8_reader 12 = .ok (.bipush (-2), 2) := by decide +kernel
theorem dX8_reader_14 : decode cX8_reader 14 = .ok (.invokevirtual 76, 3) := by decide +kernel
theorem dX8_reader_17 : decode cX8_reader 17 = .ok (.ireturn, 1) := by decide +kernel
theorem dX8_reader_18 : decode cX8_reader 18 = .ok (.aload_n 0, 1) := by decide +kernel
theorem dX8_reader_19 : decode cX8_reader 19 = .ok (.getfield 43, 3) := by decide +kernel
theorem dX8_reader_22 : decode cX8_reader 22 = .ok (.ifCond .lt 15, 3) := by decide +kernel
theorem dX8_reader_25 : decode cX8_reader 25 = .ok (.aload_n 0, 1) := by decide +kernel
theorem dX8_reader_26 : decode cX8_reader 26 = .ok (.getfield 43, 3) := by decide +kernel
theorem dX8_reader_29 : decode cX8_reader 29 = .ok (.aload_n 0, 1) := by decide +kernel
theorem dX8_reader_30 : decode cX8_reader 30 = .ok (.getfield 32, 3) := by decide +kernel
theorem dX8_reader_33 : decode cX8_reader 33 = .ok (.arraylength, 1) := by decide +kernel
theorem dX8_reader_34 : decode cX8_reader 34 = .ok (.if_icmp .lt 10, 3) := by decide +kernel
theorem dX8_reader_37 : decode cX8_reader 37 = .ok (.aload_n 0, 1) := by decide +kernel
theorem dX8_reader_38 : decode cX8_reader 38 = .ok (.bipush (-5), 2) := by decide +kernel
theorem dX8_reader_40 : decode cX8_reader 40 = .ok (.invokevirtual 76, 3) := by decide +kernel
theorem dX8_reader_43 : decode cX8_reader 43 = .ok (.ireturn, 1) := by decide +kernel
theorem dX8_reader_44 : decode cX8_reader 44 = .ok (.aload_n 0, 1) := by decide +kernel
theorem dX8_reader_45 : decode cX8_reader 45 = .ok (.getfield 43, 3) := by decide +kernel
theorem dX8_reader_48 : decode cX8_reader 48 = .ok (.istore_n 2, 1) := by decide +kernel
theorem dX8_reader_49 : decode cX8_reader 49 = .ok (.aload_n 0, 1) := by decide +kernel
theorem dX8_reader_50 : decode cX8_reader 50 = .ok (.getfield 32, 3) := by decide +kernel
theorem dX8_reader_53 : decode cX8_reader 53 = .ok (.iload_n 2, 1) := by decide +kernel
theorem dX8_reader_54 : decode cX8_reader 54 = .ok (.new 30, 3) := by decide +kernel
theorem dX8_reader_57 : decode cX8_reader 57 = .ok (.dup, 1) := by decide +kernel
theorem dX8_reader_58 : decode cX8_reader 58 = .ok (.iload_n 1, 1) := by decide +kernel
theorem dX8_reader_59 : decode cX8_reader 59 = .ok (.invokespecial 181, 3) := by decide +kernel
theorem dX8_reader_62 : decode cX8_reader 62 = .ok (.aastore, 1) := by decide +kernel
theorem dX8_reader_63 : decode cX8_reader 63 = .ok (.aload_n 0, 1) := by decide +kernel
theorem dX8_reader_64 : decode cX8_reader 64 = .ok (.iload_n 2, 1) := by decide +kernel
theorem dX8_reader_65 : decode cX8_reader 65 = .ok (.iconst 1, 1) := by decide +kernel
theorem dX8_reader_66 : decode cX8_reader 66 = .ok (.iadd, 1) := by decide +kernel
theorem dX8_reader_67 : decode cX8_reader 67 = .ok (.putfield 43, 3) := by decide +kernel
theorem dX8_reader_70 : decode cX8_reader 70 = .ok (.aload_n 0, 1) := by decide +kernel
theorem dX8_reader_71 : decode cX8_reader 71 = .ok (.iload_n 2, 1) := by decide +kernel
theorem dX8_reader_72 : decode cX8_reader 72 = .ok (.invokevirtual 101, 3) := by decide +kernel
theorem dX8_reader_75 : decode cX8_reader 75 = .ok (.ireturn, 1) := by decide +kernel
theorem dX8_send_0 : decode cX8_send 0 = .ok (.iconst 0, 1) := by decide +kernel
theorem dX8_send_1 : decode cX8_send 1 = .ok (.istore_n 1, 1) := by decide +kernel
theorem dX8_send_2 : decode cX8_send 2 = .ok (.iconst 0, 1) := by decide +kernel
theorem dX8_send_3 : decode cX8_send 3 = .ok (.istore_n 2, 1) := by decide +kernel
theorem dX8_send_4 : decode cX8_send 4 = .ok (.iload_n 2, 1) := by decide +kernel
theorem dX8_send_5 : decode cX8_send 5 = .ok (.aload_n 0, 1) := by decide +kernel
theorem dX8_send_6 : decode cX8_send 6 = .ok (.getfield 32, 3) := by decide +kernel
theorem dX8_send_9 : decode cX8_send 9 = .ok (.arraylength, 1) := by decide +kernel
theorem dX8_send_10 : decode cX8_send 10 = .ok (.if_icmp .ge 83, 3) := by decide +kernel
theorem dX8_send_13 : decode cX8_send 13 = .ok (.aload_n 0, 1) := by decide +kernel
theorem dX8_send_14 : decode cX8_send 14 = .ok (.getfield 32, 3) := by decide +kernel
theorem dX8_send_17 : decode cX8_send 17 = .ok (.iload_n 2, 1) := by decide +kernel
theorem dX8_send_18 : decode cX8_send 18 = .ok (.aaload, 1) := by decide +kernel
theorem dX8_send_19 : decode cX8_send 19 = .ok (.astore_n 3, 1) := by decide +kernel
theorem dX8_send_20 : decode cX8_send 20 = .ok (.aload_n 3, 1) := by decide +kernel
theorem dX8_send_21 : decode cX8_send 21 = .ok (.ifnonnull 6, 3) := by decide +kernel
theorem dX8_send_24 : decode cX8_send 24 = .ok (.goto 63, 3) := by decide +kernel
theorem dX8_send_27 : decode cX8_send 27 = .ok (.aload_n 0, 1) := by decide +kernel
theorem dX8_send_28 : decode cX8_send 28 = .ok (.getfield 65, 3) := by decide +kernel
theorem dX8_send_31 : decode cX8_send 31 = .ok (.aload_n 0, 1) := by decide +kernel
theorem dX8_send_32 : decode cX8_send 32 = .ok (.getfield 39, 3) := by decide +kernel
theorem dX8_send_35 : decode cX8_send 35 = .ok (.aload_n 0, 1) := by decide +kernel
theorem dX8_send_36 : decode cX8_send 36 = .ok (.getfield 12, 3) := by decide +kernel
theorem dX8_send_39 : decode cX8_send 39 = .ok (.aload_n 3, 1) := by decide +kernel
theorem dX8_send_40 : decode cX8_send 40 = .ok (.getfield 183, 3) := by decide +kernel
theorem dX8_send_43 : decode cX8_send 43 = .ok (.invokevirtual 165, 3) := by decide +kernel
theorem dX8_send_46 : decode cX8_send 46 = .ok (.aload_n 0, 1) := by decide +kernel
theorem dX8_send_47 : decode cX8_send 47 = .ok (.getfield 65, 3) := by decide +kernel
theorem dX8_send_50 : decode cX8_send 50 = .ok (.aload_n 3, 1) := by decide +kernel
theorem dX8_send_51 : decode cX8_send 51 = .ok (.getfield 186, 3) := by decide +kernel
theorem dX8_send_54 : decode cX8_send 54 = .ok (.invokevirtual 189, 3) := by decide +kernel
theorem dX8_send_57 : decode cX8_send 57 = .ok (.ifCond .ne 30, 3) := by decide +kernel
theorem dX8_send_60 : decode cX8_send 60 = .ok (.aload_n 3, 1) := by decide +kernel
theorem dX8_send_61 : decode cX8_send 61 = .ok (.getfield 186, 3) := by decide +kernel
theorem dX8_send_64 : decode cX8_send 64 = .ok (.aload_n 0, 1) := by decide +kernel
theorem dX8_send_65 : decode cX8_send 65 = .ok (.getfield 65, 3) := by decide +kernel
theorem dX8_send_68 : decode cX8_send 68 = .ok (.invokevirtual 193, 3) := by decide +kernel
theorem dX8_send_71 : decode cX8_send 71 = .ok (.iload_n 1, 1) := by decide +kernel
theorem dX8_send_72 : decode cX8_send 72 = .ok (.iconst 1, 1) := by decide +kernel
theorem dX8_send_73 : decode cX8_send 73 = .ok (.iload_n 2, 1) := by decide +kernel
theorem dX8_send_74 : decode cX8_send 74 = .ok (.ishl, 1) := by decide +kernel
theorem dX8_send_75 : decode cX8_send 75 = .ok (.ior, 1) := by decide +kernel
theorem dX8_send_76 : decode cX8_send 76 = .ok (.istore_n 1, 1) := by decide +kernel
theorem dX8_send_77 : decode cX8_send 77 = .ok (.aload_n 0, 1) := by decide +kernel
theorem dX8_send_78 : decode cX8_send 78 = .ok (.dup, 1) := by decide +kernel
theorem dX8_send_79 : decode cX8_send 79 = .ok (.getfield 47, 3) := by decide +kernel
theorem dX8_send_82 : decode cX8_send 82 = .ok (.iconst 1, 1) := by decide +kernel
theorem dX8_send_83 : decode cX8_send 83 = .ok (.iadd, 1) := by decide +kernel
theorem dX8_send_84 : decode cX8_send 84 = .ok (.putfield 47, 3) := by decide +kernel
theorem dX8_send_87 : decode cX8_send 87 = .ok (.iinc 2 1, 3) := by decide +kernel
theorem dX8_send_90 : decode cX8_send 90 = .ok (.goto (-86), 3) := by decide +kernel
theorem dX8_send_93 : decode cX8_send 93 = .ok (.iload_n 1, 1) := by decide +kernel
theorem dX8_send_94 : decode cX8_send 94 = .ok (.ireturn, 1) := by decide +kernel
theorem dX8_holds_0 : decode cX8_holds 0 = .ok (.aload_n 0, 1) := by decide +kernel
theorem dX8_holds_1 : decode cX8_holds 1 = .ok (.iload_n 1, 1) := by decide +kernel
theorem dX8_holds_2 : decode cX8_holds 2 = .ok (.invokevirtual 197, 3) := by decide +kernel
theorem dX8_holds_5 : decode cX8_holds 5 = .ok (.astore_n 3, 1) := by decide +kernel
theorem dX8_holds_6 : decode cX8_holds 6 = .ok (.aload_n 3, 1) := by decide +kernel
theorem dX8_holds_7 : decode cX8_holds 7 = .ok (.ifnonnull 7, 3) := by decide +kernel
theorem dX8_holds_10 : decode cX8_holds 10 = .ok (.sipush (-5000), 3) := by decide +kernel
theorem dX8_holds_13 : decode cX8_holds 13 = .ok (.ireturn, 1) := by decide +kernel
theorem dX8_holds_14 : decode cX8_holds 14 = .ok (.iload_n 2, 1) := by decide +kernel
theorem dX8_holds_15 : decode cX8_holds 15 = .ok (.iconst (-1), 1) := by decide +kernel
theorem dX8_holds_16 : decode cX8_holds 16 = .ok (.if_icmp .ne 13, 3) := by decide +kernel
theorem dX8_holds_19 : decode cX8_holds 19 = .ok (.aload_n 3, 1) := by decide +kernel
theorem dX8_holds_20 : decode cX8_holds 20 = .ok (.getfield 186, 3) := by decide +kernel
theorem dX8_holds_23 : decode cX8_holds 23 = .ok (.invokevirtual 169, 3) := by decide +kernel
theorem dX8_holds_26 : decode cX8_holds 26 = .ok (.goto 11, 3) := by decide +kernel
theorem dX8_holds_29 : decode cX8_holds 29 = .ok (.aload_n 3, 1) := by decide +kernel
theorem dX8_holds_30 : decode cX8_holds 30 = .ok (.getfield 186, 3) := by decide +kernel
theorem dX8_holds_33 : decode cX8_holds 33 = .ok (.iload_n 2, 1) := by decide +kernel
theorem dX8_holds_34 : decode cX8_holds 34 = .ok (.invokevirtual 170, 3) := by decide +kernel
theorem dX8_holds_37 : decode cX8_holds 37 = .ok (.ireturn, 1) := by decide +kernel
theorem dX8_same_0 : decode cX8_same 0 = .ok (.aload_n 0, 1) := by decide +kernel
theorem dX8_same_1 : decode cX8_same 1 = .ok (.iload_n 1, 1) := by decide +kernel
theorem dX8_same_2 : decode cX8_same 2 = .ok (.invokevirtual 197, 3) := by decide +kernel
theorem dX8_same_5 : decode cX8_same 5 = .ok (.astore_n 2, 1) := by decide +kernel
theorem dX8_same_6 : decode cX8_same 6 = .ok (.aload_n 2, 1) := by decide +kernel
theorem dX8_same_7 : decode cX8_same 7 = .ok (.ifnonnull 5, 3) := by decide +kernel
theorem dX8_same_10 : decode cX8_same 10 = .ok (.iconst (-1), 1) := by decide +kernel
theorem dX8_same_11 : decode cX8_same 11 = .ok (.ireturn, 1) := by decide +kernel
theorem dX8_same_12 : decode cX8_same 12 = .ok (.aload_n 0, 1) := by decide +kernel
theorem dX8_same_13 : decode cX8_same 13 = .ok (.getfield 65, 3) := by decide +kernel
theorem dX8_same_16 : decode cX8_same 16 = .ok (.aload_n 0, 1) := by decide +kernel
theorem dX8_same_17 : decode cX8_same 17 = .ok (.getfield 39, 3) := by decide +kernel
theorem dX8_same_20 : decode cX8_same 20 = .ok (.aload_n 0, 1) := by decide +kernel
theorem dX8_same_21 : decode cX8_same 21 = .ok (.getfield 12, 3) := by decide +kernel
theorem dX8_same_24 : decode cX8_same 24 = .ok (.aload_n 2, 1) := by decide +kernel
theorem dX8_same_25 : decode cX8_same 25 = .ok (.getfield 183, 3) := by decide +kernel
theorem dX8_same_28 : decode cX8_same 28 = .ok (.invokevirtual 165, 3) := by decide +kernel
theorem dX8_same_31 : decode cX8_same 31 = .ok (.aload_n 0, 1) := by decide +kernel
theorem dX8_same_32 : decode cX8_same 32 = .ok (.getfield 65, 3) := by decide +kernel
theorem dX8_same_35 : decode cX8_same 35 = .ok (.aload_n 2, 1) := by decide +kernel
theorem dX8_same_36 : decode cX8_same 36 = .ok (.getfield 186, 3) := by decide +kernel
theorem dX8_same_39 : decode cX8_same 39 = .ok (.invokevirtual 189, 3) := by decide +kernel
theorem dX8_same_42 : decode cX8_same 42 = .ok (.ifCond .eq 7, 3) := by decide +kernel
theorem dX8_same_45 : decode cX8_same 45 = .ok (.iconst 1, 1) := by decide +kernel
theorem dX8_same_46 : decode cX8_same 46 = .ok (.goto 4, 3) := by decide +kernel
theorem dX8_same_49 : decode cX8_same 49 = .ok (.iconst 0, 1) := by decide +kernel
theorem dX8_same_50 : decode cX8_same 50 = .ok (.ireturn, 1) := by decide +kernel
theorem dX8_edit_0 : decode cX8_edit 0 = .ok (.iload_n 3, 1) := by decide +kernel
theorem dX8_edit_1 : decode cX8_edit 1 = .ok (.invokestatic 72, 3) := by decide +kernel
theorem dX8_edit_4 : decode cX8_edit 4 = .ok (.ifCond .ne 9, 3) := by decide +kernel
theorem dX8_edit_7 : decode cX8_edit 7 = .ok (.aload_n 0, 1) := by decide +kernel
theorem dX8_edit_8 : decode cX8_edit 8 = .ok (.iconst (-1), 1) := by decide +kernel
theorem dX8_edit_9 : decode cX8_edit 9 = .ok (.invokevirtual 76, 3) := by decide +kernel
theorem dX8_edit_12 : decode cX8_edit 12 = .ok (.ireturn, 1) := by decide +kernel
theorem dX8_edit_13 : decode cX8_edit 13 = .ok (.aload_n 0, 1) := by decide +kernel
theorem dX8_edit_14 : decode cX8_edit 14 = .ok (.iload_n 1, 1) := by decide +kernel
theorem dX8_edit_15 : decode cX8_edit 15 = .ok (.invokevirtual 197, 3) := by decide +kernel
theorem dX8_edit_18 : decode cX8_edit 18 = .ok (.astore 4, 2) := by decide +kernel
theorem dX8_edit_20 : decode cX8_edit 20 = .ok (.aload 4, 2) := by decide +kernel
theorem dX8_edit_22 : decode cX8_edit 22 = .ok (.ifnonnull 10, 3) := by decide +kernel
theorem dX8_edit_25 : decode cX8_edit 25 = .ok (.aload_n 0, 1) := by decide +kernel
theorem dX8_edit_26 : decode cX8_edit 26 = .ok (.bipush (-2), 2) := by decide +kernel
theorem dX8_edit_28 : decode cX8_edit 28 = .ok (.invokevirtual 76, 3) := by decide +kernel
theorem dX8_edit_31 : decode cX8_edit 31 = .ok (.ireturn, 1) := by decide +kernel
theorem dX8_edit_32 : decode cX8_edit 32 = .ok (.aload 4, 2) := by decide +kernel
theorem dX8_edit_34 : decode cX8_edit 34 = .ok (.getfield 186, 3) := by decide +kernel
theorem dX8_edit_37 : decode cX8_edit 37 = .ok (.iload_n 2, 1) := by decide +kernel
theorem dX8_edit_38 : decode cX8_edit 38 = .ok (.invokevirtual 201, 3) := by decide +kernel
theorem dX8_edit_41 : decode cX8_edit 41 = .ok (.ifCond .eq 22, 3) := by decide +kernel
theorem dX8_edit_44 : decode cX8_edit 44 = .ok (.aload_n 0, 1) := by decide +kernel
theorem dX8_edit_45 : decode cX8_edit 45 = .ok (.getfield 12, 3) := by decide +kernel
theorem dX8_edit_48 : decode cX8_edit 48 = .ok (.aload 4, 2) := by decide +kernel
theorem dX8_edit_50 : decode cX8_edit 50 = .ok (.getfield 186, 3) := by decide +kernel
theorem dX8_edit_53 : decode cX8_edit 53 = .ok (.iload_n 2, 1) := by decide +kernel
theorem dX8_edit_54 : decode cX8_edit 54 = .ok (.invokevirtual 204, 3) := by decide +kernel
theorem dX8_edit_57 : decode cX8_edit 57 = .ok (.invokevirtual 104, 3) := by decide +kernel
theorem dX8_edit_60 : decode cX8_edit 60 = .ok (.goto 4, 3) := by decide +kernel
theorem dX8_edit_63 : decode cX8_edit 63 = .ok (.aconst_null, 1) := by decide +kernel
theorem dX8_edit_64 : decode cX8_edit 64 = .ok (.astore 5, 2) := by decide +kernel
theorem dX8_edit_66 : decode cX8_edit 66 = .ok (.aload 5, 2) := by decide +kernel
theorem dX8_edit_68 : decode cX8_edit 68 = .ok (.ifnull 20, 3) := by decide +kernel
theorem dX8_edit_71 : decode cX8_edit 71 = .ok (.aload 5, 2) := by decide +kernel
theorem dX8_edit_73 : decode cX8_edit 73 = .ok (.getfield 111, 3) := by decide +kernel
theorem dX8_edit_76 : decode cX8_edit 76 = .ok (.aload 4, 2) := by decide +kernel
theorem dX8_edit_78 : decode cX8_edit 78 = .ok (.getfield 186, 3) := by decide +kernel
theorem dX8_edit_81 : decode cX8_edit 81 = .ok (.iload_n 2, 1) := by decide +kernel
theorem dX8_edit_82 : decode cX8_edit 82 = .ok (.invokevirtual 170, 3) := by decide +kernel
theorem dX8_edit_85 : decode cX8_edit 85 = .ok (.if_icmp .eq 10, 3) := by decide +kernel
theorem dX8_edit_88 : decode cX8_edit 88 = .ok (.aload_n 0, 1) := by decide +kernel
theorem dX8_edit_89 : decode cX8_edit 89 = .ok (.bipush (-3), 2) := by decide +kernel
theorem dX8_edit_91 : decode cX8_edit 91 = .ok (.invokevirtual 76, 3) := by decide +kernel
theorem dX8_edit_94 : decode cX8_edit 94 = .ok (.ireturn, 1) := by decide +kernel
theorem dX8_edit_95 : decode cX8_edit 95 = .ok (.aload_n 0, 1) := by decide +kernel
theorem dX8_edit_96 : decode cX8_edit 96 = .ok (.getfield 19, 3) := by decide +kernel
theorem dX8_edit_99 : decode cX8_edit 99 = .ok (.invokevirtual 87, 3) := by decide +kernel
theorem dX8_edit_102 : decode cX8_edit 102 = .ok (.ifCond .eq 10, 3) := by decide +kernel
theorem dX8_edit_105 : decode cX8_edit 105 = .ok (.aload_n 0, 1) := by decide +kernel
theorem dX8_edit_106 : decode cX8_edit 106 = .ok (.bipush (-5), 2) := by decide +kernel
theorem dX8_edit_108 : decode cX8_edit 108 = .ok (.invokevirtual 76, 3) := by decide +kernel
theorem dX8_edit_111 : decode cX8_edit 111 = .ok (.ireturn, 1) := by decide +kernel
theorem dX8_edit_112 : decode cX8_edit 112 = .ok (.aload_n 0, 1) := by decide +kernel
theorem dX8_edit_113 : decode cX8_edit 113 = .ok (.aload 5, 2) := by decide +kernel
theorem dX8_edit_115 : decode cX8_edit 115 = .ok (.iload_n 3, 1) := by decide +kernel
theorem dX8_edit_116 : decode cX8_edit 116 = .ok (.invokevirtual 108, 3) := by decide +kernel
theorem dX8_edit_119 : decode cX8_edit 119 = .ok (.invokevirtual 97, 3) := by decide +kernel
theorem dX8_edit_122 : decode cX8_edit 122 = .ok (.aload 4, 2) := by decide +kernel
theorem dX8_edit_124 : decode cX8_edit 124 = .ok (.getfield 186, 3) := by decide +kernel
theorem dX8_edit_127 : decode cX8_edit 127 = .ok (.iload_n 2, 1) := by decide +kernel
theorem dX8_edit_128 : decode cX8_edit 128 = .ok (.iload_n 3, 1) := by decide +kernel
theorem dX8_edit_129 : decode cX8_edit 129 = .ok (.invokevirtual 207, 3) := by decide +kernel
theorem dX8_edit_132 : decode cX8_edit 132 = .ok (.aload_n 0, 1) := by decide +kernel
theorem dX8_edit_133 : decode cX8_edit 133 = .ok (.aload 5, 2) := by decide +kernel
theorem dX8_edit_135 : decode cX8_edit 135 = .ok (.getfield 211, 3) := by decide +kernel
theorem dX8_edit_138 : decode cX8_edit 138 = .ok (.invokevirtual 101, 3) := by decide +kernel
theorem dX8_edit_141 : decode cX8_edit 141 = .ok (.ireturn, 1) := by decide +kernel
theorem dX8_asOf_0 : decode cX8_asOf 0 = .ok (.aload_n 0, 1) := by decide +kernel
theorem dX8_asOf_1 : decode cX8_asOf 1 = .ok (.getfield 59, 3) := by decide +kernel
theorem dX8_asOf_4 : decode cX8_asOf 4 = .ok (.invokevirtual 214, 3) := by decide +kernel
theorem dX8_asOf_7 : decode cX8_asOf 7 = .ok (.iload_n 1, 1) := by decide +kernel
theorem dX8_asOf_8 : decode cX8_asOf 8 = .ok (.ifCond .lt 26, 3) := by decide +kernel
theorem dX8_asOf_11 : decode cX8_asOf 11 = .ok (.iload_n 1, 1) := by decide +kernel
theorem dX8_asOf_12 : decode cX8_asOf 12 = .ok (.aload_n 0, 1) := by decide +kernel
theorem dX8_asOf_13 : decode cX8_asOf 13 = .ok (.getfield 19, 3) := by decide +kernel
theorem dX8_asOf_16 : decode cX8_asOf 16 = .ok (.invokevirtual 215, 3) := by decide +kernel
theorem dX8_asOf_19 : decode cX8_asOf 19 = .ok (.if_icmp .gt 15, 3) := by decide +kernel
theorem dX8_asOf_22 : decode cX8_asOf 22 = .ok (.aload_n 0, 1) := by decide +kernel
theorem dX8_asOf_23 : decode cX8_asOf 23 = .ok (.getfield 19, 3) := by decide +kernel
theorem dX8_asOf_26 : decode cX8_asOf 26 = .ok (.iload_n 1, 1) := by decide +kernel
theorem dX8_asOf_27 : decode cX8_asOf 27 = .ok (.aload_n 0, 1) := by decide +kernel
theorem dX8_asOf_28 : decode cX8_asOf 28 = .ok (.getfield 59, 3) := by decide +kernel
theorem dX8_asOf_31 : decode cX8_asOf 31 = .ok (.invokevirtual 216, 3) := by decide +kernel
theorem dX8_asOf_34 : decode cX8_asOf 34 = .ok (.aload_n 0, 1) := by decide +kernel
theorem dX8_asOf_35 : decode cX8_asOf 35 = .ok (.getfield 65, 3) := by decide +kernel
theorem dX8_asOf_38 : decode cX8_asOf 38 = .ok (.aload_n 0, 1) := by decide +kernel
theorem dX8_asOf_39 : decode cX8_asOf 39 = .ok (.getfield 39, 3) := by decide +kernel
theorem dX8_asOf_42 : decode cX8_asOf 42 = .ok (.aload_n 0, 1) := by decide +kernel
theorem dX8_asOf_43 : decode cX8_asOf 43 = .ok (.getfield 59, 3) := by decide +kernel
theorem dX8_asOf_46 : decode cX8_asOf 46 = .ok (.iload_n 2, 1) := by decide +kernel
theorem dX8_asOf_47 : decode cX8_asOf 47 = .ok (.invokevirtual 165, 3) := by decide +kernel
theorem dX8_asOf_50 : decode cX8_asOf 50 = .ok (.iload_n 3, 1) := by decide +kernel
theorem dX8_asOf_51 : decode cX8_asOf 51 = .ok (.iconst (-1), 1) := by decide +kernel
theorem dX8_asOf_52 : decode cX8_asOf 52 = .ok (.if_icmp .ne 13, 3) := by decide +kernel
theorem dX8_asOf_55 : decode cX8_asOf 55 = .ok (.aload_n 0, 1) := by decide +kernel
theorem dX8_asOf_56 : decode cX8_asOf 56 = .ok (.getfield 65, 3) := by decide +kernel
theorem dX8_asOf_59 : decode cX8_asOf 59 = .ok (.invokevirtual 169, 3) := by decide +kernel
theorem dX8_asOf_62 : decode cX8_asOf 62 = .ok (.goto 11, 3) := by decide +kernel
theorem dX8_asOf_65 : decode cX8_asOf 65 = .ok (.aload_n 0, 1) := by decide +kernel
theorem dX8_asOf_66 : decode cX8_asOf 66 = .ok (.getfield 65, 3) := by decide +kernel
theorem dX8_asOf_69 : decode cX8_asOf 69 = .ok (.iload_n 3, 1) := by decide +kernel
theorem dX8_asOf_70 : decode cX8_asOf 70 = .ok (.invokevirtual 170, 3) := by decide +kernel
theorem dX8_asOf_73 : decode cX8_asOf 73 = .ok (.ireturn, 1) := by decide +kernel
theorem dX8_touched_0 : decode cX8_touched 0 = .ok (.aload_n 0, 1) := by decide +kernel
theorem dX8_touched_1 : decode cX8_touched 1 = .ok (.getfield 12, 3) := by decide +kernel
theorem dX8_touched_4 : decode cX8_touched 4 = .ok (.iload_n 1, 1) := by decide +kernel
theorem dX8_touched_5 : decode cX8_touched 5 = .ok (.invokevirtual 104, 3) := by decide +kernel
theorem dX8_touched_8 : decode cX8_touched 8 = .ok (.astore_n 3, 1) := by decide +kernel
theorem dX8_touched_9 : decode cX8_touched 9 = .ok (.aload_n 3, 1) := by decide +kernel
theorem dX8_touched_10 : decode cX8_touched 10 = .ok (.ifnull 10, 3) := by decide +kernel
theorem dX8_touched_13 : decode cX8_touched 13 = .ok (.iload_n 2, 1) := by decide +kernel
theorem dX8_touched_14 : decode cX8_touched 14 = .ok (.invokestatic 72, 3) := by decide +kernel
theorem dX8_touched_17 : decode cX8_touched 17 = .ok (.ifCond .ne 5, 3) := by decide +kernel
theorem dX8_touched_20 : decode cX8_touched 20 = .ok (.iconst 0, 1) := by decide +kernel
theorem dX8_touched_21 : decode cX8_touched 21 = .ok (.ireturn, 1) := by decide +kernel
theorem dX8_touched_22 : decode cX8_touched 22 = .ok (.aload_n 0, 1) := by decide +kernel
theorem dX8_touched_23 : decode cX8_touched 23 = .ok (.getfield 59, 3) := by decide +kernel
theorem dX8_touched_26 : decode cX8_touched 26 = .ok (.aload_n 0, 1) := by decide +kernel
theorem dX8_touched_27 : decode cX8_touched 27 = .ok (.getfield 12, 3) := by decide +kernel
theorem dX8_touched_30 : decode cX8_touched 30 = .ok (.invokevirtual 220, 3) := by decide +kernel
theorem dX8_touched_33 : decode cX8_touched 33 = .ok (.aload_n 0, 1) := by decide +kernel
theorem dX8_touched_34 : decode cX8_touched 34 = .ok (.getfield 59, 3) := by decide +kernel
theorem dX8_touched_37 : decode cX8_touched 37 = .ok (.aload_n 3, 1) := by decide +kernel
theorem dX8_touched_38 : decode cX8_touched 38 = .ok (.iload_n 2, 1) := by decide +kernel
theorem dX8_touched_39 : decode cX8_touched 39 = .ok (.invokevirtual 108, 3) := by decide +kernel
theorem dX8_touched_42 : decode cX8_touched 42 = .ok (.invokevirtual 223, 3) := by decide +kernel
theorem dX8_touched_45 : decode cX8_touched 45 = .ok (.iconst 0, 1) := by decide +kernel
theorem dX8_touched_46 : decode cX8_touched 46 = .ok (.istore 4, 2) := by decide +kernel
theorem dX8_touched_48 : decode cX8_touched 48 = .ok (.iconst 0, 1) := by decide +kernel
theorem dX8_touched_49 : decode cX8_touched 49 = .ok (.istore 5, 2) := by decide +kernel
theorem dX8_touched_51 : decode cX8_touched 51 = .ok (.iload 5, 2) := by decide +kernel
theorem dX8_touched_53 : decode cX8_touched 53 = .ok (.aload_n 0, 1) := by decide +kernel
theorem dX8_touched_54 : decode cX8_touched 54 = .ok (.getfield 32, 3) := by decide +kernel
theorem dX8_touched_57 : decode cX8_touched 57 = .ok (.arraylength, 1) := by decide +kernel
theorem dX8_touched_58 : decode cX8_touched 58 = .ok (.if_icmp .ge 44, 3) := by decide +kernel
theorem dX8_touched_61 : decode cX8_touched 61 = .ok (.aload_n 0, 1) := by decide +kernel
theorem dX8_touched_62 : decode cX8_touched 62 = .ok (.getfield 32, 3) := by decide +kernel
theorem dX8_touched_65 : decode cX8_touched 65 = .ok (.iload 5, 2) := by decide +kernel
theorem dX8_touched_67 : decode cX8_touched 67 = .ok (.aaload, 1) := by decide +kernel
theorem dX8_touched_68 : decode cX8_touched 68 = .ok (.astore 6, 2) := by decide +kernel
theorem dX8_touched_70 : decode cX8_touched 70 = .ok (.aload 6, 2) := by decide +kernel
theorem dX8_touched_72 : decode cX8_touched 72 = .ok (.ifnull 24, 3) := by decide +kernel
theorem dX8_touched_75 : decode cX8_touched 75 = .ok (.aload_n 0, 1) := by decide +kernel
theorem dX8_touched_76 : decode cX8_touched 76 = .ok (.aload 6, 2) := by decide +kernel
theorem dX8_touched_78 : decode cX8_touched 78 = .ok (.getfield 183, 3) := by decide +kernel
theorem dX8_touched_81 : decode cX8_touched 81 = .ok (.invokevirtual 225, 3) := by decide +kernel
theorem dX8_touched_84 : decode cX8_touched 84 = .ok (.ifCond .eq 12, 3) := by decide +kernel
theorem dX8_touched_87 : decode cX8_touched 87 = .ok (.iload 4, 2) := by decide +kernel
theorem dX8_touched_89 : decode cX8_touched 89 = .ok (.iconst 1, 1) := by decide +kernel
theorem dX8_touched_90 : decode cX8_touched 90 = .ok (.iload 5, 2) := by decide +kernel
theorem dX8_touched_92 : decode cX8_touched 92 = .ok (.ishl, 1) := by decide +kernel
theorem dX8_touched_93 : decode cX8_touched 93 = .ok (.ior, 1) := by decide +kernel
theorem dX8_touched_94 : decode cX8_touched 94 = .ok (.istore 4, 2) := by decide +kernel
theorem dX8_touched_96 : decode cX8_touched 96 = .ok (.iinc 5 1, 3) := by decide +kernel
theorem dX8_touched_99 : decode cX8_touched 99 = .ok (.goto (-48), 3) := by decide +kernel
theorem dX8_touched_102 : decode cX8_touched 102 = .ok (.iload 4, 2) := by decide +kernel
theorem dX8_touched_104 : decode cX8_touched 104 = .ok (.ireturn, 1) := by decide +kernel
theorem dX8_count_0 : decode cX8_count 0 = .ok (.iload_n 1, 1) := by decide +kernel
theorem dX8_count_1 : decode cX8_count 1 = .ok (.tableswitch 93 0 6 #[43, 51, 59, 67, 72, 80, 88], 43) := by decide +kernel
theorem dX8_count_44 : decode cX8_count 44 = .ok (.aload_n 0, 1) := by decide +kernel
theorem dX8_count_45 : decode cX8_count 45 = .ok (.getfield 12, 3) := by decide +kernel
theorem dX8_count_48 : decode cX8_count 48 = .ok (.invokevirtual 228, 3) := by decide +kernel
theorem dX8_count_51 : decode cX8_count 51 = .ok (.ireturn, 1) := by decide +kernel
theorem dX8_count_52 : decode cX8_count 52 = .ok (.aload_n 0, 1) := by decide +kernel
theorem dX8_count_53 : decode cX8_count 53 = .ok (.getfield 12, 3) := by decide +kernel
theorem dX8_count_56 : decode cX8_count 56 = .ok (.invokevirtual 88, 3) := by decide +kernel
theorem dX8_count_59 : decode cX8_count 59 = .ok (.ireturn, 1) := by decide +kernel
theorem dX8_count_60 : decode cX8_count 60 = .ok (.aload_n 0, 1) := by decide +kernel
theorem dX8_count_61 : decode cX8_count 61 = .ok (.getfield 39, 3) := by decide +kernel
theorem dX8_count_64 : decode cX8_count 64 = .ok (.invokevirtual 162, 3) := by decide +kernel
theorem dX8_count_67 : decode cX8_count 67 = .ok (.ireturn, 1) := by decide +kernel
theorem dX8_count_68 : decode cX8_count 68 = .ok (.aload_n 0, 1) := by decide +kernel
theorem dX8_count_69 : decode cX8_count 69 = .ok (.getfield 43, 3) := by decide +kernel
theorem dX8_count_72 : decode cX8_count 72 = .ok (.ireturn, 1) := by decide +kernel
theorem dX8_count_73 : decode cX8_count 73 = .ok (.aload_n 0, 1) := by decide +kernel
theorem dX8_count_74 : decode cX8_count 74 = .ok (.getfield 19, 3) := by decide +kernel
theorem dX8_count_77 : decode cX8_count 77 = .ok (.invokevirtual 215, 3) := by decide +kernel
theorem dX8_count_80 : decode cX8_count 80 = .ok (.ireturn, 1) := by decide +kernel
theorem dX8_count_81 : decode cX8_count 81 = .ok (.aload_n 0, 1) := by decide +kernel
theorem dX8_count_82 : decode cX8_count 82 = .ok (.getfield 26, 3) := by decide +kernel
theorem dX8_count_85 : decode cX8_count 85 = .ok (.invokevirtual 138, 3) := by decide +kernel
theorem dX8_count_88 : decode cX8_count 88 = .ok (.ireturn, 1) := by decide +kernel
theorem dX8_count_89 : decode cX8_count 89 = .ok (.aload_n 0, 1) := by decide +kernel
theorem dX8_count_90 : decode cX8_count 90 = .ok (.getfield 47, 3) := by decide +kernel
theorem dX8_count_93 : decode cX8_count 93 = .ok (.ireturn, 1) := by decide +kernel
theorem dX8_count_94 : decode cX8_count 94 = .ok (.iconst (-1), 1) := by decide +kernel
theorem dX8_count_95 : decode cX8_count 95 = .ok (.ireturn, 1) := by decide +kernel
theorem dX8_status_0 : decode cX8_status 0 = .ok (.aload_n 0, 1) := by decide +kernel
theorem dX8_status_1 : decode cX8_status 1 = .ok (.getfield 53, 3) := by decide +kernel
theorem dX8_status_4 : decode cX8_status 4 = .ok (.ireturn, 1) := by decide +kernel
theorem dX8_refused_0 : decode cX8_refused 0 = .ok (.aload_n 0, 1) := by decide +kernel
theorem dX8_refused_1 : decode cX8_refused 1 = .ok (.iload_n 1, 1) := by decide +kernel
theorem dX8_refused_2 : decode cX8_refused 2 = .ok (.putfield 53, 3) := by decide +kernel
theorem dX8_refused_5 : decode cX8_refused 5 = .ok (.iload_n 1, 1) := by decide +kernel
theorem dX8_refused_6 : decode cX8_refused 6 = .ok (.ireturn, 1) := by decide +kernel
theorem dX8_answered_0 : decode cX8_answered 0 = .ok (.aload_n 0, 1) := by decide +kernel
theorem dX8_answered_1 : decode cX8_answered 1 = .ok (.iconst 0, 1) := by decide +kernel
theorem dX8_answered_2 : decode cX8_answered 2 = .ok (.putfield 53, 3) := by decide +kernel
theorem dX8_answered_5 : decode cX8_answered 5 = .ok (.iload_n 1, 1) := by decide +kernel
theorem dX8_answered_6 : decode cX8_answered 6 = .ok (.ireturn, 1) := by decide +kernel
theorem dX8_isValue_0 : decode cX8_isValue 0 = .ok (.iload_n 0, 1) := by decide +kernel
theorem dX8_isValue_1 : decode cX8_isValue 1 = .ok (.sipush (-1000), 3) := by decide +kernel
theorem dX8_isValue_4 : decode cX8_isValue 4 = .ok (.if_icmp .lt 14, 3) := by decide +kernel
theorem dX8_isValue_7 : decode cX8_isValue 7 = .ok (.iload_n 0, 1) := by decide +kernel
theorem dX8_isValue_8 : decode cX8_isValue 8 = .ok (.sipush 1000, 3) := by decide +kernel
theorem dX8_isValue_11 : decode cX8_isValue 11 = .ok (.if_icmp .gt 7, 3) := by decide +kernel
theorem dX8_isValue_14 : decode cX8_isValue 14 = .ok (.iconst 1, 1) := by decide +kernel
theorem dX8_isValue_15 : decode cX8_isValue 15 = .ok (.goto 4, 3) := by decide +kernel
theorem dX8_isValue_18 : decode cX8_isValue 18 = .ok (.iconst 0, 1) := by decide +kernel
theorem dX8_isValue_19 : decode cX8_isValue 19 = .ok (.ireturn, 1) := by decide +kernel
theorem dX8_canBeReferredTo_0 : decode cX8_canBeReferredTo 0 = .ok (.iload_n 1, 1) := by decide +kernel
theorem dX8_canBeReferredTo_1 : decode cX8_canBeReferredTo 1 = .ok (.iconst (-1), 1) := by decide +kernel
theorem dX8_canBeReferredTo_2 : decode cX8_canBeReferredTo 2 = .ok (.if_icmp .eq 14, 3) := by decide +kernel
theorem dX8_canBeReferredTo_5 : decode cX8_canBeReferredTo 5 = .ok (.aload_n 0, 1) := by decide +kernel
theorem dX8_canBeReferredTo_6 : decode cX8_canBeReferredTo 6 = .ok (.getfield 12, 3) := by decide +kernel
theorem dX8_canBeReferredTo_9 : decode cX8_canBeReferredTo 9 = .ok (.iload_n 1, 1) := by decide +kernel
theorem dX8_canBeReferredTo_10 : decode cX8_canBeReferredTo 10 = .ok (.invokevirtual 104, 3) := by decide +kernel
theorem dX8_canBeReferredTo_13 : decode cX8_canBeReferredTo 13 = .ok (.ifnull 7, 3) := by decide +kernel
theorem dX8_canBeReferredTo_16 : decode cX8_canBeReferredTo 16 = .ok (.iconst 1, 1) := by decide +kernel
theorem dX8_canBeReferredTo_17 : decode cX8_canBeReferredTo 17 = .ok (.goto 4, 3) := by decide +kernel
theorem dX8_canBeReferredTo_20 : decode cX8_canBeReferredTo 20 = .ok (.iconst 0, 1) := by decide +kernel
theorem dX8_canBeReferredTo_21 : decode cX8_canBeReferredTo 21 = .ok (.ireturn, 1) := by decide +kernel
theorem dX8_tell_0 : decode cX8_tell 0 = .ok (.aload_n 0, 1) := by decide +kernel
theorem dX8_tell_1 : decode cX8_tell 1 = .ok (.getfield 12, 3) := by decide +kernel
theorem dX8_tell_4 : decode cX8_tell 4 = .ok (.aload_n 1, 1) := by decide +kernel
theorem dX8_tell_5 : decode cX8_tell 5 = .ok (.invokevirtual 223, 3) := by decide +kernel
theorem dX8_tell_8 : decode cX8_tell 8 = .ok (.aload_n 0, 1) := by decide +kernel
theorem dX8_tell_9 : decode cX8_tell 9 = .ok (.getfield 19, 3) := by decide +kernel
theorem dX8_tell_12 : decode cX8_tell 12 = .ok (.aload_n 1, 1) := by decide +kernel
theorem dX8_tell_13 : decode cX8_tell 13 = .ok (.invokevirtual 231, 3) := by decide +kernel
theorem dX8_tell_16 : decode cX8_tell 16 = .ok (.return_, 1) := by decide +kernel
theorem dX8_readerAt_0 : decode cX8_readerAt 0 = .ok (.iload_n 1, 1) := by decide +kernel
theorem dX8_readerAt_1 : decode cX8_readerAt 1 = .ok (.ifCond .lt 21, 3) := by decide +kernel
theorem dX8_readerAt_4 : decode cX8_readerAt 4 = .ok (.iload_n 1, 1) := by decide +kernel
theorem dX8_readerAt_5 : decode cX8_readerAt 5 = .ok (.aload_n 0, 1) := by decide +kernel
theorem dX8_readerAt_6 : decode cX8_readerAt 6 = .ok (.getfield 32, 3) := by decide +kernel
theorem dX8_readerAt_9 : decode cX8_readerAt 9 = .ok (.arraylength, 1) := by decide +kernel
theorem dX8_readerAt_10 : decode cX8_readerAt 10 = .ok (.if_icmp .ge 12, 3) := by decide +kernel
theorem dX8_readerAt_13 : decode cX8_readerAt 13 = .ok (.aload_n 0, 1) := by decide +kernel
theorem dX8_readerAt_14 : decode cX8_readerAt 14 = .ok (.getfield 32, 3) := by decide +kernel
theorem dX8_readerAt_17 : decode cX8_readerAt 17 = .ok (.iload_n 1, 1) := by decide +kernel
theorem dX8_readerAt_18 : decode cX8_readerAt 18 = .ok (.aaload, 1) := by decide +kernel
theorem dX8_readerAt_19 : decode cX8_readerAt 19 = .ok (.goto 4, 3) := by decide +kernel
theorem dX8_readerAt_22 : decode cX8_readerAt 22 = .ok (.aconst_null, 1) := by decide +kernel
theorem dX8_readerAt_23 : decode cX8_readerAt 23 = .ok (.areturn, 1) := by decide +kernel
theorem dX8_isOtherwiseThen_0 : decode cX8_isOtherwiseThen 0 = .ok (.aload_n 0, 1) := by decide +kernel
theorem dX8_isOtherwiseThen_1 : decode cX8_isOtherwiseThen 1 = .ok (.getfield 65, 3) := by decide +kernel
theorem dX8_isOtherwiseThen_4 : decode cX8_isOtherwiseThen 4 = .ok (.aload_n 0, 1) := by decide +kernel
theorem dX8_isOtherwiseThen_5 : decode cX8_isOtherwiseThen 5 = .ok (.getfield 39, 3) := by decide +kernel
theorem dX8_isOtherwiseThen_8 : decode cX8_isOtherwiseThen 8 = .ok (.aload_n 0, 1) := by decide +kernel
theorem dX8_isOtherwiseThen_9 : decode cX8_isOtherwiseThen 9 = .ok (.getfield 12, 3) := by decide +kernel
theorem dX8_isOtherwiseThen_12 : decode cX8_isOtherwiseThen 12 = .ok (.iload_n 1, 1) := by decide +kernel
theorem dX8_isOtherwiseThen_13 : decode cX8_isOtherwiseThen 13 = .ok (.invokevirtual 165, 3) := by decide +kernel
theorem dX8_isOtherwiseThen_16 : decode cX8_isOtherwiseThen 16 = .ok (.aload_n 0, 1) := by decide +kernel
theorem dX8_isOtherwiseThen_17 : decode cX8_isOtherwiseThen 17 = .ok (.getfield 69, 3) := by decide +kernel
theorem dX8_isOtherwiseThen_20 : decode cX8_isOtherwiseThen 20 = .ok (.aload_n 0, 1) := by decide +kernel
theorem dX8_isOtherwiseThen_21 : decode cX8_isOtherwiseThen 21 = .ok (.getfield 39, 3) := by decide +kernel
theorem dX8_isOtherwiseThen_24 : decode cX8_isOtherwiseThen 24 = .ok (.aload_n 0, 1) := by decide +kernel
theorem dX8_isOtherwiseThen_25 : decode cX8_isOtherwiseThen 25 = .ok (.getfield 59, 3) := by decide +kernel
theorem dX8_isOtherwiseThen_28 : decode cX8_isOtherwiseThen 28 = .ok (.iload_n 1, 1) := by decide +kernel
theorem dX8_isOtherwiseThen_29 : decode cX8_isOtherwiseThen 29 = .ok (.invokevirtual 165, 3) := by decide +kernel
theorem dX8_isOtherwiseThen_32 : decode cX8_isOtherwiseThen 32 = .ok (.aload_n 0, 1) := by decide +kernel
theorem dX8_isOtherwiseThen_33 : decode cX8_isOtherwiseThen 33 = .ok (.getfield 65, 3) := by decide +kernel
theorem dX8_isOtherwiseThen_36 : decode cX8_isOtherwiseThen 36 = .ok (.aload_n 0, 1) := by decide +kernel
theorem dX8_isOtherwiseThen_37 : decode cX8_isOtherwiseThen 37 = .ok (.getfield 69, 3) := by decide +kernel
theorem dX8_isOtherwiseThen_40 : decode cX8_isOtherwiseThen 40 = .ok (.invokevirtual 189, 3) := by decide +kernel
theorem dX8_isOtherwiseThen_43 : decode cX8_isOtherwiseThen 43 = .ok (.ifCond .ne 7, 3) := by decide +kernel
theorem dX8_isOtherwiseThen_46 : decode cX8_isOtherwiseThen 46 = .ok (.iconst 1, 1) := by decide +kernel
theorem dX8_isOtherwiseThen_47 : decode cX8_isOtherwiseThen 47 = .ok (.goto 4, 3) := by decide +kernel
theorem dX8_isOtherwiseThen_50 : decode cX8_isOtherwiseThen 50 = .ok (.iconst 0, 1) := by decide +kernel
theorem dX8_isOtherwiseThen_51 : decode cX8_isOtherwiseThen 51 = .ok (.ireturn, 1) := by decide +kernel
end
section
theorem dX9_init_0 : decode cX9_init 0 = .ok (.aload_n 0, 1) := by decide +kernel
theorem dX9_init_1 : decode cX9_init 1 = .ok (.invokespecial 1, 3) := by decide +kernel
theorem dX9_init_4 : decode cX9_init 4 = .ok (.aload_n 0, 1) := by decide +kernel
theorem dX9_init_5 : decode cX9_init 5 = .ok (.sipush 300, 3) := by decide +kernel
theorem dX9_init_8 : decode cX9_init 8 = .ok (.newarray .int, 2) := by decide +kernel
theorem dX9_init_10 : decode cX9_init 10 = .ok (.putfield 7, 3) := by decide +kernel
theorem dX9_init_13 : decode cX9_init 13 = .ok (.aload_n 0, 1) := by decide +kernel
theorem dX9_init_14 : decode cX9_init 14 = .ok (.sipush 300, 3) := by decide +kernel
theorem dX9_init_17 : decode cX9_init 17 = .ok (.newarray .int, 2) := by decide +kernel
theorem dX9_init_19 : decode cX9_init 19 = .ok (.putfield 13, 3) := by decide +kernel
theorem dX9_init_22 : decode cX9_init 22 = .ok (.aload_n 0, 1) := by decide +kernel
theorem dX9_init_23 : decode cX9_init 23 = .ok (.sipush 300, 3) := by decide +kernel
theorem dX9_init_26 : decode cX9_init 26 = .ok (.newarray .int, 2) := by decide +kernel
theorem dX9_init_28 : decode cX9_init 28 = .ok (.putfield 16, 3) := by decide +kernel
theorem dX9_init_31 : decode cX9_init 31 = .ok (.aload_n 0, 1) := by decide +kernel
theorem dX9_init_32 : decode cX9_init 32 = .ok (.sipush 300, 3) := by decide +kernel
theorem dX9_init_35 : decode cX9_init 35 = .ok (.newarray .int, 2) := by decide +kernel
theorem dX9_init_37 : decode cX9_init 37 = .ok (.putfield 19, 3) := by decide +kernel
theorem dX9_init_40 : decode cX9_init 40 = .ok (.aload_n 0, 1) := by decide +kernel
theorem dX9_init_41 : decode cX9_init 41 = .ok (.sipush 300, 3) := by decide +kernel
theorem dX9_init_44 : decode cX9_init 44 = .ok (.newarray .int, 2) := by decide +kernel
theorem dX9_init_46 : decode cX9_init 46 = .ok (.putfield 22, 3) := by decide +kernel
theorem dX9_init_49 : decode cX9_init 49 = .ok (.aload_n 0, 1) := by decide +kernel
theorem dX9_init_50 : decode cX9_init 50 = .ok (.sipush 300, 3) := by decide +kernel
theorem dX9_init_53 : decode cX9_init 53 = .ok (.newarray .int, 2) := by decide +kernel
theorem dX9_init_55 : decode cX9_init 55 = .ok (.putfield 25, 3) := by decide +kernel
theorem dX9_init_58 : decode cX9_init 58 = .ok (.aload_n 0, 1) := by decide +kernel
theorem dX9_init_59 : decode cX9_init 59 = .ok (.bipush 60, 2) := by decide +kernel
theorem dX9_init_61 : decode cX9_init 61 = .ok (.newarray .int, 2) := by decide +kernel
theorem dX9_init_63 : decode cX9_init 63 = .ok (.putfield 28, 3) := by decide +kernel
theorem dX9_init_66 : decode cX9_init 66 = .ok (.aload_n 0, 1) := by decide +kernel
theorem dX9_init_67 : decode cX9_init 67 = .ok (.bipush 60, 2) := by decide +kernel
theorem dX9_init_69 : decode cX9_init 69 = .ok (.newarray .int, 2) := by decide +kernel
theorem dX9_init_71 : decode cX9_init 71 = .ok (.putfield 31, 3) := by decide +kernel
theorem dX9_init_74 : decode cX9_init 74 = .ok (.aload_n 0, 1) := by decide +kernel
theorem dX9_init_75 : decode cX9_init 75 = .ok (.bipush 120, 2) := by decide +kernel
theorem dX9_init_77 : decode cX9_init 77 = .ok (.newarray .int, 2) := by decide +kernel
theorem dX9_init_79 : decode cX9_init 79 = .ok (.putfield 34, 3) := by decide +kernel
theorem dX9_init_82 : decode cX9_init 82 = .ok (.aload_n 0, 1) := by decide +kernel
theorem dX9_init_83 : decode cX9_init 83 = .ok (.bipush 60, 2) := by decide +kernel
theorem dX9_init_85 : decode cX9_init 85 = .ok (.newarray .boolean, 2) := by decide +kernel
theorem dX9_init_87 : decode cX9_init 87 = .ok (.putfield 37, 3) := by decide +kernel
theorem dX9_init_90 : decode cX9_init 90 = .ok (.aload_n 0, 1) := by decide +kernel
theorem dX9_init_91 : decode cX9_init 91 = .ok (.bipush 20, 2) := by decide +kernel
theorem dX9_init_93 : decode cX9_init 93 = .ok (.newarray .int, 2) := by decide +kernel
theorem dX9_init_95 : decode cX9_init 95 = .ok (.putfield 41, 3) := by decide +kernel
theorem dX9_init_98 : decode cX9_init 98 = .ok (.aload_n 0, 1) := by decide +kernel
theorem dX9_init_99 : decode cX9_init 99 = .ok (.bipush 20, 2) := by decide +kernel
theorem dX9_init_101 : decode cX9_init 101 = .ok (.newarray .int, 2) := by decide +kernel
theorem dX9_init_103 : decode cX9_init 103 = .ok (.putfield 44, 3) := by decide +kernel
theorem dX9_init_106 : decode cX9_init 106 = .ok (.aload_n 0, 1) := by decide +kernel
theorem dX9_init_107 : decode cX9_init 107 = .ok (.sipush 200, 3) := by decide +kernel
theorem dX9_init_110 : decode cX9_init 110 = .ok (.newarray .int, 2) := by decide +kernel
theorem dX9_init_112 : decode cX9_init 112 = .ok (.putfield 47, 3) := by decide +kernel
theorem dX9_init_115 : decode cX9_init 115 = .ok (.aload_n 0, 1) := by decide +kernel
theorem dX9_init_116 : decode cX9_init 116 = .ok (.sipush 200, 3) := by decide +kernel
theorem dX9_init_119 : decode cX9_init 119 = .ok (.newarray .int, 2) := by decide +kernel
theorem dX9_init_121 : decode cX9_init 121 = .ok (.putfield 50, 3) := by decide +kernel
theorem dX9_init_124 : decode cX9_init 124 = .ok (.aload_n 0, 1) := by decide +kernel
theorem dX9_init_125 : decode cX9_init 125 = .ok (.sipush 200, 3) := by decide +kernel
theorem dX9_init_128 : decode cX9_init 128 = .ok (.newarray .int, 2) := by decide +kernel
theorem dX9_init_130 : decode cX9_init 130 = .ok (.putfield 53, 3) := by decide +kernel
theorem dX9_init_133 : decode cX9_init 133 = .ok (.aload_n 0, 1) := by decide +kernel
theorem dX9_init_134 : decode cX9_init 134 = .ok (.sipush 200, 3) := by decide +kernel
theorem dX9_init_137 : decode cX9_init 137 = .ok (.newarray .int, 2) := by decide +kernel
theorem dX9_init_139 : decode cX9_init 139 = .ok (.putfield 56, 3) := by decide +kernel
theorem dX9_init_142 : decode cX9_init 142 = .ok (.aload_n 0, 1) := by decide +kernel
theorem dX9_init_143 : decode cX9_init 143 = .ok (.bipush 20, 2) := by decide +kernel
theorem dX9_init_145 : decode cX9_init 145 = .ok (.newarray .int, 2) := by decide +kernel
theorem dX9_init_147 : decode cX9_init 147 = .ok (.putfield 59, 3) := by decide +kernel
theorem dX9_init_150 : decode cX9_init 150 = .ok (.aload_n 0, 1) := by decide +kernel
theorem dX9_init_151 : decode cX9_init 151 = .ok (.bipush 20, 2) := by decide +kernel
theorem dX9_init_153 : decode cX9_init 153 = .ok (.newarray .int, 2) := by decide +kernel
theorem dX9_init_155 : decode cX9_init 155 = .ok (.putfield 62, 3) := by decide +kernel
theorem dX9_init_158 : decode cX9_init 158 = .ok (.aload_n 0, 1) := by decide +kernel
theorem dX9_init_159 : decode cX9_init 159 = .ok (.bipush 20, 2) := by decide +kernel
theorem dX9_init_161 : decode cX9_init 161 = .ok (.newarray .int, 2) := by decide +kernel
theorem dX9_init_163 : decode cX9_init 163 = .ok (.putfield 65, 3) := by decide +kernel
theorem dX9_init_166 : decode cX9_init 166 = .ok (.aload_n 0, 1) := by decide +kernel
theorem dX9_init_167 : decode cX9_init 167 = .ok (.sipush 200, 3) := by decide +kernel
theorem dX9_init_170 : decode cX9_init 170 = .ok (.newarray .int, 2) := by decide +kernel
theorem dX9_init_172 : decode cX9_init 172 = .ok (.putfield 68, 3) := by decide +kernel
theorem dX9_init_175 : decode cX9_init 175 = .ok (.aload_n 0, 1) := by decide +kernel
theorem dX9_init_176 : decode cX9_init 176 = .ok (.sipush 200, 3) := by decide +kernel
theorem dX9_init_179 : decode cX9_init 179 = .ok (.newarray .int, 2) := by decide +kernel
theorem dX9_init_181 : decode cX9_init 181 = .ok (.putfield 71, 3) := by decide +kernel
theorem dX9_init_184 : decode cX9_init 184 = .ok (.aload_n 0, 1) := by decide +kernel
theorem dX9_init_185 : decode cX9_init 185 = .ok (.sipush 200, 3) := by decide +kernel
theorem dX9_init_188 : decode cX9_init 188 = .ok (.newarray .int, 2) := by decide +kernel
theorem dX9_init_190 : decode cX9_init 190 = .ok (.putfield 74, 3) := by decide +kernel
theorem dX9_init_193 : decode cX9_init 193 = .ok (.aload_n 0, 1) := by decide +kernel
theorem dX9_init_194 : decode cX9_init 194 = .ok (.sipush 200, 3) := by decide +kernel
theorem dX9_init_197 : decode cX9_init 197 = .ok (.newarray .int, 2) := by decide +kernel
theorem dX9_init_199 : decode cX9_init 199 = .ok (.putfield 77, 3) := by decide +kernel
theorem dX9_init_202 : decode cX9_init 202 = .ok (.aload_n 0, 1) := by decide +kernel
theorem dX9_init_203 : decode cX9_init 203 = .ok (.bipush 6, 2) := by decide +kernel
theorem dX9_init_205 : decode cX9_init 205 = .ok (.newarray .int, 2) := by decide +kernel
theorem dX9_init_207 : decode cX9_init 207 = .ok (.putfield 80, 3) := by decide +kernel
theorem dX9_init_210 : decode cX9_init 210 = .ok (.aload_n 0, 1) := by decide +kernel
theorem dX9_init_211 : decode cX9_init 211 = .ok (.sipush 200, 3) := by decide +kernel
theorem dX9_init_214 : decode cX9_init 214 = .ok (.newarray .int, 2) := by decide +kernel
theorem dX9_init_216 : decode cX9_init 216 = .ok (.putfield 83, 3) := by decide +kernel
theorem dX9_init_219 : decode cX9_init 219 = .ok (.aload_n 0, 1) := by decide +kernel
theorem dX9_init_220 : decode cX9_init 220 = .ok (.iconst (-1), 1) := by decide +kernel
theorem dX9_init_221 : decode cX9_init 221 = .ok (.putfield 86, 3) := by decide +kernel
theorem dX9_init_224 : decode cX9_init 224 = .ok (.aload_n 0, 1) := by decide +kernel
theorem dX9_init_225 : decode cX9_init 225 = .ok (.sipush 600, 3) := by decide +kernel
theorem dX9_init_228 : decode cX9_init 228 = .ok (.newarray .int, 2) := by decide +kernel
theorem dX9_init_230 : decode cX9_init 230 = .ok (.putfield 90, 3) := by decide +kernel
theorem dX9_init_233 : decode cX9_init 233 = .ok (.aload_n 0, 1) := by decide +kernel
theorem dX9_init_234 : decode cX9_init 234 = .ok (.sipush 600, 3) := by decide +kernel
theorem dX9_init_237 : decode cX9_init 237 = .ok (.newarray .int, 2) := by decide +kernel
theorem dX9_init_239 : decode cX9_init 239 = .ok (.putfield 93, 3) := by decide +kernel
theorem dX9_init_242 : decode cX9_init 242 = .ok (.aload_n 0, 1) := by decide +kernel
theorem dX9_init_243 : decode cX9_init 243 = .ok (.bipush 60, 2) := by decide +kernel
theorem dX9_init_245 : decode cX9_init 245 = .ok (.newarray .boolean, 2) := by decide +kernel
theorem dX9_init_247 : decode cX9_init 247 = .ok (.putfield 96, 3) := by decide +kernel
theorem dX9_init_250 : decode cX9_init 250 = .ok (.aload_n 0, 1) := by decide +kernel
theorem dX9_init_251 : decode cX9_init 251 = .ok (.bipush 8, 2) := by decide +kernel
theorem dX9_init_253 : decode cX9_init 253 = .ok (.newarray .int, 2) := by decide +kernel
theorem dX9_init_255 : decode cX9_init 255 = .ok (.putfield 99, 3) := by decide +kernel
theorem dX9_init_258 : decode cX9_init 258 = .ok (.aload_n 0, 1) := by decide +kernel
theorem dX9_init_259 : decode cX9_init 259 = .ok (.bipush 8, 2) := by decide +kernel
theorem dX9_init_261 : decode cX9_init 261 = .ok (.newarray .int, 2) := by decide +kernel
theorem dX9_init_263 : decode cX9_init 263 = .ok (.putfield 102, 3) := by decide +kernel
theorem dX9_init_266 : decode cX9_init 266 = .ok (.aload_n 0, 1) := by decide +kernel
theorem dX9_init_267 : decode cX9_init 267 = .ok (.bipush 8, 2) := by decide +kernel
theorem dX9_init_269 : decode cX9_init 269 = .ok (.newarray .int, 2) := by decide +kernel
theorem dX9_init_271 : decode cX9_init 271 = .ok (.putfield 105, 3) := by decide +kernel
theorem dX9_init_274 : decode cX9_init 274 = .ok (.aload_n 0, 1) := by decide +kernel
theorem dX9_init_275 : decode cX9_init 275 = .ok (.bipush 10, 2) := by decide +kernel
theorem dX9_init_277 : decode cX9_init 277 = .ok (.newarray .int, 2) := by decide +kernel
theorem dX9_init_279 : decode cX9_init 279 = .ok (.putfield 108, 3) := by decide +kernel
theorem dX9_init_282 : decode cX9_init 282 = .ok (.aload_n 0, 1) := by decide +kernel
theorem dX9_init_283 : decode cX9_init 283 = .ok (.bipush 10, 2) := by decide +kernel
theorem dX9_init_285 : decode cX9_init 285 = .ok (.newarray .int, 2) := by decide +kernel
theorem dX9_init_287 : decode cX9_init 287 = .ok (.putfield 111, 3) := by decide +kernel
theorem dX9_init_290 : decode cX9_init 290 = .ok (.aload_n 0, 1) := by decide +kernel
theorem dX9_init_291 : decode cX9_init 291 = .ok (.sipush 6000, 3) := by decide +kernel
theorem dX9_init_294 : decode cX9_init 294 = .ok (.newarray .int, 2) := by decide +kernel
theorem dX9_init_296 : decode cX9_init 296 = .ok (.putfield 114, 3) := by decide +kernel
theorem dX9_init_299 : decode cX9_init 299 = .ok (.aload_n 0, 1) := by decide +kernel
theorem dX9_init_300 : decode cX9_init 300 = .ok (.sipush 6000, 3) := by decide +kernel
theorem dX9_init_303 : decode cX9_init 303 = .ok (.newarray .int, 2) := by decide +kernel
theorem dX9_init_305 : decode cX9_init 305 = .ok (.putfield 117, 3) := by decide +kernel
theorem dX9_init_308 : decode cX9_init 308 = .ok (.aload_n 0, 1) := by decide +kernel
theorem dX9_init_309 : decode cX9_init 309 = .ok (.sipush 600, 3) := by decide +kernel
theorem dX9_init_312 : decode cX9_init 312 = .ok (.newarray .int, 2) := by decide +kernel
theorem dX9_init_314 : decode cX9_init 314 = .ok (.putfield 120, 3) := by decide +kernel
theorem dX9_init_317 : decode cX9_init 317 = .ok (.return_, 1) := by decide +kernel
theorem dX9_in_0 : decode cX9_in 0 = .ok (.lload_n 0, 1) := by decide +kernel
theorem dX9_in_1 : decode cX9_in 1 = .ok (.lload_n 2, 1) := by decide +kernel
theorem dX9_in_2 : decode cX9_in 2 = .ok (.lcmp, 1) := by decide +kernel
theorem dX9_in_3 : decode cX9_in 3 = .ok (.ifCond .lt 14, 3) := by decide +kernel
theorem dX9_in_6 : decode cX9_in 6 = .ok (.lload_n 0, 1) := by decide +kernel
theorem dX9_in_7 : decode cX9_in 7 = .ok (.lload 4, 2) := by decide +kernel
theorem dX9_in_9 : decode cX9_in 9 = .ok (.lcmp, 1) := by decide +kernel
theorem dX9_in_10 : decode cX9_in 10 = .ok (.ifCond .gt 7, 3) := by decide +kernel
theorem dX9_in_13 : decode cX9_in 13 = .ok (.iconst 1, 1) := by decide +kernel
theorem dX9_in_14 : decode cX9_in 14 = .ok (.goto 4, 3) := by decide +kernel
theorem dX9_in_17 : decode cX9_in 17 = .ok (.iconst 0, 1) := by decide +kernel
theorem dX9_in_18 : decode cX9_in 18 = .ok (.ireturn, 1) := by decide +kernel
theorem dX9_told_0 : decode cX9_told 0 = .ok (.aload_n 0, 1) := by decide +kernel
theorem dX9_told_1 : decode cX9_told 1 = .ok (.iload_n 1, 1) := by decide +kernel
theorem dX9_told_2 : decode cX9_told 2 = .ok (.ifCond .ge 7, 3) := by decide +kernel
theorem dX9_told_5 : decode cX9_told 5 = .ok (.iload_n 1, 1) := by decide +kernel
theorem dX9_told_6 : decode cX9_told 6 = .ok (.goto 4, 3) := by decide +kernel
theorem dX9_told_9 : decode cX9_told 9 = .ok (.iconst 0, 1) := by decide +kernel
theorem dX9_told_10 : decode cX9_told 10 = .ok (.putfield 126, 3) := by decide +kernel
theorem dX9_told_13 : decode cX9_told 13 = .ok (.iload_n 1, 1) := by decide +kernel
theorem dX9_told_14 : decode cX9_told 14 = .ok (.ireturn, 1) := by decide +kernel
theorem dX9_tell_0 : decode cX9_tell 0 = .ok (.aload_n 0, 1) := by decide +kernel
theorem dX9_tell_1 : decode cX9_tell 1 = .ok (.getfield 7, 3) := by decide +kernel
theorem dX9_tell_4 : decode cX9_tell 4 = .ok (.aload_n 0, 1) := by decide +kernel
theorem dX9_tell_5 : decode cX9_tell 5 = .ok (.getfield 129, 3) := by decide +kernel
theorem dX9_tell_8 : decode cX9_tell 8 = .ok (.iload_n 1, 1) := by decide +kernel
theorem dX9_tell_9 : decode cX9_tell 9 = .ok (.iastore, 1) := by decide +kernel
theorem dX9_tell_10 : decode cX9_tell 10 = .ok (.aload_n 0, 1) := by decide +kernel
theorem dX9_tell_11 : decode cX9_tell 11 = .ok (.getfield 13, 3) := by decide +kernel
theorem dX9_tell_14 : decode cX9_tell 14 = .ok (.aload_n 0, 1) := by decide +kernel
theorem dX9_tell_15 : decode cX9_tell 15 = .ok (.getfield 129, 3) := by decide +kernel
theorem dX9_tell_18 : decode cX9_tell 18 = .ok (.iload_n 2, 1) := by decide +kernel
theorem dX9_tell_19 : decode cX9_tell 19 = .ok (.iastore, 1) := by decide +kernel
theorem dX9_tell_20 : decode cX9_tell 20 = .ok (.aload_n 0, 1) := by decide +kernel
theorem dX9_tell_21 : decode cX9_tell 21 = .ok (.getfield 16, 3) := by decide +kernel
theorem dX9_tell_24 : decode cX9_tell 24 = .ok (.aload_n 0, 1) := by decide +kernel
theorem dX9_tell_25 : decode cX9_tell 25 = .ok (.getfield 129, 3) := by decide +kernel
theorem dX9_tell_28 : decode cX9_tell 28 = .ok (.iload_n 3, 1) := by decide +kernel
theorem dX9_tell_29 : decode cX9_tell 29 = .ok (.iastore, 1) := by decide +kernel
theorem dX9_tell_30 : decode cX9_tell 30 = .ok (.aload_n 0, 1) := by decide +kernel
theorem dX9_tell_31 : decode cX9_tell 31 = .ok (.getfield 19, 3) := by decide +kernel
theorem dX9_tell_34 : decode cX9_tell 34 = .ok (.aload_n 0, 1) := by decide +kernel
theorem dX9_tell_35 : decode cX9_tell 35 = .ok (.getfield 129, 3) := by decide +kernel
theorem dX9_tell_38 : decode cX9_tell 38 = .ok (.iload 4, 2) := by decide +kernel
theorem dX9_tell_40 : decode cX9_tell 40 = .ok (.iastore, 1) := by decide +kernel
theorem dX9_tell_41 : decode cX9_tell 41 = .ok (.aload_n 0, 1) := by decide +kernel
theorem dX9_tell_42 : decode cX9_tell 42 = .ok (.getfield 22, 3) := by decide +kernel
theorem dX9_tell_45 : decode cX9_tell 45 = .ok (.aload_n 0, 1) := by decide +kernel
theorem dX9_tell_46 : decode cX9_tell 46 = .ok (.getfield 129, 3) := by decide +kernel
theorem dX9_tell_49 : decode cX9_tell 49 = .ok (.iload 5, 2) := by decide +kernel
theorem dX9_tell_51 : decode cX9_tell 51 = .ok (.iastore, 1) := by decide +kernel
theorem dX9_tell_52 : decode cX9_tell 52 = .ok (.aload_n 0, 1) := by decide +kernel
theorem dX9_tell_53 : decode cX9_tell 53 = .ok (.getfield 25, 3) := by decide +kernel
theorem dX9_tell_56 : decode cX9_tell 56 = .ok (.aload_n 0, 1) := by decide +kernel
theorem dX9_tell_57 : decode cX9_tell 57 = .ok (.getfield 129, 3) := by decide +kernel
theorem dX9_tell_60 : decode cX9_tell 60 = .ok (.iload 6, 2) := by decide +kernel
theorem dX9_tell_62 : decode cX9_tell 62 = .ok (.iastore, 1) := by decide +kernel
theorem dX9_tell_63 : decode cX9_tell 63 = .ok (.aload_n 0, 1) := by decide +kernel
theorem dX9_tell_64 : decode cX9_tell 64 = .ok (.dup, 1) := by decide +kernel
theorem dX9_tell_65 : decode cX9_tell 65 = .ok (.getfield 129, 3) := by decide +kernel
theorem dX9_tell_68 : decode cX9_tell 68 = .ok (.iconst 1, 1) := by decide +kernel
theorem dX9_tell_69 : decode cX9_tell 69 = .ok (.iadd, 1) := by decide +kernel
theorem dX9_tell_70 : decode cX9_tell 70 = .ok (.putfield 129, 3) := by decide +kernel
theorem dX9_tell_73 : decode cX9_tell 73 = .ok (.aload_n 0, 1) := by decide +kernel
theorem dX9_tell_74 : decode cX9_tell 74 = .ok (.aload_n 0, 1) := by decide +kernel
theorem dX9_tell_75 : decode cX9_tell 75 = .ok (.getfield 129, 3) := by decide +kernel
theorem dX9_tell_78 : decode cX9_tell 78 = .ok (.iconst 1, 1) := by decide +kernel
theorem dX9_tell_79 : decode cX9_tell 79 = .ok (.isub, 1) := by decide +kernel
theorem dX9_tell_80 : decode cX9_tell 80 = .ok (.invokevirtual 132, 3) := by decide +kernel
theorem dX9_tell_83 : decode cX9_tell 83 = .ok (.return_, 1) := by decide +kernel
theorem dX9_goOne_0 : decode cX9_goOne 0 = .ok (.aload_n 0, 1) := by decide +kernel
theorem dX9_goOne_1 : decode cX9_goOne 1 = .ok (.getfield 13, 3) := by decide +kernel
theorem dX9_goOne_4 : decode cX9_goOne 4 = .ok (.iload_n 1, 1) := by decide +kernel
theorem dX9_goOne_5 : decode cX9_goOne 5 = .ok (.iaload, 1) := by decide +kernel
theorem dX9_goOne_6 : decode cX9_goOne 6 = .ok (.istore_n 2, 1) := by decide +kernel
theorem dX9_goOne_7 : decode cX9_goOne 7 = .ok (.aload_n 0, 1) := by decide +kernel
theorem dX9_goOne_8 : decode cX9_goOne 8 = .ok (.getfield 7, 3) := by decide +kernel
theorem dX9_goOne_11 : decode cX9_goOne 11 = .ok (.iload_n 1, 1) := by decide +kernel
theorem dX9_goOne_12 : decode cX9_goOne 12 = .ok (.iaload, 1) := by decide +kernel
theorem dX9_goOne_13 : decode cX9_goOne 13 = .ok (.tableswitch 137 0 2 #[27, 98, 113], 27) := by decide +kernel
theorem dX9_goOne_40 : decode cX9_goOne 40 = .ok (.aload_n 0, 1) := by decide +kernel
theorem dX9_goOne_41 : decode cX9_goOne 41 = .ok (.getfield 28, 3) := by decide +kernel
theorem dX9_goOne_44 : decode cX9_goOne 44 = .ok (.iload_n 2, 1) := by decide +kernel
theorem dX9_goOne_45 : decode cX9_goOne 45 = .ok (.aload_n 0, 1) := by decide +kernel
theorem dX9_goOne_46 : decode cX9_goOne 46 = .ok (.getfield 16, 3) := by decide +kernel
theorem dX9_goOne_49 : decode cX9_goOne 49 = .ok (.iload_n 1, 1) := by decide +kernel
theorem dX9_goOne_50 : decode cX9_goOne 50 = .ok (.iaload, 1) := by decide +kernel
theorem dX9_goOne_51 : decode cX9_goOne 51 = .ok (.iastore, 1) := by decide +kernel
theorem dX9_goOne_52 : decode cX9_goOne 52 = .ok (.aload_n 0, 1) := by decide +kernel
theorem dX9_goOne_53 : decode cX9_goOne 53 = .ok (.getfield 31, 3) := by decide +kernel
theorem dX9_goOne_56 : decode cX9_goOne 56 = .ok (.iload_n 2, 1) := by decide +kernel
theorem dX9_goOne_57 : decode cX9_goOne 57 = .ok (.aload_n 0, 1) := by decide +kernel
theorem dX9_goOne_58 : decode cX9_goOne 58 = .ok (.getfield 19, 3) := by decide +kernel
theorem dX9_goOne_61 : decode cX9_goOne 61 = .ok (.iload_n 1, 1) := by decide +kernel
theorem dX9_goOne_62 : decode cX9_goOne 62 = .ok (.iaload, 1) := by decide +kernel
theorem dX9_goOne_63 : decode cX9_goOne 63 = .ok (.iastore, 1) := by decide +kernel
theorem dX9_goOne_64 : decode cX9_goOne 64 = .ok (.aload_n 0, 1) := by decide +kernel
theorem dX9_goOne_65 : decode cX9_goOne 65 = .ok (.getfield 34, 3) := by decide +kernel
theorem dX9_goOne_68 : decode cX9_goOne 68 = .ok (.iconst 2, 1) := by decide +kernel
theorem dX9_goOne_69 : decode cX9_goOne 69 = .ok (.iload_n 2, 1) := by decide +kernel
theorem dX9_goOne_70 : decode cX9_goOne 70 = .ok (.imul, 1) := by decide +kernel
theorem dX9_goOne_71 : decode cX9_goOne 71 = .ok (.aload_n 0, 1) := by decide +kernel
theorem dX9_goOne_72 : decode cX9_goOne 72 = .ok (.getfield 22, 3) := by decide +kernel
theorem dX9_goOne_75 : decode cX9_goOne 75 = .ok (.iload_n 1, 1) := by decide +kernel
theorem dX9_goOne_76 : decode cX9_goOne 76 = .ok (.iaload, 1) := by decide +kernel
theorem dX9_goOne_77 : decode cX9_goOne 77 = .ok (.iastore, 1) := by decide +kernel
theorem dX9_goOne_78 : decode cX9_goOne 78 = .ok (.aload_n 0, 1) := by decide +kernel
theorem dX9_goOne_79 : decode cX9_goOne 79 = .ok (.getfield 34, 3) := by decide +kernel
theorem dX9_goOne_82 : decode cX9_goOne 82 = .ok (.iconst 2, 1) := by decide +kernel
theorem dX9_goOne_83 : decode cX9_goOne 83 = .ok (.iload_n 2, 1) := by decide +kernel
theorem dX9_goOne_84 : decode cX9_goOne 84 = .ok (.imul, 1) := by decide +kernel
theorem dX9_goOne_85 : decode cX9_goOne 85 = .ok (.iconst 1, 1) := by decide +kernel
theorem dX9_goOne_86 : decode cX9_goOne 86 = .ok (.iadd, 1) := by decide +kernel
theorem dX9_goOne_87 : decode cX9_goOne 87 = .ok (.aload_n 0, 1) := by decide +kernel
theorem dX9_goOne_88 : decode cX9_goOne 88 = .ok (.getfield 25, 3) := by decide +kernel
theorem dX9_goOne_91 : decode cX9_goOne 91 = .ok (.iload_n 1, 1) := by decide +kernel
theorem dX9_goOne_92 : decode cX9_goOne 92 = .ok (.iaload, 1) := by decide +kernel
theorem dX9_goOne_93 : decode cX9_goOne 93 = .ok (.iastore, 1) := by decide +kernel
theorem dX9_goOne_94 : decode cX9_goOne 94 = .ok (.aload_n 0, 1) := by decide +kernel
theorem dX9_goOne_95 : decode cX9_goOne 95 = .ok (.getfield 37, 3) := by decide +kernel
theorem dX9_goOne_98 : decode cX9_goOne 98 = .ok (.iload_n 2, 1) := by decide +kernel
theorem dX9_goOne_99 : decode cX9_goOne 99 = .ok (.iconst 1, 1) := by decide +kernel
theorem dX9_goOne_100 : decode cX9_goOne 100 = .ok (.bastore, 1) := by decide +kernel
theorem dX9_goOne_101 : decode cX9_goOne 101 = .ok (.aload_n 0, 1) := by decide +kernel
theorem dX9_goOne_102 : decode cX9_goOne 102 = .ok (.iload_n 2, 1) := by decide +kernel
theorem dX9_goOne_103 : decode cX9_goOne 103 = .ok (.iconst 1, 1) := by decide +kernel
theorem dX9_goOne_104 : decode cX9_goOne 104 = .ok (.iadd, 1) := by decide +kernel
theorem dX9_goOne_105 : decode cX9_goOne 105 = .ok (.putfield 136, 3) := by decide +kernel
theorem dX9_goOne_108 : decode cX9_goOne 108 = .ok (.goto 49, 3) := by decide +kernel
theorem dX9_goOne_111 : decode cX9_goOne 111 = .ok (.aload_n 0, 1) := by decide +kernel
theorem dX9_goOne_112 : decode cX9_goOne 112 = .ok (.getfield 31, 3) := by decide +kernel
theorem dX9_goOne_115 : decode cX9_goOne 115 = .ok (.iload_n 2, 1) := by decide +kernel
theorem dX9_goOne_116 : decode cX9_goOne 116 = .ok (.aload_n 0, 1) := by decide +kernel
theorem dX9_goOne_117 : decode cX9_goOne 117 = .ok (.getfield 16, 3) := by decide +kernel
theorem dX9_goOne_120 : decode cX9_goOne 120 = .ok (.iload_n 1, 1) := by decide +kernel
theorem dX9_goOne_121 : decode cX9_goOne 121 = .ok (.iaload, 1) := by decide +kernel
theorem dX9_goOne_122 : decode cX9_goOne 122 = .ok (.iastore, 1) := by decide +kernel
theorem dX9_goOne_123 : decode cX9_goOne 123 = .ok (.goto 34, 3) := by decide +kernel
theorem dX9_goOne_126 : decode cX9_goOne 126 = .ok (.aload_n 0, 1) := by decide +kernel
theorem dX9_goOne_127 : decode cX9_goOne 127 = .ok (.getfield 34, 3) := by decide +kernel
theorem dX9_goOne_130 : decode cX9_goOne 130 = .ok (.iconst 2, 1) := by decide +kernel
theorem dX9_goOne_131 : decode cX9_goOne 131 = .ok (.iload_n 2, 1) := by decide +kernel
theorem dX9_goOne_132 : decode cX9_goOne 132 = .ok (.imul, 1) := by decide +kernel
theorem dX9_goOne_133 : decode cX9_goOne 133 = .ok (.aload_n 0, 1) := by decide +kernel
theorem dX9_goOne_134 : decode cX9_goOne 134 = .ok (.getfield 16, 3) := by decide +kernel
theorem dX9_goOne_137 : decode cX9_goOne 137 = .ok (.iload_n 1, 1) := by decide +kernel
theorem dX9_goOne_138 : decode cX9_goOne 138 = .ok (.iaload, 1) := by decide +kernel
theorem dX9_goOne_139 : decode cX9_goOne 139 = .ok (.iadd, 1) := by decide +kernel
theorem dX9_goOne_140 : decode cX9_goOne 140 = .ok (.aload_n 0, 1) := by decide +kernel
theorem dX9_goOne_141 : decode cX9_goOne 141 = .ok (.getfield 19, 3) := by decide +kernel
theorem dX9_goOne_144 : decode cX9_goOne 144 = .ok (.iload_n 1, 1) := by decide +kernel
theorem dX9_goOne_145 : decode cX9_goOne 145 = .ok (.iaload, 1) := by decide +kernel
theorem dX9_goOne_146 : decode cX9_goOne 146 = .ok (.iastore, 1) := by decide +kernel
theorem dX9_goOne_147 : decode cX9_goOne 147 = .ok (.goto 10, 3) := by decide +kernel
theorem dX9_goOne_150 : decode cX9_goOne 150 = .ok (.aload_n 0, 1) := by decide +kernel
theorem dX9_goOne_151 : decode cX9_goOne 151 = .ok (.getfield 37, 3) := by decide +kernel
theorem dX9_goOne_154 : decode cX9_goOne 154 = .ok (.iload_n 2, 1) := by decide +kernel
theorem dX9_goOne_155 : decode cX9_goOne 155 = .ok (.iconst 0, 1) := by decide +kernel
theorem dX9_goOne_156 : decode cX9_goOne 156 = .ok (.bastore, 1) := by decide +kernel
theorem dX9_goOne_157 : decode cX9_goOne 157 = .ok (.return_, 1) := by decide +kernel
theorem dX9_goTo_0 : decode cX9_goTo 0 = .ok (.aload_n 0, 1) := by decide +kernel
theorem dX9_goTo_1 : decode cX9_goTo 1 = .ok (.iconst 0, 1) := by decide +kernel
theorem dX9_goTo_2 : decode cX9_goTo 2 = .ok (.putfield 136, 3) := by decide +kernel
theorem dX9_goTo_5 : decode cX9_goTo 5 = .ok (.iconst 0, 1) := by decide +kernel
theorem dX9_goTo_6 : decode cX9_goTo 6 = .ok (.istore_n 2, 1) := by decide +kernel
theorem dX9_goTo_7 : decode cX9_goTo 7 = .ok (.iload_n 2, 1) := by decide +kernel
theorem dX9_goTo_8 : decode cX9_goTo 8 = .ok (.iload_n 1, 1) := by decide +kernel
theorem dX9_goTo_9 : decode cX9_goTo 9 = .ok (.if_icmp .ge 14, 3) := by decide +kernel
theorem dX9_goTo_12 : decode cX9_goTo 12 = .ok (.aload_n 0, 1) := by decide +kernel
theorem dX9_goTo_13 : decode cX9_goTo 13 = .ok (.iload_n 2, 1) := by decide +kernel
theorem dX9_goTo_14 : decode cX9_goTo 14 = .ok (.invokevirtual 132, 3) := by decide +kernel
theorem dX9_goTo_17 : decode cX9_goTo 17 = .ok (.iinc 2 1, 3) := by decide +kernel
theorem dX9_goTo_20 : decode cX9_goTo 20 = .ok (.goto (-13), 3) := by decide +kernel
theorem dX9_goTo_23 : decode cX9_goTo 23 = .ok (.return_, 1) := by decide +kernel
theorem dX9_isRow_0 : decode cX9_isRow 0 = .ok (.iload_n 1, 1) := by decide +kernel
theorem dX9_isRow_1 : decode cX9_isRow 1 = .ok (.i2l, 1) := by decide +kernel
theorem dX9_isRow_2 : decode cX9_isRow 2 = .ok (.lconst 0, 1) := by decide +kernel
theorem dX9_isRow_3 : decode cX9_isRow 3 = .ok (.aload_n 0, 1) := by decide +kernel
theorem dX9_isRow_4 : decode cX9_isRow 4 = .ok (.getfield 136, 3) := by decide +kernel
theorem dX9_isRow_7 : decode cX9_isRow 7 = .ok (.i2l, 1) := by decide +kernel
theorem dX9_isRow_8 : decode cX9_isRow 8 = .ok (.lconst 1, 1) := by decide +kernel
theorem dX9_isRow_9 : decode cX9_isRow 9 = .ok (.lsub, 1) := by decide +kernel
theorem dX9_isRow_10 : decode cX9_isRow 10 = .ok (.invokestatic 139, 3) := by decide +kernel
theorem dX9_isRow_13 : decode cX9_isRow 13 = .ok (.ifCond .eq 16, 3) := by decide +kernel
theorem dX9_isRow_16 : decode cX9_isRow 16 = .ok (.aload_n 0, 1) := by decide +kernel
theorem dX9_isRow_17 : decode cX9_isRow 17 = .ok (.getfield 37, 3) := by decide +kernel
theorem dX9_isRow_20 : decode cX9_isRow 20 = .ok (.iload_n 1, 1) := by decide +kernel
theorem dX9_isRow_21 : decode cX9_isRow 21 = .ok (.baload, 1) := by decide +kernel
theorem dX9_isRow_22 : decode cX9_isRow 22 = .ok (.ifCond .eq 7, 3) := by decide +kernel
theorem dX9_isRow_25 : decode cX9_isRow 25 = .ok (.iconst 1, 1) := by decide +kernel
theorem dX9_isRow_26 : decode cX9_isRow 26 = .ok (.goto 4, 3) := by decide +kernel
theorem dX9_isRow_29 : decode cX9_isRow 29 = .ok (.iconst 0, 1) := by decide +kernel
theorem dX9_isRow_30 : decode cX9_isRow 30 = .ok (.ireturn, 1) := by decide +kernel
theorem dX9_isValue_0 : decode cX9_isValue 0 = .ok (.iload_n 0, 1) := by decide +kernel
theorem dX9_isValue_1 : decode cX9_isValue 1 = .ok (.i2l, 1) := by decide +kernel
theorem dX9_isValue_2 : decode cX9_isValue 2 = .ok (.ldc2_w 143, 3) := by decide +kernel
theorem dX9_isValue_5 : decode cX9_isValue 5 = .ok (.ldc2_w 145, 3) := by decide +kernel
theorem dX9_isValue_8 : decode cX9_isValue 8 = .ok (.invokestatic 139, 3) := by decide +kernel
theorem dX9_isValue_11 : decode cX9_isValue 11 = .ok (.ireturn, 1) := by decide +kernel
theorem dX9_row_0 : decode cX9_row 0 = .ok (.aload_n 0, 1) := by decide +kernel
theorem dX9_row_1 : decode cX9_row 1 = .ok (.iconst 0, 1) := by decide +kernel
theorem dX9_row_2 : decode cX9_row 2 = .ok (.putfield 123, 3) := by decide +kernel
theorem dX9_row_5 : decode cX9_row 5 = .ok (.iload_n 1, 1) := by decide +kernel
theorem dX9_row_6 : decode cX9_row 6 = .ok (.i2l, 1) := by decide +kernel
theorem dX9_row_7 : decode cX9_row 7 = .ok (.lconst 0, 1) := by decide +kernel
theorem dX9_row_8 : decode cX9_row 8 = .ok (.ldc2_w 147, 3) := by decide +kernel
theorem dX9_row_11 : decode cX9_row 11 = .ok (.invokestatic 139, 3) := by decide +kernel
theorem dX9_row_14 : decode cX9_row 14 = .ok (.ifCond .eq 10, 3) := by decide +kernel
theorem dX9_row_17 : decode cX9_row 17 = .ok (.iload_n 2, 1) := by decide +kernel
theorem dX9_row_18 : decode cX9_row 18 = .ok (.invokestatic 149, 3) := by decide +kernel
theorem dX9_row_21 : decode cX9_row 21 = .ok (.ifCond .ne 9, 3) := by decide +kernel
theorem dX9_row_24 : decode cX9_row 24 = .ok (.aload_n 0, 1) := by decide +kernel
theorem dX9_row_25 : decode cX9_row 25 = .ok (.iconst (-1), 1) := by decide +kernel
theorem dX9_row_26 : decode cX9_row 26 = .ok (.invokevirtual 153, 3) := by decide +kernel
theorem dX9_row_29 : decode cX9_row 29 = .ok (.ireturn, 1) := by decide +kernel
theorem dX9_row_30 : decode cX9_row 30 = .ok (.iload_n 3, 1) := by decide +kernel
theorem dX9_row_31 : decode cX9_row 31 = .ok (.iconst (-1), 1) := by decide +kernel
theorem dX9_row_32 : decode cX9_row 32 = .ok (.if_icmp .eq 11, 3) := by decide +kernel
theorem dX9_row_35 : decode cX9_row 35 = .ok (.aload_n 0, 1) := by decide +kernel
theorem dX9_row_36 : decode cX9_row 36 = .ok (.iload_n 3, 1) := by decide +kernel
theorem dX9_row_37 : decode cX9_row 37 = .ok (.invokevirtual 157, 3) := by decide +kernel
theorem dX9_row_40 : decode cX9_row 40 = .ok (.ifCond .eq 18, 3) := by decide +kernel
theorem dX9_row_43 : decode cX9_row 43 = .ok (.iload 4, 2) := by decide +kernel
theorem dX9_row_45 : decode cX9_row 45 = .ok (.iconst (-1), 1) := by decide +kernel
theorem dX9_row_46 : decode cX9_row 46 = .ok (.if_icmp .eq 19, 3) := by decide +kernel
theorem dX9_row_49 : decode cX9_row 49 = .ok (.aload_n 0, 1) := by decide +kernel
theorem dX9_row_50 : decode cX9_row 50 = .ok (.iload 4, 2) := by decide +kernel
theorem dX9_row_52 : decode cX9_row 52 = .ok (.invokevirtual 157, 3) := by decide +kernel
theorem dX9_row_55 : decode cX9_row 55 = .ok (.ifCond .ne 10, 3) := by decide +kernel
theorem dX9_row_58 : decode cX9_row 58 = .ok (.aload_n 0, 1) := by decide +kernel
theorem dX9_row_59 : decode cX9_row 59 = .ok (.bipush (-2), 2) := by decide +kernel
theorem dX9_row_61 : decode cX9_row 61 = .ok (.invokevirtual 153, 3) := by decide +kernel
theorem dX9_row_64 : decode cX9_row 64 = .ok (.ireturn, 1) := by decide +kernel
theorem dX9_row_65 : decode cX9_row 65 = .ok (.aload_n 0, 1) := by decide +kernel
theorem dX9_row_66 : decode cX9_row 66 = .ok (.getfield 136, 3) := by decide +kernel
theorem dX9_row_69 : decode cX9_row 69 = .ok (.bipush 60, 2) := by decide +kernel
theorem dX9_row_71 : decode cX9_row 71 = .ok (.if_icmp .eq 13, 3) := by decide +kernel
theorem dX9_row_74 : decode cX9_row 74 = .ok (.aload_n 0, 1) := by decide +kernel
theorem dX9_row_75 : decode cX9_row 75 = .ok (.getfield 129, 3) := by decide +kernel
theorem dX9_row_78 : decode cX9_row 78 = .ok (.sipush 300, 3) := by decide +kernel
theorem dX9_row_81 : decode cX9_row 81 = .ok (.if_icmp .ne 10, 3) := by decide +kernel
theorem dX9_row_84 : decode cX9_row 84 = .ok (.aload_n 0, 1) := by decide +kernel
theorem dX9_row_85 : decode cX9_row 85 = .ok (.bipush (-5), 2) := by decide +kernel
theorem dX9_row_87 : decode cX9_row 87 = .ok (.invokevirtual 153, 3) := by decide +kernel
theorem dX9_row_90 : decode cX9_row 90 = .ok (.ireturn, 1) := by decide +kernel
theorem dX9_row_91 : decode cX9_row 91 = .ok (.aload_n 0, 1) := by decide +kernel
theorem dX9_row_92 : decode cX9_row 92 = .ok (.iconst 0, 1) := by decide +kernel
theorem dX9_row_93 : decode cX9_row 93 = .ok (.aload_n 0, 1) := by decide +kernel
theorem dX9_row_94 : decode cX9_row 94 = .ok (.getfield 136, 3) := by decide +kernel
theorem dX9_row_97 : decode cX9_row 97 = .ok (.iload_n 1, 1) := by decide +kernel
theorem dX9_row_98 : decode cX9_row 98 = .ok (.iload_n 2, 1) := by decide +kernel
theorem dX9_row_99 : decode cX9_row 99 = .ok (.iload_n 3, 1) := by decide +kernel
theorem dX9_row_100 : decode cX9_row 100 = .ok (.iload 4, 2) := by decide +kernel
theorem dX9_row_102 : decode cX9_row 102 = .ok (.invokevirtual 160, 3) := by decide +kernel
theorem dX9_row_105 : decode cX9_row 105 = .ok (.aload_n 0, 1) := by decide +kernel
theorem dX9_row_106 : decode cX9_row 106 = .ok (.aload_n 0, 1) := by decide +kernel
theorem dX9_row_107 : decode cX9_row 107 = .ok (.getfield 136, 3) := by decide +kernel
theorem dX9_row_110 : decode cX9_row 110 = .ok (.iconst 1, 1) := by decide +kernel
theorem dX9_row_111 : decode cX9_row 111 = .ok (.isub, 1) := by decide +kernel
theorem dX9_row_112 : decode cX9_row 112 = .ok (.invokevirtual 153, 3) := by decide +kernel
theorem dX9_row_115 : decode cX9_row 115 = .ok (.ireturn, 1) := by decide +kernel
theorem dX9_value_0 : decode cX9_value 0 = .ok (.aload_n 0, 1) := by decide +kernel
theorem dX9_value_1 : decode cX9_value 1 = .ok (.iconst 0, 1) := by decide +kernel
theorem dX9_value_2 : decode cX9_value 2 = .ok (.putfield 123, 3) := by decide +kernel
theorem dX9_value_5 : decode cX9_value 5 = .ok (.iload_n 2, 1) := by decide +kernel
theorem dX9_value_6 : decode cX9_value 6 = .ok (.invokestatic 149, 3) := by decide +kernel
theorem dX9_value_9 : decode cX9_value 9 = .ok (.ifCond .ne 9, 3) := by decide +kernel
theorem dX9_value_12 : decode cX9_value 12 = .ok (.aload_n 0, 1) := by decide +kernel
theorem dX9_value_13 : decode cX9_value 13 = .ok (.iconst (-1), 1) := by decide +kernel
theorem dX9_value_14 : decode cX9_value 14 = .ok (.invokevirtual 153, 3) := by decide +kernel
theorem dX9_value_17 : decode cX9_value 17 = .ok (.ireturn, 1) := by decide +kernel
theorem dX9_value_18 : decode cX9_value 18 = .ok (.aload_n 0, 1) := by decide +kernel
theorem dX9_value_19 : decode cX9_value 19 = .ok (.iload_n 1, 1) := by decide +kernel
theorem dX9_value_20 : decode cX9_value 20 = .ok (.invokevirtual 157, 3) := by decide +kernel
theorem dX9_value_23 : decode cX9_value 23 = .ok (.ifCond .ne 10, 3) := by decide +kernel
theorem dX9_value_26 : decode cX9_value 26 = .ok (.aload_n 0, 1) := by decide +kernel
theorem dX9_value_27 : decode cX9_value 27 = .ok (.bipush (-2), 2) := by decide +kernel
theorem dX9_value_29 : decode cX9_value 29 = .ok (.invokevirtual 153, 3) := by decide +kernel
theorem dX9_value_32 : decode cX9_value 32 = .ok (.ireturn, 1) := by decide +kernel
theorem dX9_value_33 : decode cX9_value 33 = .ok (.aload_n 0, 1) := by decide +kernel
theorem dX9_value_34 : decode cX9_value 34 = .ok (.getfield 129, 3) := by decide +kernel
theorem dX9_value_37 : decode cX9_value 37 = .ok (.sipush 300, 3) := by decide +kernel
theorem dX9_value_40 : decode cX9_value 40 = .ok (.if_icmp .ne 10, 3) := by decide +kernel
theorem dX9_value_43 : decode cX9_value 43 = .ok (.aload_n 0, 1) := by decide +kernel
theorem dX9_value_44 : decode cX9_value 44 = .ok (.bipush (-5), 2) := by decide +kernel
theorem dX9_value_46 : decode cX9_value 46 = .ok (.invokevirtual 153, 3) := by decide +kernel
theorem dX9_value_49 : decode cX9_value 49 = .ok (.ireturn, 1) := by decide +kernel
theorem dX9_value_50 : decode cX9_value 50 = .ok (.aload_n 0, 1) := by decide +kernel
theorem dX9_value_51 : decode cX9_value 51 = .ok (.getfield 31, 3) := by decide +kernel
theorem dX9_value_54 : decode cX9_value 54 = .ok (.iload_n 1, 1) := by decide +kernel
theorem dX9_value_55 : decode cX9_value 55 = .ok (.iaload, 1) := by decide +kernel
theorem dX9_value_56 : decode cX9_value 56 = .ok (.istore_n 3, 1) := by decide +kernel
theorem dX9_value_57 : decode cX9_value 57 = .ok (.aload_n 0, 1) := by decide +kernel
theorem dX9_value_58 : decode cX9_value 58 = .ok (.iconst 1, 1) := by decide +kernel
theorem dX9_value_59 : decode cX9_value 59 = .ok (.iload_n 1, 1) := by decide +kernel
theorem dX9_value_60 : decode cX9_value 60 = .ok (.iload_n 2, 1) := by decide +kernel
theorem dX9_value_61 : decode cX9_value 61 = .ok (.iconst 0, 1) := by decide +kernel
theorem dX9_value_62 : decode cX9_value 62 = .ok (.iconst 0, 1) := by decide +kernel
theorem dX9_value_63 : decode cX9_value 63 = .ok (.iconst 0, 1) := by decide +kernel
theorem dX9_value_64 : decode cX9_value 64 = .ok (.invokevirtual 160, 3) := by decide +kernel
theorem dX9_value_67 : decode cX9_value 67 = .ok (.aload_n 0, 1) := by decide +kernel
theorem dX9_value_68 : decode cX9_value 68 = .ok (.iconst 0, 1) := by decide +kernel
theorem dX9_value_69 : decode cX9_value 69 = .ok (.putfield 126, 3) := by decide +kernel
theorem dX9_value_72 : decode cX9_value 72 = .ok (.iload_n 3, 1) := by decide +kernel
theorem dX9_value_73 : decode cX9_value 73 = .ok (.ireturn, 1) := by decide +kernel
theorem dX9_refer_0 : decode cX9_refer 0 = .ok (.aload_n 0, 1) := by decide +kernel
theorem dX9_refer_1 : decode cX9_refer 1 = .ok (.iconst 0, 1) := by decide +kernel
theorem dX9_refer_2 : decode cX9_refer 2 = .ok (.putfield 123, 3) := by decide +kernel
theorem dX9_refer_5 : decode cX9_refer 5 = .ok (.iload_n 2, 1) := by decide +kernel
theorem dX9_refer_6 : decode cX9_refer 6 = .ok (.i2l, 1) := by decide +kernel
theorem dX9_refer_7 : decode cX9_refer 7 = .ok (.lconst 0, 1) := by decide +kernel
theorem dX9_refer_8 : decode cX9_refer 8 = .ok (.lconst 1, 1) := by decide +kernel
theorem dX9_refer_9 : decode cX9_refer 9 = .ok (.invokestatic 139, 3) := by decide +kernel
theorem dX9_refer_12 : decode cX9_refer 12 = .ok (.ifCond .ne 9, 3) := by decide +kernel
theorem dX9_refer_15 : decode cX9_refer 15 = .ok (.aload_n 0, 1) := by decide +kernel
theorem dX9_refer_16 : decode cX9_refer 16 = .ok (.iconst (-1), 1) := by decide +kernel
theorem dX9_refer_17 : decode cX9_refer 17 = .ok (.invokevirtual 153, 3) := by decide +kernel
theorem dX9_refer_20 : decode cX9_refer 20 = .ok (.ireturn, 1) := by decide +kernel
theorem dX9_refer_21 : decode cX9_refer 21 = .ok (.aload_n 0, 1) := by decide +kernel
theorem dX9_refer_22 : decode cX9_refer 22 = .ok (.iload_n 1, 1) := by decide +kernel
theorem dX9_refer_23 : decode cX9_refer 23 = .ok (.invokevirtual 157, 3) := by decide +kernel
theorem dX9_refer_26 : decode cX9_refer 26 = .ok (.ifCond .eq 16, 3) := by decide +kernel
theorem dX9_refer_29 : decode cX9_refer 29 = .ok (.iload_n 3, 1) := by decide +kernel
theorem dX9_refer_30 : decode cX9_refer 30 = .ok (.iconst (-1), 1) := by decide +kernel
theorem dX9_refer_31 : decode cX9_refer 31 = .ok (.if_icmp .eq 18, 3) := by decide +kernel
theorem dX9_refer_34 : decode cX9_refer 34 = .ok (.aload_n 0, 1) := by decide +kernel
theorem dX9_refer_35 : decode cX9_refer 35 = .ok (.iload_n 3, 1) := by decide +kernel
theorem dX9_refer_36 : decode cX9_refer 36 = .ok (.invokevirtual 157, 3) := by decide +kernel
theorem dX9_refer_39 : decode cX9_refer 39 = .ok (.ifCond .ne 10, 3) := by decide +kernel
theorem dX9_refer_42 : decode cX9_refer 42 = .ok (.aload_n 0, 1) := by decide +kernel
theorem dX9_refer_43 : decode cX9_refer 43 = .ok (.bipush (-2), 2) := by decide +kernel
theorem dX9_refer_45 : decode cX9_refer 45 = .ok (.invokevirtual 153, 3) := by decide +kernel
theorem dX9_refer_48 : decode cX9_refer 48 = .ok (.ireturn, 1) := by decide +kernel
theorem dX9_refer_49 : decode cX9_refer 49 = .ok (.aload_n 0, 1) := by decide +kernel
theorem dX9_refer_50 : decode cX9_refer 50 = .ok (.getfield 129, 3) := by decide +kernel
theorem dX9_refer_53 : decode cX9_refer 53 = .ok (.sipush 300, 3) := by decide +kernel
theorem dX9_refer_56 : decode cX9_refer 56 = .ok (.if_icmp .ne 10, 3) := by decide +kernel
theorem dX9_refer_59 : decode cX9_refer 59 = .ok (.aload_n 0, 1) := by decide +kernel
theorem dX9_refer_60 : decode cX9_refer 60 = .ok (.bipush (-5), 2) := by decide +kernel
theorem dX9_refer_62 : decode cX9_refer 62 = .ok (.invokevirtual 153, 3) := by decide +kernel
theorem dX9_refer_65 : decode cX9_refer 65 = .ok (.ireturn, 1) := by decide +kernel
theorem dX9_refer_66 : decode cX9_refer 66 = .ok (.aload_n 0, 1) := by decide +kernel
theorem dX9_refer_67 : decode cX9_refer 67 = .ok (.iconst 2, 1) := by decide +kernel
theorem dX9_refer_68 : decode cX9_refer 68 = .ok (.iload_n 1, 1) := by decide +kernel
theorem dX9_refer_69 : decode cX9_refer 69 = .ok (.iload_n 2, 1) := by decide +kernel
theorem dX9_refer_70 : decode cX9_refer 70 = .ok (.iload_n 3, 1) := by decide +kernel
theorem dX9_refer_71 : decode cX9_refer 71 = .ok (.iconst 0, 1) := by decide +kernel
theorem dX9_refer_72 : decode cX9_refer 72 = .ok (.iconst 0, 1) := by decide +kernel
theorem dX9_refer_73 : decode cX9_refer 73 = .ok (.invokevirtual 160, 3) := by decide +kernel
theorem dX9_refer_76 : decode cX9_refer 76 = .ok (.aload_n 0, 1) := by decide +kernel
theorem dX9_refer_77 : decode cX9_refer 77 = .ok (.iconst 0, 1) := by decide +kernel
theorem dX9_refer_78 : decode cX9_refer 78 = .ok (.invokevirtual 153, 3) := by decide +kernel
theorem dX9_refer_81 : decode cX9_refer 81 = .ok (.ireturn, 1) := by decide +kernel
theorem dX9_go_0 : decode cX9_go 0 = .ok (.aload_n 0, 1) := by decide +kernel
theorem dX9_go_1 : decode cX9_go 1 = .ok (.iconst 0, 1) := by decide +kernel
theorem dX9_go_2 : decode cX9_go 2 = .ok (.putfield 123, 3) := by decide +kernel
theorem dX9_go_5 : decode cX9_go 5 = .ok (.aload_n 0, 1) := by decide +kernel
theorem dX9_go_6 : decode cX9_go 6 = .ok (.iload_n 1, 1) := by decide +kernel
theorem dX9_go_7 : decode cX9_go 7 = .ok (.invokevirtual 157, 3) := by decide +kernel
theorem dX9_go_10 : decode cX9_go 10 = .ok (.ifCond .ne 10, 3) := by decide +kernel
theorem dX9_go_13 : decode cX9_go 13 = .ok (.aload_n 0, 1) := by decide +kernel
theorem dX9_go_14 : decode cX9_go 14 = .ok (.bipush (-2), 2) := by decide +kernel
theorem dX9_go_16 : decode cX9_go 16 = .ok (.invokevirtual 153, 3) := by decide +kernel
theorem dX9_go_19 : decode cX9_go 19 = .ok (.ireturn, 1) := by decide +kernel
theorem dX9_go_20 : decode cX9_go 20 = .ok (.aload_n 0, 1) := by decide +kernel
theorem dX9_go_21 : decode cX9_go 21 = .ok (.getfield 129, 3) := by decide +kernel
theorem dX9_go_24 : decode cX9_go 24 = .ok (.sipush 300, 3) := by decide +kernel
theorem dX9_go_27 : decode cX9_go 27 = .ok (.if_icmp .ne 10, 3) := by decide +kernel
theorem dX9_go_30 : decode cX9_go 30 = .ok (.aload_n 0, 1) := by decide +kernel
theorem dX9_go_31 : decode cX9_go 31 = .ok (.bipush (-5), 2) := by decide +kernel
theorem dX9_go_33 : decode cX9_go 33 = .ok (.invokevirtual 153, 3) := by decide +kernel
theorem dX9_go_36 : decode cX9_go 36 = .ok (.ireturn, 1) := by decide +kernel
theorem dX9_go_37 : decode cX9_go 37 = .ok (.aload_n 0, 1) := by decide +kernel
theorem dX9_go_38 : decode cX9_go 38 = .ok (.iconst 3, 1) := by decide +kernel
theorem dX9_go_39 : decode cX9_go 39 = .ok (.iload_n 1, 1) := by decide +kernel
theorem dX9_go_40 : decode cX9_go 40 = .ok (.iconst 0, 1) := by decide +kernel
theorem dX9_go_41 : decode cX9_go 41 = .ok (.iconst 0, 1) := by decide +kernel
theorem dX9_go_42 : decode cX9_go 42 = .ok (.iconst 0, 1) := by decide +kernel
theorem dX9_go_43 : decode cX9_go 43 = .ok (.iconst 0, 1) := by decide +kernel
theorem dX9_go_44 : decode cX9_go 44 = .ok (.invokevirtual 160, 3) := by decide +kernel
theorem dX9_go_47 : decode cX9_go 47 = .ok (.aload_n 0, 1) := by decide +kernel
theorem dX9_go_48 : decode cX9_go 48 = .ok (.iconst 0, 1) := by decide +kernel
theorem dX9_go_49 : decode cX9_go 49 = .ok (.invokevirtual 153, 3) := by decide +kernel
theorem dX9_go_52 : decode cX9_go 52 = .ok (.ireturn, 1) := by decide +kernel
theorem dX9_of_0 : decode cX9_of 0 = .ok (.aload_n 0, 1) := by decide +kernel
theorem dX9_of_1 : decode cX9_of 1 = .ok (.iconst 0, 1) := by decide +kernel
theorem dX9_of_2 : decode cX9_of 2 = .ok (.putfield 123, 3) := by decide +kernel
theorem dX9_of_5 : decode cX9_of 5 = .ok (.iload_n 1, 1) := by decide +kernel
theorem dX9_of_6 : decode cX9_of 6 = .ok (.i2l, 1) := by decide +kernel
theorem dX9_of_7 : decode cX9_of 7 = .ok (.lconst 0, 1) := by decide +kernel
theorem dX9_of_8 : decode cX9_of 8 = .ok (.aload_n 0, 1) := by decide +kernel
theorem dX9_of_9 : decode cX9_of 9 = .ok (.getfield 136, 3) := by decide +kernel
theorem dX9_of_12 : decode cX9_of 12 = .ok (.i2l, 1) := by decide +kernel
theorem dX9_of_13 : decode cX9_of 13 = .ok (.lconst 1, 1) := by decide +kernel
theorem dX9_of_14 : decode cX9_of 14 = .ok (.lsub, 1) := by decide +kernel
theorem dX9_of_15 : decode cX9_of 15 = .ok (.invokestatic 139, 3) := by decide +kernel
theorem dX9_of_18 : decode cX9_of 18 = .ok (.ifCond .ne 7, 3) := by decide +kernel
theorem dX9_of_21 : decode cX9_of 21 = .ok (.sipush (-5000), 3) := by decide +kernel
theorem dX9_of_24 : decode cX9_of 24 = .ok (.ireturn, 1) := by decide +kernel
theorem dX9_of_25 : decode cX9_of 25 = .ok (.iload_n 2, 1) := by decide +kernel
theorem dX9_of_26 : decode cX9_of 26 = .ok (.tableswitch 83 0 4 #[34, 41, 48, 57, 68], 34) := by decide +kernel
theorem dX9_of_60 : decode cX9_of 60 = .ok (.aload_n 0, 1) := by decide +kernel
theorem dX9_of_61 : decode cX9_of 61 = .ok (.getfield 28, 3) := by decide +kernel
theorem dX9_of_64 : decode cX9_of 64 = .ok (.iload_n 1, 1) := by decide +kernel
theorem dX9_of_65 : decode cX9_of 65 = .ok (.iaload, 1) := by decide +kernel
theorem dX9_of_66 : decode cX9_of 66 = .ok (.ireturn, 1) := by decide +kernel
theorem dX9_of_67 : decode cX9_of 67 = .ok (.aload_n 0, 1) := by decide +kernel
theorem dX9_of_68 : decode cX9_of 68 = .ok (.getfield 31, 3) := by decide +kernel
theorem dX9_of_71 : decode cX9_of 71 = .ok (.iload_n 1, 1) := by decide +kernel
theorem dX9_of_72 : decode cX9_of 72 = .ok (.iaload, 1) := by decide +kernel
theorem dX9_of_73 : decode cX9_of 73 = .ok (.ireturn, 1) := by decide +kernel
theorem dX9_of_74 : decode cX9_of 74 = .ok (.aload_n 0, 1) := by decide +kernel
theorem dX9_of_75 : decode cX9_of 75 = .ok (.getfield 34, 3) := by decide +kernel
theorem dX9_of_78 : decode cX9_of 78 = .ok (.iconst 2, 1) := by decide +kernel
theorem dX9_of_79 : decode cX9_of 79 = .ok (.iload_n 1, 1) := by decide +kernel
theorem dX9_of_80 : decode cX9_of 80 = .ok (.imul, 1) := by decide +kernel
theorem dX9_of_81 : decode cX9_of 81 = .ok (.iaload, 1) := by decide +kernel
theorem dX9_of_82 : decode cX9_of 82 = .ok (.ireturn, 1) := by decide +kernel
theorem dX9_of_83 : decode cX9_of 83 = .ok (.aload_n 0, 1) := by decide +kernel
theorem dX9_of_84 : decode cX9_of 84 = .ok (.getfield 34, 3) := by decide +kernel
theorem dX9_of_87 : decode cX9_of 87 = .ok (.iconst 2, 1) := by decide +kernel
theorem dX9_of_88 : decode cX9_of 88 = .ok (.iload_n 1, 1) := by decide +kernel
theorem dX9_of_89 : decode cX9_of 89 = .ok (.imul, 1) := by decide +kernel
theorem dX9_of_90 : decode cX9_of 90 = .ok (.iconst 1, 1) := by decide +kernel
theorem dX9_of_91 : decode cX9_of 91 = .ok (.iadd, 1) := by decide +kernel
theorem dX9_of_92 : decode cX9_of 92 = .ok (.iaload, 1) := by decide +kernel
theorem dX9_of_93 : decode cX9_of 93 = .ok (.ireturn, 1) := by decide +kernel
theorem dX9_of_94 : decode cX9_of 94 = .ok (.aload_n 0, 1) := by decide +kernel
theorem dX9_of_95 : decode cX9_of 95 = .ok (.getfield 37, 3) := by decide +kernel
theorem dX9_of_98 : decode cX9_of 98 = .ok (.iload_n 1, 1) := by decide +kernel
theorem dX9_of_99 : decode cX9_of 99 = .ok (.baload, 1) := by decide +kernel
theorem dX9_of_100 : decode cX9_of 100 = .ok (.ifCond .eq 7, 3) := by decide +kernel
theorem dX9_of_103 : decode cX9_of 103 = .ok (.iconst 1, 1) := by decide +kernel
theorem dX9_of_104 : decode cX9_of 104 = .ok (.goto 4, 3) := by decide +kernel
theorem dX9_of_107 : decode cX9_of 107 = .ok (.iconst 0, 1) := by decide +kernel
theorem dX9_of_108 : decode cX9_of 108 = .ok (.ireturn, 1) := by decide +kernel
theorem dX9_of_109 : decode cX9_of 109 = .ok (.sipush (-5000), 3) := by decide +kernel
theorem dX9_of_112 : decode cX9_of 112 = .ok (.ireturn, 1) := by decide +kernel
theorem dX9_four_0 : decode cX9_four 0 = .ok (.bipush 24, 2) := by decide +kernel
theorem dX9_four_2 : decode cX9_four 2 = .ok (.istore_n 2, 1) := by decide +kernel
theorem dX9_four_3 : decode cX9_four 3 = .ok (.iload_n 2, 1) := by decide +kernel
theorem dX9_four_4 : decode cX9_four 4 = .ok (.ifCond .lt 35, 3) := by decide +kernel
theorem dX9_four_7 : decode cX9_four 7 = .ok (.aload_n 0, 1) := by decide +kernel
theorem dX9_four_8 : decode cX9_four 8 = .ok (.getfield 83, 3) := by decide +kernel
theorem dX9_four_11 : decode cX9_four 11 = .ok (.aload_n 0, 1) := by decide +kernel
theorem dX9_four_12 : decode cX9_four 12 = .ok (.getfield 164, 3) := by decide +kernel
theorem dX9_four_15 : decode cX9_four 15 = .ok (.iload_n 1, 1) := by decide +kernel
theorem dX9_four_16 : decode cX9_four 16 = .ok (.iload_n 2, 1) := by decide +kernel
theorem dX9_four_17 : decode cX9_four 17 = .ok (.ishr, 1) := by decide +kernel
theorem dX9_four_18 : decode cX9_four 18 = .ok (.sipush 255, 3) := by decide +kernel
theorem dX9_four_21 : decode cX9_four 21 = .ok (.iand, 1) := by decide +kernel
theorem dX9_four_22 : decode cX9_four 22 = .ok (.iastore, 1) := by decide +kernel
theorem dX9_four_23 : decode cX9_four 23 = .ok (.aload_n 0, 1) := by decide +kernel
theorem dX9_four_24 : decode cX9_four 24 = .ok (.dup, 1) := by decide +kernel
theorem dX9_four_25 : decode cX9_four 25 = .ok (.getfield 164, 3) := by decide +kernel
theorem dX9_four_28 : decode cX9_four 28 = .ok (.iconst 1, 1) := by decide +kernel
theorem dX9_four_29 : decode cX9_four 29 = .ok (.iadd, 1) := by decide +kernel
theorem dX9_four_30 : decode cX9_four 30 = .ok (.putfield 164, 3) := by decide +kernel
theorem dX9_four_33 : decode cX9_four 33 = .ok (.iinc 2 (-8), 3) := by decide +kernel
theorem dX9_four_36 : decode cX9_four 36 = .ok (.goto (-33), 3) := by decide +kernel
theorem dX9_four_39 : decode cX9_four 39 = .ok (.return_, 1) := by decide +kernel
theorem dX9_feed_0 : decode cX9_feed 0 = .ok (.aload_n 0, 1) := by decide +kernel
theorem dX9_feed_1 : decode cX9_feed 1 = .ok (.iconst 0, 1) := by decide +kernel
theorem dX9_feed_2 : decode cX9_feed 2 = .ok (.putfield 123, 3) := by decide +kernel
theorem dX9_feed_5 : decode cX9_feed 5 = .ok (.aload_n 0, 1) := by decide +kernel
theorem dX9_feed_6 : decode cX9_feed 6 = .ok (.getfield 164, 3) := by decide +kernel
theorem dX9_feed_9 : decode cX9_feed 9 = .ok (.bipush 20, 2) := by decide +kernel
theorem dX9_feed_11 : decode cX9_feed 11 = .ok (.iadd, 1) := by decide +kernel
theorem dX9_feed_12 : decode cX9_feed 12 = .ok (.sipush 200, 3) := by decide +kernel
theorem dX9_feed_15 : decode cX9_feed 15 = .ok (.if_icmp .le 5, 3) := by decide +kernel
theorem dX9_feed_18 : decode cX9_feed 18 = .ok (.iconst (-1), 1) := by decide +kernel
theorem dX9_feed_19 : decode cX9_feed 19 = .ok (.ireturn, 1) := by decide +kernel
theorem dX9_feed_20 : decode cX9_feed 20 = .ok (.aload_n 0, 1) := by decide +kernel
theorem dX9_feed_21 : decode cX9_feed 21 = .ok (.iload_n 1, 1) := by decide +kernel
theorem dX9_feed_22 : decode cX9_feed 22 = .ok (.invokevirtual 167, 3) := by decide +kernel
theorem dX9_feed_25 : decode cX9_feed 25 = .ok (.aload_n 0, 1) := by decide +kernel
theorem dX9_feed_26 : decode cX9_feed 26 = .ok (.iload_n 2, 1) := by decide +kernel
theorem dX9_feed_27 : decode cX9_feed 27 = .ok (.invokevirtual 167, 3) := by decide +kernel
theorem dX9_feed_30 : decode cX9_feed 30 = .ok (.aload_n 0, 1) := by decide +kernel
theorem dX9_feed_31 : decode cX9_feed 31 = .ok (.iload_n 3, 1) := by decide +kernel
theorem dX9_feed_32 : decode cX9_feed 32 = .ok (.invokevirtual 167, 3) := by decide +kernel
theorem dX9_feed_35 : decode cX9_feed 35 = .ok (.aload_n 0, 1) := by decide +kernel
theorem dX9_feed_36 : decode cX9_feed 36 = .ok (.iload 4, 2) := by decide +kernel
theorem dX9_feed_38 : decode cX9_feed 38 = .ok (.invokevirtual 167, 3) := by decide +kernel
theorem dX9_feed_41 : decode cX9_feed 41 = .ok (.aload_n 0, 1) := by decide +kernel
theorem dX9_feed_42 : decode cX9_feed 42 = .ok (.iload 5, 2) := by decide +kernel
theorem dX9_feed_44 : decode cX9_feed 44 = .ok (.invokevirtual 167, 3) := by decide +kernel
theorem dX9_feed_47 : decode cX9_feed 47 = .ok (.aload_n 0, 1) := by decide +kernel
theorem dX9_feed_48 : decode cX9_feed 48 = .ok (.getfield 164, 3) := by decide +kernel
theorem dX9_feed_51 : decode cX9_feed 51 = .ok (.ireturn, 1) := by decide +kernel
theorem dX9_end_0 : decode cX9_end 0 = .ok (.aload_n 0, 1) := by decide +kernel
theorem dX9_end_1 : decode cX9_end 1 = .ok (.iconst 0, 1) := by decide +kernel
theorem dX9_end_2 : decode cX9_end 2 = .ok (.putfield 123, 3) := by decide +kernel
theorem dX9_end_5 : decode cX9_end 5 = .ok (.iload_n 1, 1) := by decide +kernel
theorem dX9_end_6 : decode cX9_end 6 = .ok (.ifCond .lt 11, 3) := by decide +kernel
theorem dX9_end_9 : decode cX9_end 9 = .ok (.iload_n 1, 1) := by decide +kernel
theorem dX9_end_10 : decode cX9_end 10 = .ok (.aload_n 0, 1) := by decide +kernel
theorem dX9_end_11 : decode cX9_end 11 = .ok (.getfield 164, 3) := by decide +kernel
theorem dX9_end_14 : decode cX9_end 14 = .ok (.if_icmp .le 5, 3) := by decide +kernel
theorem dX9_end_17 : decode cX9_end 17 = .ok (.iconst (-1), 1) := by decide +kernel
theorem dX9_end_18 : decode cX9_end 18 = .ok (.ireturn, 1) := by decide +kernel
theorem dX9_end_19 : decode cX9_end 19 = .ok (.aload_n 0, 1) := by decide +kernel
theorem dX9_end_20 : decode cX9_end 20 = .ok (.iload_n 1, 1) := by decide +kernel
theorem dX9_end_21 : decode cX9_end 21 = .ok (.putfield 164, 3) := by decide +kernel
theorem dX9_end_24 : decode cX9_end 24 = .ok (.iload_n 1, 1) := by decide +kernel
theorem dX9_end_25 : decode cX9_end 25 = .ok (.ireturn, 1) := by decide +kernel
theorem dX9_isSmall_0 : decode cX9_isSmall 0 = .ok (.iload_n 0, 1) := by decide +kernel
theorem dX9_isSmall_1 : decode cX9_isSmall 1 = .ok (.bipush 97, 2) := by decide +kernel
theorem dX9_isSmall_3 : decode cX9_isSmall 3 = .ok (.if_icmp .lt 13, 3) := by decide +kernel
theorem dX9_isSmall_6 : decode cX9_isSmall 6 = .ok (.iload_n 0, 1) := by decide +kernel
theorem dX9_isSmall_7 : decode cX9_isSmall 7 = .ok (.bipush 122, 2) := by decide +kernel
theorem dX9_isSmall_9 : decode cX9_isSmall 9 = .ok (.if_icmp .gt 7, 3) := by decide +kernel
theorem dX9_isSmall_12 : decode cX9_isSmall 12 = .ok (.iconst 1, 1) := by decide +kernel
theorem dX9_isSmall_13 : decode cX9_isSmall 13 = .ok (.goto 4, 3) := by decide +kernel
theorem dX9_isSmall_16 : decode cX9_isSmall 16 = .ok (.iconst 0, 1) := by decide +kernel
theorem dX9_isSmall_17 : decode cX9_isSmall 17 = .ok (.ireturn, 1) := by decide +kernel
theorem dX9_isDigit_0 : decode cX9_isDigit 0 = .ok (.iload_n 0, 1) := by decide +kernel
theorem dX9_isDigit_1 : decode cX9_isDigit 1 = .ok (.bipush 48, 2) := by decide +kernel
theorem dX9_isDigit_3 : decode cX9_isDigit 3 = .ok (.if_icmp .lt 13, 3) := by decide +kernel
theorem dX9_isDigit_6 : decode cX9_isDigit 6 = .ok (.iload_n 0, 1) := by decide +kernel
theorem dX9_isDigit_7 : decode cX9_isDigit 7 = .ok (.bipush 57, 2) := by decide +kernel
theorem dX9_isDigit_9 : decode cX9_isDigit 9 = .ok (.if_icmp .gt 7, 3) := by decide +kernel
theorem dX9_isDigit_12 : decode cX9_isDigit 12 = .ok (.iconst 1, 1) := by decide +kernel
theorem dX9_isDigit_13 : decode cX9_isDigit 13 = .ok (.goto 4, 3) := by decide +kernel
theorem dX9_isDigit_16 : decode cX9_isDigit 16 = .ok (.iconst 0, 1) := by decide +kernel
theorem dX9_isDigit_17 : decode cX9_isDigit 17 = .ok (.ireturn, 1) := by decide +kernel
theorem dX9_next_0 : decode cX9_next 0 = .ok (.aload_n 0, 1) := by decide +kernel
theorem dX9_next_1 : decode cX9_next 1 = .ok (.aload_n 0, 1) := by decide +kernel
theorem dX9_next_2 : decode cX9_next 2 = .ok (.getfield 170, 3) := by decide +kernel
theorem dX9_next_5 : decode cX9_next 5 = .ok (.putfield 173, 3) := by decide +kernel
theorem dX9_next_8 : decode cX9_next 8 = .ok (.aload_n 0, 1) := by decide +kernel
theorem dX9_next_9 : decode cX9_next 9 = .ok (.getfield 173, 3) := by decide +kernel
theorem dX9_next_12 : decode cX9_next 12 = .ok (.aload_n 0, 1) := by decide +kernel
theorem dX9_next_13 : decode cX9_next 13 = .ok (.getfield 164, 3) := by decide +kernel
theorem dX9_next_16 : decode cX9_next 16 = .ok (.if_icmp .ge 30, 3) := by decide +kernel
theorem dX9_next_19 : decode cX9_next 19 = .ok (.aload_n 0, 1) := by decide +kernel
theorem dX9_next_20 : decode cX9_next 20 = .ok (.getfield 83, 3) := by decide +kernel
theorem dX9_next_23 : decode cX9_next 23 = .ok (.aload_n 0, 1) := by decide +kernel
theorem dX9_next_24 : decode cX9_next 24 = .ok (.getfield 173, 3) := by decide +kernel
theorem dX9_next_27 : decode cX9_next 27 = .ok (.iaload, 1) := by decide +kernel
theorem dX9_next_28 : decode cX9_next 28 = .ok (.bipush 32, 2) := by decide +kernel
theorem dX9_next_30 : decode cX9_next 30 = .ok (.if_icmp .ne 16, 3) := by decide +kernel
theorem dX9_next_33 : decode cX9_next 33 = .ok (.aload_n 0, 1) := by decide +kernel
theorem dX9_next_34 : decode cX9_next 34 = .ok (.dup, 1) := by decide +kernel
theorem dX9_next_35 : decode cX9_next 35 = .ok (.getfield 173, 3) := by decide +kernel
theorem dX9_next_38 : decode cX9_next 38 = .ok (.iconst 1, 1) := by decide +kernel
theorem dX9_next_39 : decode cX9_next 39 = .ok (.iadd, 1) := by decide +kernel
theorem dX9_next_40 : decode cX9_next 40 = .ok (.putfield 173, 3) := by decide +kernel
theorem dX9_next_43 : decode cX9_next 43 = .ok (.goto (-35), 3) := by decide +kernel
theorem dX9_next_46 : decode cX9_next 46 = .ok (.aload_n 0, 1) := by decide +kernel
theorem dX9_next_47 : decode cX9_next 47 = .ok (.aload_n 0, 1) := by decide +kernel
theorem dX9_next_48 : decode cX9_next 48 = .ok (.getfield 173, 3) := by decide +kernel
theorem dX9_next_51 : decode cX9_next 51 = .ok (.putfield 170, 3) := by decide +kernel
theorem dX9_next_54 : decode cX9_next 54 = .ok (.aload_n 0, 1) := by decide +kernel
theorem dX9_next_55 : decode cX9_next 55 = .ok (.lconst 0, 1) := by decide +kernel
theorem dX9_next_56 : decode cX9_next 56 = .ok (.putfield 176, 3) := by decide +kernel
theorem dX9_next_59 : decode cX9_next 59 = .ok (.aload_n 0, 1) := by decide +kernel
theorem dX9_next_60 : decode cX9_next 60 = .ok (.aload_n 0, 1) := by decide +kernel
theorem dX9_next_61 : decode cX9_next 61 = .ok (.getfield 173, 3) := by decide +kernel
theorem dX9_next_64 : decode cX9_next 64 = .ok (.aload_n 0, 1) := by decide +kernel
theorem dX9_next_65 : decode cX9_next 65 = .ok (.getfield 164, 3) := by decide +kernel
theorem dX9_next_68 : decode cX9_next 68 = .ok (.if_icmp .ne 7, 3) := by decide +kernel
theorem dX9_next_71 : decode cX9_next 71 = .ok (.iconst 0, 1) := by decide +kernel
theorem dX9_next_72 : decode cX9_next 72 = .ok (.goto 42, 3) := by decide +kernel
theorem dX9_next_75 : decode cX9_next 75 = .ok (.aload_n 0, 1) := by decide +kernel
theorem dX9_next_76 : decode cX9_next 76 = .ok (.getfield 83, 3) := by decide +kernel
theorem dX9_next_79 : decode cX9_next 79 = .ok (.aload_n 0, 1) := by decide +kernel
theorem dX9_next_80 : decode cX9_next 80 = .ok (.getfield 173, 3) := by decide +kernel
theorem dX9_next_83 : decode cX9_next 83 = .ok (.iaload, 1) := by decide +kernel
theorem dX9_next_84 : decode cX9_next 84 = .ok (.invokestatic 180, 3) := by decide +kernel
theorem dX9_next_87 : decode cX9_next 87 = .ok (.ifCond .eq 7, 3) := by decide +kernel
theorem dX9_next_90 : decode cX9_next 90 = .ok (.iconst 1, 1) := by decide +kernel
theorem dX9_next_91 : decode cX9_next 91 = .ok (.goto 23, 3) := by decide +kernel
theorem dX9_next_94 : decode cX9_next 94 = .ok (.aload_n 0, 1) := by decide +kernel
theorem dX9_next_95 : decode cX9_next 95 = .ok (.getfield 83, 3) := by decide +kernel
theorem dX9_next_98 : decode cX9_next 98 = .ok (.aload_n 0, 1) := by decide +kernel
theorem dX9_next_99 : decode cX9_next 99 = .ok (.getfield 173, 3) := by decide +kernel
theorem dX9_next_102 : decode cX9_next 102 = .ok (.iaload, 1) := by decide +kernel
theorem dX9_next_103 : decode cX9_next 103 = .ok (.invokestatic 183, 3) := by decide +kernel
theorem dX9_next_106 : decode cX9_next 106 = .ok (.ifCond .eq 7, 3) := by decide +kernel
theorem dX9_next_109 : decode cX9_next 109 = .ok (.iconst 2, 1) := by decide +kernel
theorem dX9_next_110 : decode cX9_next 110 = .ok (.goto 4, 3) := by decide +kernel
theorem dX9_next_113 : decode cX9_next 113 = .ok (.iconst 3, 1) := by decide +kernel
theorem dX9_next_114 : decode cX9_next 114 = .ok (.putfield 186, 3) := by decide +kernel
theorem dX9_next_117 : decode cX9_next 117 = .ok (.aload_n 0, 1) := by decide +kernel
theorem dX9_next_118 : decode cX9_next 118 = .ok (.getfield 186, 3) := by decide +kernel
theorem dX9_next_121 : decode cX9_next 121 = .ok (.iconst 3, 1) := by decide +kernel
theorem dX9_next_122 : decode cX9_next 122 = .ok (.if_icmp .ne 27, 3) := by decide +kernel
theorem dX9_next_125 : decode cX9_next 125 = .ok (.aload_n 0, 1) := by decide +kernel
theorem dX9_next_126 : decode cX9_next 126 = .ok (.aload_n 0, 1) := by decide +kernel
theorem dX9_next_127 : decode cX9_next 127 = .ok (.getfield 83, 3) := by decide +kernel
theorem dX9_next_130 : decode cX9_next 130 = .ok (.aload_n 0, 1) := by decide +kernel
theorem dX9_next_131 : decode cX9_next 131 = .ok (.getfield 173, 3) := by decide +kernel
theorem dX9_next_134 : decode cX9_next 134 = .ok (.iaload, 1) := by decide +kernel
theorem dX9_next_135 : decode cX9_next 135 = .ok (.i2l, 1) := by decide +kernel
theorem dX9_next_136 : decode cX9_next 136 = .ok (.putfield 176, 3) := by decide +kernel
theorem dX9_next_139 : decode cX9_next 139 = .ok (.aload_n 0, 1) := by decide +kernel
theorem dX9_next_140 : decode cX9_next 140 = .ok (.dup, 1) := by decide +kernel
theorem dX9_next_141 : decode cX9_next 141 = .ok (.getfield 170, 3) := by decide +kernel
theorem dX9_next_144 : decode cX9_next 144 = .ok (.iconst 1, 1) := by decide +kernel
theorem dX9_next_145 : decode cX9_next 145 = .ok (.iadd, 1) := by decide +kernel
theorem dX9_next_146 : decode cX9_next 146 = .ok (.putfield 170, 3) := by decide +kernel
theorem dX9_next_149 : decode cX9_next 149 = .ok (.aload_n 0, 1) := by decide +kernel
theorem dX9_next_150 : decode cX9_next 150 = .ok (.getfield 186, 3) := by decide +kernel
theorem dX9_next_153 : decode cX9_next 153 = .ok (.iconst 1, 1) := by decide +kernel
theorem dX9_next_154 : decode cX9_next 154 = .ok (.if_icmp .ne 88, 3) := by decide +kernel
theorem dX9_next_157 : decode cX9_next 157 = .ok (.aload_n 0, 1) := by decide +kernel
theorem dX9_next_158 : decode cX9_next 158 = .ok (.getfield 170, 3) := by decide +kernel
theorem dX9_next_161 : decode cX9_next 161 = .ok (.aload_n 0, 1) := by decide +kernel
theorem dX9_next_162 : decode cX9_next 162 = .ok (.getfield 164, 3) := by decide +kernel
theorem dX9_next_165 : decode cX9_next 165 = .ok (.if_icmp .ge 77, 3) := by decide +kernel
theorem dX9_next_168 : decode cX9_next 168 = .ok (.aload_n 0, 1) := by decide +kernel
theorem dX9_next_169 : decode cX9_next 169 = .ok (.getfield 83, 3) := by decide +kernel
theorem dX9_next_172 : decode cX9_next 172 = .ok (.aload_n 0, 1) := by decide +kernel
theorem dX9_next_173 : decode cX9_next 173 = .ok (.getfield 170, 3) := by decide +kernel
theorem dX9_next_176 : decode cX9_next 176 = .ok (.iaload, 1) := by decide +kernel
theorem dX9_next_177 : decode cX9_next 177 = .ok (.invokestatic 180, 3) := by decide +kernel
theorem dX9_next_180 : decode cX9_next 180 = .ok (.ifCond .eq 62, 3) := by decide +kernel
theorem dX9_next_183 : decode cX9_next 183 = .ok (.aload_n 0, 1) := by decide +kernel
theorem dX9_next_184 : decode cX9_next 184 = .ok (.aload_n 0, 1) := by decide +kernel
theorem dX9_next_185 : decode cX9_next 185 = .ok (.getfield 170, 3) := by decide +kernel
theorem dX9_next_188 : decode cX9_next 188 = .ok (.aload_n 0, 1) := by decide +kernel
theorem dX9_next_189 : decode cX9_next 189 = .ok (.getfield 173, 3) := by decide +kernel
theorem dX9_next_192 : decode cX9_next 192 = .ok (.isub, 1) := by decide +kernel
theorem dX9_next_193 : decode cX9_next 193 = .ok (.iconst 5, 1) := by decide +kernel
theorem dX9_next_194 : decode cX9_next 194 = .ok (.if_icmp .ge 29, 3) := by decide +kernel
theorem dX9_next_197 : decode cX9_next 197 = .ok (.aload_n 0, 1) := by decide +kernel
theorem dX9_next_198 : decode cX9_next 198 = .ok (.getfield 176, 3) := by decide +kernel
theorem dX9_next_201 : decode cX9_next 201 = .ok (.ldc2_w 189, 3) := by decide +kernel
theorem dX9_next_204 : decode cX9_next 204 = .ok (.lmul, 1) := by decide +kernel
theorem dX9_next_205 : decode cX9_next 205 = .ok (.aload_n 0, 1) := by decide +kernel
theorem dX9_next_206 : decode cX9_next 206 = .ok (.getfield 83, 3) := by decide +kernel
theorem dX9_next_209 : decode cX9_next 209 = .ok (.aload_n 0, 1) := by decide +kernel
theorem dX9_next_210 : decode cX9_next 210 = .ok (.getfield 170, 3) := by decide +kernel
theorem dX9_next_213 : decode cX9_next 213 = .ok (.iaload, 1) := by decide +kernel
theorem dX9_next_214 : decode cX9_next 214 = .ok (.i2l, 1) := by decide +kernel
theorem dX9_next_215 : decode cX9_next 215 = .ok (.ladd, 1) := by decide +kernel
theorem dX9_next_216 : decode cX9_next 216 = .ok (.ldc2_w 191, 3) := by decide +kernel
theorem dX9_next_219 : decode cX9_next 219 = .ok (.lsub, 1) := by decide +kernel
theorem dX9_next_220 : decode cX9_next 220 = .ok (.goto 6, 3) := by decide +kernel
theorem dX9_next_223 : decode cX9_next 223 = .ok (.ldc2_w 193, 3) := by decide +kernel
theorem dX9_next_226 : decode cX9_next 226 = .ok (.putfield 176, 3) := by decide +kernel
theorem dX9_next_229 : decode cX9_next 229 = .ok (.aload_n 0, 1) := by decide +kernel
theorem dX9_next_230 : decode cX9_next 230 = .ok (.dup, 1) := by decide +kernel
theorem dX9_next_231 : decode cX9_next 231 = .ok (.getfield 170, 3) := by decide +kernel
theorem dX9_next_234 : decode cX9_next 234 = .ok (.iconst 1, 1) := by decide +kernel
theorem dX9_next_235 : decode cX9_next 235 = .ok (.iadd, 1) := by decide +kernel
theorem dX9_next_236 : decode cX9_next 236 = .ok (.putfield 170, 3) := by decide +kernel
theorem dX9_next_239 : decode cX9_next 239 = .ok (.goto (-90), 3) := by decide +kernel
theorem dX9_next_242 : decode cX9_next 242 = .ok (.aload_n 0, 1) := by decide +kernel
theorem dX9_next_243 : decode cX9_next 243 = .ok (.getfield 186, 3) := by decide +kernel
theorem dX9_next_246 : decode cX9_next 246 = .ok (.iconst 2, 1) := by decide +kernel
theorem dX9_next_247 : decode cX9_next 247 = .ok (.if_icmp .ne 87, 3) := by decide +kernel
theorem dX9_next_250 : decode cX9_next 250 = .ok (.aload_n 0, 1) := by decide +kernel
theorem dX9_next_251 : decode cX9_next 251 = .ok (.getfield 170, 3) := by decide +kernel
theorem dX9_next_254 : decode cX9_next 254 = .ok (.aload_n 0, 1) := by decide +kernel
theorem dX9_next_255 : decode cX9_next 255 = .ok (.getfield 164, 3) := by decide +kernel
theorem dX9_next_258 : decode cX9_next 258 = .ok (.if_icmp .ge 76, 3) := by decide +kernel
theorem dX9_next_261 : decode cX9_next 261 = .ok (.aload_n 0, 1) := by decide +kernel
theorem dX9_next_262 : decode cX9_next 262 = .ok (.getfield 83, 3) := by decide +kernel
theorem dX9_next_265 : decode cX9_next 265 = .ok (.aload_n 0, 1) := by decide +kernel
theorem dX9_next_266 : decode cX9_next 266 = .ok (.getfield 170, 3) := by decide +kernel
theorem dX9_next_269 : decode cX9_next 269 = .ok (.iaload, 1) := by decide +kernel
theorem dX9_next_270 : decode cX9_next 270 = .ok (.invokestatic 183, 3) := by decide +kernel
theorem dX9_next_273 : decode cX9_next 273 = .ok (.ifCond .eq 61, 3) := by decide +kernel
theorem dX9_next_276 : decode cX9_next 276 = .ok (.aload_n 0, 1) := by decide +kernel
theorem dX9_next_277 : decode cX9_next 277 = .ok (.aload_n 0, 1) := by decide +kernel
theorem dX9_next_278 : decode cX9_next 278 = .ok (.getfield 176, 3) := by decide +kernel
theorem dX9_next_281 : decode cX9_next 281 = .ok (.ldc2_w 145, 3) := by decide +kernel
theorem dX9_next_284 : decode cX9_next 284 = .ok (.lcmp, 1) := by decide +kernel
theorem dX9_next_285 : decode cX9_next 285 = .ok (.ifCond .le 10, 3) := by decide +kernel
theorem dX9_next_288 : decode cX9_next 288 = .ok (.aload_n 0, 1) := by decide +kernel
theorem dX9_next_289 : decode cX9_next 289 = .ok (.getfield 176, 3) := by decide +kernel
theorem dX9_next_292 : decode cX9_next 292 = .ok (.goto 26, 3) := by decide +kernel
theorem dX9_next_295 : decode cX9_next 295 = .ok (.aload_n 0, 1) := by decide +kernel
theorem dX9_next_296 : decode cX9_next 296 = .ok (.getfield 176, 3) := by decide +kernel
theorem dX9_next_299 : decode cX9_next 299 = .ok (.ldc2_w 195, 3) := by decide +kernel
theorem dX9_next_302 : decode cX9_next 302 = .ok (.lmul, 1) := by decide +kernel
theorem dX9_next_303 : decode cX9_next 303 = .ok (.aload_n 0, 1) := by decide +kernel
theorem dX9_next_304 : decode cX9_next 304 = .ok (.getfield 83, 3) := by decide +kernel
theorem dX9_next_307 : decode cX9_next 307 = .ok (.aload_n 0, 1) := by decide +kernel
theorem dX9_next_308 : decode cX9_next 308 = .ok (.getfield 170, 3) := by decide +kernel
theorem dX9_next_311 : decode cX9_next 311 = .ok (.iaload, 1) := by decide +kernel
theorem dX9_next_312 : decode cX9_next 312 = .ok (.i2l, 1) := by decide +kernel
theorem dX9_next_313 : decode cX9_next 313 = .ok (.ladd, 1) := by decide +kernel
theorem dX9_next_314 : decode cX9_next 314 = .ok (.ldc2_w 197, 3) := by decide +kernel
theorem dX9_next_317 : decode cX9_next 317 = .ok (.lsub, 1) := by decide +kernel
theorem dX9_next_318 : decode cX9_next 318 = .ok (.putfield 176, 3) := by decide +kernel
theorem dX9_next_321 : decode cX9_next 321 = .ok (.aload_n 0, 1) := by decide +kernel
theorem dX9_next_322 : decode cX9_next 322 = .ok (.dup, 1) := by decide +kernel
theorem dX9_next_323 : decode cX9_next 323 = .ok (.getfield 170, 3) := by decide +kernel
theorem dX9_next_326 : decode cX9_next 326 = .ok (.iconst 1, 1) := by decide +kernel
theorem dX9_next_327 : decode cX9_next 327 = .ok (.iadd, 1) := by decide +kernel
theorem dX9_next_328 : decode cX9_next 328 = .ok (.putfield 170, 3) := by decide +kernel
theorem dX9_next_331 : decode cX9_next 331 = .ok (.goto (-89), 3) := by decide +kernel
theorem dX9_next_334 : decode cX9_next 334 = .ok (.return_, 1) := by decide +kernel
theorem dX9_isWord_0 : decode cX9_isWord 0 = .ok (.iload_n 1, 1) := by decide +kernel
theorem dX9_isWord_1 : decode cX9_isWord 1 = .ok (.i2l, 1) := by decide +kernel
theorem dX9_isWord_2 : decode cX9_isWord 2 = .ok (.ldc2_w 191, 3) := by decide +kernel
theorem dX9_isWord_5 : decode cX9_isWord 5 = .ok (.lsub, 1) := by decide +kernel
theorem dX9_isWord_6 : decode cX9_isWord 6 = .ok (.lstore 5, 2) := by decide +kernel
theorem dX9_isWord_8 : decode cX9_isWord 8 = .ok (.iload_n 2, 1) := by decide +kernel
theorem dX9_isWord_9 : decode cX9_isWord 9 = .ok (.ifCond .ne 8, 3) := by decide +kernel
theorem dX9_isWord_12 : decode cX9_isWord 12 = .ok (.lload 5, 2) := by decide +kernel
theorem dX9_isWord_14 : decode cX9_isWord 14 = .ok (.goto 16, 3) := by decide +kernel
theorem dX9_isWord_17 : decode cX9_isWord 17 = .ok (.lload 5, 2) := by decide +kernel
theorem dX9_isWord_19 : decode cX9_isWord 19 = .ok (.ldc2_w 189, 3) := by decide +kernel
theorem dX9_isWord_22 : decode cX9_isWord 22 = .ok (.lmul, 1) := by decide +kernel
theorem dX9_isWord_23 : decode cX9_isWord 23 = .ok (.iload_n 2, 1) := by decide +kernel
theorem dX9_isWord_24 : decode cX9_isWord 24 = .ok (.i2l, 1) := by decide +kernel
theorem dX9_isWord_25 : decode cX9_isWord 25 = .ok (.ladd, 1) := by decide +kernel
theorem dX9_isWord_26 : decode cX9_isWord 26 = .ok (.ldc2_w 191, 3) := by decide +kernel
theorem dX9_isWord_29 : decode cX9_isWord 29 = .ok (.lsub, 1) := by decide +kernel
theorem dX9_isWord_30 : decode cX9_isWord 30 = .ok (.lstore 5, 2) := by decide +kernel
theorem dX9_isWord_32 : decode cX9_isWord 32 = .ok (.iload_n 3, 1) := by decide +kernel
theorem dX9_isWord_33 : decode cX9_isWord 33 = .ok (.ifCond .ne 8, 3) := by decide +kernel
theorem dX9_isWord_36 : decode cX9_isWord 36 = .ok (.lload 5, 2) := by decide +kernel
theorem dX9_isWord_38 : decode cX9_isWord 38 = .ok (.goto 16, 3) := by decide +kernel
theorem dX9_isWord_41 : decode cX9_isWord 41 = .ok (.lload 5, 2) := by decide +kernel
theorem dX9_isWord_43 : decode cX9_isWord 43 = .ok (.ldc2_w 189, 3) := by decide +kernel
theorem dX9_isWord_46 : decode cX9_isWord 46 = .ok (.lmul, 1) := by decide +kernel
theorem dX9_isWord_47 : decode cX9_isWord 47 = .ok (.iload_n 3, 1) := by decide +kernel
theorem dX9_isWord_48 : decode cX9_isWord 48 = .ok (.i2l, 1) := by decide +kernel
theorem dX9_isWord_49 : decode cX9_isWord 49 = .ok (.ladd, 1) := by decide +kernel
theorem dX9_isWord_50 : decode cX9_isWord 50 = .ok (.ldc2_w 191, 3) := by decide +kernel
theorem dX9_isWord_53 : decode cX9_isWord 53 = .ok (.lsub, 1) := by decide +kernel
theorem dX9_isWord_54 : decode cX9_isWord 54 = .ok (.lstore 5, 2) := by decide +kernel
theorem dX9_isWord_56 : decode cX9_isWord 56 = .ok (.iload 4, 2) := by decide +kernel
theorem dX9_isWord_58 : decode cX9_isWord 58 = .ok (.ifCond .ne 8, 3) := by decide +kernel
theorem dX9_isWord_61 : decode cX9_isWord 61 = .ok (.lload 5, 2) := by decide +kernel
theorem dX9_isWord_63 : decode cX9_isWord 63 = .ok (.goto 17, 3) := by decide +kernel
theorem dX9_isWord_66 : decode cX9_isWord 66 = .ok (.lload 5, 2) := by decide +kernel
theorem dX9_isWord_68 : decode cX9_isWord 68 = .ok (.ldc2_w 189, 3) := by decide +kernel
theorem dX9_isWord_71 : decode cX9_isWord 71 = .ok (.lmul, 1) := by decide +kernel
theorem dX9_isWord_72 : decode cX9_isWord 72 = .ok (.iload 4, 2) := by decide +kernel
theorem dX9_isWord_74 : decode cX9_isWord 74 = .ok (.i2l, 1) := by decide +kernel
theorem dX9_isWord_75 : decode cX9_isWord 75 = .ok (.ladd, 1) := by decide +kernel
theorem dX9_isWord_76 : decode cX9_isWord 76 = .ok (.ldc2_w 191, 3) := by decide +kernel
theorem dX9_isWord_79 : decode cX9_isWord 79 = .ok (.lsub, 1) := by decide +kernel
theorem dX9_isWord_80 : decode cX9_isWord 80 = .ok (.lstore 5, 2) := by decide +kernel
theorem dX9_isWord_82 : decode cX9_isWord 82 = .ok (.aload_n 0, 1) := by decide +kernel
theorem dX9_isWord_83 : decode cX9_isWord 83 = .ok (.getfield 186, 3) := by decide +kernel
theorem dX9_isWord_86 : decode cX9_isWord 86 = .ok (.iconst 1, 1) := by decide +kernel
theorem dX9_isWord_87 : decode cX9_isWord 87 = .ok (.if_icmp .ne 17, 3) := by decide +kernel
theorem dX9_isWord_90 : decode cX9_isWord 90 = .ok (.aload_n 0, 1) := by decide +kernel
theorem dX9_isWord_91 : decode cX9_isWord 91 = .ok (.getfield 176, 3) := by decide +kernel
theorem dX9_isWord_94 : decode cX9_isWord 94 = .ok (.lload 5, 2) := by decide +kernel
theorem dX9_isWord_96 : decode cX9_isWord 96 = .ok (.lcmp, 1) := by decide +kernel
theorem dX9_isWord_97 : decode cX9_isWord 97 = .ok (.ifCond .ne 7, 3) := by decide +kernel
theorem dX9_isWord_100 : decode cX9_isWord 100 = .ok (.iconst 1, 1) := by decide +kernel
theorem dX9_isWord_101 : decode cX9_isWord 101 = .ok (.goto 4, 3) := by decide +kernel
theorem dX9_isWord_104 : decode cX9_isWord 104 = .ok (.iconst 0, 1) := by decide +kernel
theorem dX9_isWord_105 : decode cX9_isWord 105 = .ok (.ireturn, 1) := by decide +kernel
theorem dX9_isSign_0 : decode cX9_isSign 0 = .ok (.aload_n 0, 1) := by decide +kernel
theorem dX9_isSign_1 : decode cX9_isSign 1 = .ok (.getfield 186, 3) := by decide +kernel
theorem dX9_isSign_4 : decode cX9_isSign 4 = .ok (.iconst 3, 1) := by decide +kernel
theorem dX9_isSign_5 : decode cX9_isSign 5 = .ok (.if_icmp .ne 17, 3) := by decide +kernel
theorem dX9_isSign_8 : decode cX9_isSign 8 = .ok (.aload_n 0, 1) := by decide +kernel
theorem dX9_isSign_9 : decode cX9_isSign 9 = .ok (.getfield 176, 3) := by decide +kernel
theorem dX9_isSign_12 : decode cX9_isSign 12 = .ok (.iload_n 1, 1) := by decide +kernel
theorem dX9_isSign_13 : decode cX9_isSign 13 = .ok (.i2l, 1) := by decide +kernel
theorem dX9_isSign_14 : decode cX9_isSign 14 = .ok (.lcmp, 1) := by decide +kernel
theorem dX9_isSign_15 : decode cX9_isSign 15 = .ok (.ifCond .ne 7, 3) := by decide +kernel
theorem dX9_isSign_18 : decode cX9_isSign 18 = .ok (.iconst 1, 1) := by decide +kernel
theorem dX9_isSign_19 : decode cX9_isSign 19 = .ok (.goto 4, 3) := by decide +kernel
theorem dX9_isSign_22 : decode cX9_isSign 22 = .ok (.iconst 0, 1) := by decide +kernel
theorem dX9_isSign_23 : decode cX9_isSign 23 = .ok (.ireturn, 1) := by decide +kernel
theorem dX9_must_0 : decode cX9_must 0 = .ok (.aload_n 0, 1) := by decide +kernel
theorem dX9_must_1 : decode cX9_must 1 = .ok (.getfield 199, 3) := by decide +kernel
theorem dX9_must_4 : decode cX9_must 4 = .ok (.ifCond .ne 20, 3) := by decide +kernel
theorem dX9_must_7 : decode cX9_must 7 = .ok (.iload_n 1, 1) := by decide +kernel
theorem dX9_must_8 : decode cX9_must 8 = .ok (.ifCond .ne 16, 3) := by decide +kernel
theorem dX9_must_11 : decode cX9_must 11 = .ok (.aload_n 0, 1) := by decide +kernel
theorem dX9_must_12 : decode cX9_must 12 = .ok (.iconst 1, 1) := by decide +kernel
theorem dX9_must_13 : decode cX9_must 13 = .ok (.putfield 199, 3) := by decide +kernel
theorem dX9_must_16 : decode cX9_must 16 = .ok (.aload_n 0, 1) := by decide +kernel
theorem dX9_must_17 : decode cX9_must 17 = .ok (.aload_n 0, 1) := by decide +kernel
theorem dX9_must_18 : decode cX9_must 18 = .ok (.getfield 173, 3) := by decide +kernel
theorem dX9_must_21 : decode cX9_must 21 = .ok (.putfield 86, 3) := by decide +kernel
theorem dX9_must_24 : decode cX9_must 24 = .ok (.aload_n 0, 1) := by decide +kernel
theorem dX9_must_25 : decode cX9_must 25 = .ok (.getfield 199, 3) := by decide +kernel
theorem dX9_must_28 : decode cX9_must 28 = .ok (.ifCond .ne 7, 3) := by decide +kernel
theorem dX9_must_31 : decode cX9_must 31 = .ok (.aload_n 0, 1) := by decide +kernel
theorem dX9_must_32 : decode cX9_must 32 = .ok (.invokevirtual 203, 3) := by decide +kernel
theorem dX9_must_35 : decode cX9_must 35 = .ok (.return_, 1) := by decide +kernel
theorem dX9_readPart_0 : decode cX9_readPart 0 = .ok (.aload_n 0, 1) := by decide +kernel
theorem dX9_readPart_1 : decode cX9_readPart 1 = .ok (.getfield 176, 3) := by decide +kernel
theorem dX9_readPart_4 : decode cX9_readPart 4 = .ok (.l2i, 1) := by decide +kernel
theorem dX9_readPart_5 : decode cX9_readPart 5 = .ok (.iconst 1, 1) := by decide +kernel
theorem dX9_readPart_6 : decode cX9_readPart 6 = .ok (.isub, 1) := by decide +kernel
theorem dX9_readPart_7 : decode cX9_readPart 7 = .ok (.istore_n 1, 1) := by decide +kernel
theorem dX9_readPart_8 : decode cX9_readPart 8 = .ok (.aload_n 0, 1) := by decide +kernel
theorem dX9_readPart_9 : decode cX9_readPart 9 = .ok (.aload_n 0, 1) := by decide +kernel
theorem dX9_readPart_10 : decode cX9_readPart 10 = .ok (.getfield 186, 3) := by decide +kernel
theorem dX9_readPart_13 : decode cX9_readPart 13 = .ok (.iconst 1, 1) := by decide +kernel
theorem dX9_readPart_14 : decode cX9_readPart 14 = .ok (.if_icmp .ne 30, 3) := by decide +kernel
theorem dX9_readPart_17 : decode cX9_readPart 17 = .ok (.aload_n 0, 1) := by decide +kernel
theorem dX9_readPart_18 : decode cX9_readPart 18 = .ok (.getfield 176, 3) := by decide +kernel
theorem dX9_readPart_21 : decode cX9_readPart 21 = .ok (.lconst 1, 1) := by decide +kernel
theorem dX9_readPart_22 : decode cX9_readPart 22 = .ok (.ldc2_w 206, 3) := by decide +kernel
theorem dX9_readPart_25 : decode cX9_readPart 25 = .ok (.invokestatic 139, 3) := by decide +kernel
theorem dX9_readPart_28 : decode cX9_readPart 28 = .ok (.ifCond .eq 16, 3) := by decide +kernel
theorem dX9_readPart_31 : decode cX9_readPart 31 = .ok (.aload_n 0, 1) := by decide +kernel
theorem dX9_readPart_32 : decode cX9_readPart 32 = .ok (.getfield 208, 3) := by decide +kernel
theorem dX9_readPart_35 : decode cX9_readPart 35 = .ok (.bipush 20, 2) := by decide +kernel
theorem dX9_readPart_37 : decode cX9_readPart 37 = .ok (.if_icmp .ge 7, 3) := by decide +kernel
theorem dX9_readPart_40 : decode cX9_readPart 40 = .ok (.iconst 1, 1) := by decide +kernel
theorem dX9_readPart_41 : decode cX9_readPart 41 = .ok (.goto 4, 3) := by decide +kernel
theorem dX9_readPart_44 : decode cX9_readPart 44 = .ok (.iconst 0, 1) := by decide +kernel
theorem dX9_readPart_45 : decode cX9_readPart 45 = .ok (.invokevirtual 211, 3) := by decide +kernel
theorem dX9_readPart_48 : decode cX9_readPart 48 = .ok (.aload_n 0, 1) := by decide +kernel
theorem dX9_readPart_49 : decode cX9_readPart 49 = .ok (.getfield 199, 3) := by decide +kernel
theorem dX9_readPart_52 : decode cX9_readPart 52 = .ok (.ifCond .eq 5, 3) := by decide +kernel
theorem dX9_readPart_55 : decode cX9_readPart 55 = .ok (.iconst 0, 1) := by decide +kernel
theorem dX9_readPart_56 : decode cX9_readPart 56 = .ok (.ireturn, 1) := by decide +kernel
theorem dX9_readPart_57 : decode cX9_readPart 57 = .ok (.aload_n 0, 1) := by decide +kernel
theorem dX9_readPart_58 : decode cX9_readPart 58 = .ok (.getfield 59, 3) := by decide +kernel
theorem dX9_readPart_61 : decode cX9_readPart 61 = .ok (.aload_n 0, 1) := by decide +kernel
theorem dX9_readPart_62 : decode cX9_readPart 62 = .ok (.getfield 208, 3) := by decide +kernel
theorem dX9_readPart_65 : decode cX9_readPart 65 = .ok (.iload_n 1, 1) := by decide +kernel
theorem dX9_readPart_66 : decode cX9_readPart 66 = .ok (.iastore, 1) := by decide +kernel
theorem dX9_readPart_67 : decode cX9_readPart 67 = .ok (.aload_n 0, 1) := by decide +kernel
theorem dX9_readPart_68 : decode cX9_readPart 68 = .ok (.getfield 62, 3) := by decide +kernel
theorem dX9_readPart_71 : decode cX9_readPart 71 = .ok (.aload_n 0, 1) := by decide +kernel
theorem dX9_readPart_72 : decode cX9_readPart 72 = .ok (.getfield 208, 3) := by decide +kernel
theorem dX9_readPart_75 : decode cX9_readPart 75 = .ok (.iconst (-1), 1) := by decide +kernel
theorem dX9_readPart_76 : decode cX9_readPart 76 = .ok (.iastore, 1) := by decide +kernel
theorem dX9_readPart_77 : decode cX9_readPart 77 = .ok (.aload_n 0, 1) := by decide +kernel
theorem dX9_readPart_78 : decode cX9_readPart 78 = .ok (.getfield 65, 3) := by decide +kernel
theorem dX9_readPart_81 : decode cX9_readPart 81 = .ok (.aload_n 0, 1) := by decide +kernel
theorem dX9_readPart_82 : decode cX9_readPart 82 = .ok (.getfield 208, 3) := by decide +kernel
theorem dX9_readPart_85 : decode cX9_readPart 85 = .ok (.iconst (-1), 1) := by decide +kernel
theorem dX9_readPart_86 : decode cX9_readPart 86 = .ok (.iastore, 1) := by decide +kernel
theorem dX9_readPart_87 : decode cX9_readPart 87 = .ok (.aload_n 0, 1) := by decide +kernel
theorem dX9_readPart_88 : decode cX9_readPart 88 = .ok (.dup, 1) := by decide +kernel
theorem dX9_readPart_89 : decode cX9_readPart 89 = .ok (.getfield 208, 3) := by decide +kernel
theorem dX9_readPart_92 : decode cX9_readPart 92 = .ok (.iconst 1, 1) := by decide +kernel
theorem dX9_readPart_93 : decode cX9_readPart 93 = .ok (.iadd, 1) := by decide +kernel
theorem dX9_readPart_94 : decode cX9_readPart 94 = .ok (.putfield 208, 3) := by decide +kernel
theorem dX9_readPart_97 : decode cX9_readPart 97 = .ok (.aload_n 0, 1) := by decide +kernel
theorem dX9_readPart_98 : decode cX9_readPart 98 = .ok (.bipush 123, 2) := by decide +kernel
theorem dX9_readPart_100 : decode cX9_readPart 100 = .ok (.invokevirtual 215, 3) := by decide +kernel
theorem dX9_readPart_103 : decode cX9_readPart 103 = .ok (.istore_n 2, 1) := by decide +kernel
theorem dX9_readPart_104 : decode cX9_readPart 104 = .ok (.iload_n 2, 1) := by decide +kernel
theorem dX9_readPart_105 : decode cX9_readPart 105 = .ok (.ifCond .eq 21, 3) := by decide +kernel
theorem dX9_readPart_108 : decode cX9_readPart 108 = .ok (.aload_n 0, 1) := by decide +kernel
theorem dX9_readPart_109 : decode cX9_readPart 109 = .ok (.aload_n 0, 1) := by decide +kernel
theorem dX9_readPart_110 : decode cX9_readPart 110 = .ok (.getfield 218, 3) := by decide +kernel
theorem dX9_readPart_113 : decode cX9_readPart 113 = .ok (.bipush 6, 2) := by decide +kernel
theorem dX9_readPart_115 : decode cX9_readPart 115 = .ok (.if_icmp .ge 7, 3) := by decide +kernel
theorem dX9_readPart_118 : decode cX9_readPart 118 = .ok (.iconst 1, 1) := by decide +kernel
theorem dX9_readPart_119 : decode cX9_readPart 119 = .ok (.goto 4, 3) := by decide +kernel
theorem dX9_readPart_122 : decode cX9_readPart 122 = .ok (.iconst 0, 1) := by decide +kernel
theorem dX9_readPart_123 : decode cX9_readPart 123 = .ok (.invokevirtual 211, 3) := by decide +kernel
theorem dX9_readPart_126 : decode cX9_readPart 126 = .ok (.iload_n 2, 1) := by decide +kernel
theorem dX9_readPart_127 : decode cX9_readPart 127 = .ok (.ifCond .eq 35, 3) := by decide +kernel
theorem dX9_readPart_130 : decode cX9_readPart 130 = .ok (.aload_n 0, 1) := by decide +kernel
theorem dX9_readPart_131 : decode cX9_readPart 131 = .ok (.getfield 199, 3) := by decide +kernel
theorem dX9_readPart_134 : decode cX9_readPart 134 = .ok (.ifCond .ne 28, 3) := by decide +kernel
theorem dX9_readPart_137 : decode cX9_readPart 137 = .ok (.aload_n 0, 1) := by decide +kernel
theorem dX9_readPart_138 : decode cX9_readPart 138 = .ok (.getfield 80, 3) := by decide +kernel
theorem dX9_readPart_141 : decode cX9_readPart 141 = .ok (.aload_n 0, 1) := by decide +kernel
theorem dX9_readPart_142 : decode cX9_readPart 142 = .ok (.getfield 218, 3) := by decide +kernel
theorem dX9_readPart_145 : decode cX9_readPart 145 = .ok (.aload_n 0, 1) := by decide +kernel
theorem dX9_readPart_146 : decode cX9_readPart 146 = .ok (.getfield 208, 3) := by decide +kernel
theorem dX9_readPart_149 : decode cX9_readPart 149 = .ok (.iconst 1, 1) := by decide +kernel
theorem dX9_readPart_150 : decode cX9_readPart 150 = .ok (.isub, 1) := by decide +kernel
theorem dX9_readPart_151 : decode cX9_readPart 151 = .ok (.iastore, 1) := by decide +kernel
theorem dX9_readPart_152 : decode cX9_readPart 152 = .ok (.aload_n 0, 1) := by decide +kernel
theorem dX9_readPart_153 : decode cX9_readPart 153 = .ok (.dup, 1) := by decide +kernel
theorem dX9_readPart_154 : decode cX9_readPart 154 = .ok (.getfield 218, 3) := by decide +kernel
theorem dX9_readPart_157 : decode cX9_readPart 157 = .ok (.iconst 1, 1) := by decide +kernel
theorem dX9_readPart_158 : decode cX9_readPart 158 = .ok (.iadd, 1) := by decide +kernel
theorem dX9_readPart_159 : decode cX9_readPart 159 = .ok (.putfield 218, 3) := by decide +kernel
theorem dX9_readPart_162 : decode cX9_readPart 162 = .ok (.iload_n 2, 1) := by decide +kernel
theorem dX9_readPart_163 : decode cX9_readPart 163 = .ok (.ireturn, 1) := by decide +kernel
theorem dX9_readItem_0 : decode cX9_readItem 0 = .ok (.aload_n 0, 1) := by decide +kernel
theorem dX9_readItem_1 : decode cX9_readItem 1 = .ok (.bipush 118, 2) := by decide +kernel
theorem dX9_readItem_3 : decode cX9_readItem 3 = .ok (.iconst 0, 1) := by decide +kernel
theorem dX9_readItem_4 : decode cX9_readItem 4 = .ok (.iconst 0, 1) := by decide +kernel
theorem dX9_readItem_5 : decode cX9_readItem 5 = .ok (.iconst 0, 1) := by decide +kernel
theorem dX9_readItem_6 : decode cX9_readItem 6 = .ok (.invokevirtual 221, 3) := by decide +kernel
theorem dX9_readItem_9 : decode cX9_readItem 9 = .ok (.ifCond .eq 7, 3) := by decide +kernel
theorem dX9_readItem_12 : decode cX9_readItem 12 = .ok (.iconst 0, 1) := by decide +kernel
theorem dX9_readItem_13 : decode cX9_readItem 13 = .ok (.goto 40, 3) := by decide +kernel
theorem dX9_readItem_16 : decode cX9_readItem 16 = .ok (.aload_n 0, 1) := by decide +kernel
theorem dX9_readItem_17 : decode cX9_readItem 17 = .ok (.bipush 117, 2) := by decide +kernel
theorem dX9_readItem_19 : decode cX9_readItem 19 = .ok (.bipush 112, 2) := by decide +kernel
theorem dX9_readItem_21 : decode cX9_readItem 21 = .ok (.iconst 0, 1) := by decide +kernel
theorem dX9_readItem_22 : decode cX9_readItem 22 = .ok (.iconst 0, 1) := by decide +kernel
theorem dX9_readItem_23 : decode cX9_readItem 23 = .ok (.invokevirtual 221, 3) := by decide +kernel
theorem dX9_readItem_26 : decode cX9_readItem 26 = .ok (.ifCond .eq 7, 3) := by decide +kernel
theorem dX9_readItem_29 : decode cX9_readItem 29 = .ok (.iconst 1, 1) := by decide +kernel
theorem dX9_readItem_30 : decode cX9_readItem 30 = .ok (.goto 23, 3) := by decide +kernel
theorem dX9_readItem_33 : decode cX9_readItem 33 = .ok (.aload_n 0, 1) := by decide +kernel
theorem dX9_readItem_34 : decode cX9_readItem 34 = .ok (.bipush 100, 2) := by decide +kernel
theorem dX9_readItem_36 : decode cX9_readItem 36 = .ok (.bipush 111, 2) := by decide +kernel
theorem dX9_readItem_38 : decode cX9_readItem 38 = .ok (.bipush 119, 2) := by decide +kernel
theorem dX9_readItem_40 : decode cX9_readItem 40 = .ok (.bipush 110, 2) := by decide +kernel
theorem dX9_readItem_42 : decode cX9_readItem 42 = .ok (.invokevirtual 221, 3) := by decide +kernel
theorem dX9_readItem_45 : decode cX9_readItem 45 = .ok (.ifCond .eq 7, 3) := by decide +kernel
theorem dX9_readItem_48 : decode cX9_readItem 48 = .ok (.iconst 2, 1) := by decide +kernel
theorem dX9_readItem_49 : decode cX9_readItem 49 = .ok (.goto 4, 3) := by decide +kernel
theorem dX9_readItem_52 : decode cX9_readItem 52 = .ok (.iconst (-1), 1) := by decide +kernel
theorem dX9_readItem_53 : decode cX9_readItem 53 = .ok (.istore_n 1, 1) := by decide +kernel
theorem dX9_readItem_54 : decode cX9_readItem 54 = .ok (.aload_n 0, 1) := by decide +kernel
theorem dX9_readItem_55 : decode cX9_readItem 55 = .ok (.iload_n 1, 1) := by decide +kernel
theorem dX9_readItem_56 : decode cX9_readItem 56 = .ok (.ifCond .lt 7, 3) := by decide +kernel
theorem dX9_readItem_59 : decode cX9_readItem 59 = .ok (.iconst 1, 1) := by decide +kernel
theorem dX9_readItem_60 : decode cX9_readItem 60 = .ok (.goto 4, 3) := by decide +kernel
theorem dX9_readItem_63 : decode cX9_readItem 63 = .ok (.iconst 0, 1) := by decide +kernel
theorem dX9_readItem_64 : decode cX9_readItem 64 = .ok (.invokevirtual 211, 3) := by decide +kernel
theorem dX9_readItem_67 : decode cX9_readItem 67 = .ok (.iconst 0, 1) := by decide +kernel
theorem dX9_readItem_68 : decode cX9_readItem 68 = .ok (.istore_n 2, 1) := by decide +kernel
theorem dX9_readItem_69 : decode cX9_readItem 69 = .ok (.iload_n 1, 1) := by decide +kernel
theorem dX9_readItem_70 : decode cX9_readItem 70 = .ok (.ifCond .le 35, 3) := by decide +kernel
theorem dX9_readItem_73 : decode cX9_readItem 73 = .ok (.aload_n 0, 1) := by decide +kernel
theorem dX9_readItem_74 : decode cX9_readItem 74 = .ok (.getfield 176, 3) := by decide +kernel
theorem dX9_readItem_77 : decode cX9_readItem 77 = .ok (.l2i, 1) := by decide +kernel
theorem dX9_readItem_78 : decode cX9_readItem 78 = .ok (.istore_n 2, 1) := by decide +kernel
theorem dX9_readItem_79 : decode cX9_readItem 79 = .ok (.aload_n 0, 1) := by decide +kernel
theorem dX9_readItem_80 : decode cX9_readItem 80 = .ok (.aload_n 0, 1) := by decide +kernel
theorem dX9_readItem_81 : decode cX9_readItem 81 = .ok (.getfield 186, 3) := by decide +kernel
theorem dX9_readItem_84 : decode cX9_readItem 84 = .ok (.iconst 2, 1) := by decide +kernel
theorem dX9_readItem_85 : decode cX9_readItem 85 = .ok (.if_icmp .ne 16, 3) := by decide +kernel
theorem dX9_readItem_88 : decode cX9_readItem 88 = .ok (.aload_n 0, 1) := by decide +kernel
theorem dX9_readItem_89 : decode cX9_readItem 89 = .ok (.getfield 176, 3) := by decide +kernel
theorem dX9_readItem_92 : decode cX9_readItem 92 = .ok (.lconst 1, 1) := by decide +kernel
theorem dX9_readItem_93 : decode cX9_readItem 93 = .ok (.lcmp, 1) := by decide +kernel
theorem dX9_readItem_94 : decode cX9_readItem 94 = .ok (.ifCond .gt 7, 3) := by decide +kernel
theorem dX9_readItem_97 : decode cX9_readItem 97 = .ok (.iconst 1, 1) := by decide +kernel
theorem dX9_readItem_98 : decode cX9_readItem 98 = .ok (.goto 4, 3) := by decide +kernel
theorem dX9_readItem_101 : decode cX9_readItem 101 = .ok (.iconst 0, 1) := by decide +kernel
theorem dX9_readItem_102 : decode cX9_readItem 102 = .ok (.invokevirtual 211, 3) := by decide +kernel
theorem dX9_readItem_105 : decode cX9_readItem 105 = .ok (.aload_n 0, 1) := by decide +kernel
theorem dX9_readItem_106 : decode cX9_readItem 106 = .ok (.getfield 199, 3) := by decide +kernel
theorem dX9_readItem_109 : decode cX9_readItem 109 = .ok (.ifCond .eq 5, 3) := by decide +kernel
theorem dX9_readItem_112 : decode cX9_readItem 112 = .ok (.iconst 0, 1) := by decide +kernel
theorem dX9_readItem_113 : decode cX9_readItem 113 = .ok (.ireturn, 1) := by decide +kernel
theorem dX9_readItem_114 : decode cX9_readItem 114 = .ok (.aload_n 0, 1) := by decide +kernel
theorem dX9_readItem_115 : decode cX9_readItem 115 = .ok (.getfield 80, 3) := by decide +kernel
theorem dX9_readItem_118 : decode cX9_readItem 118 = .ok (.aload_n 0, 1) := by decide +kernel
theorem dX9_readItem_119 : decode cX9_readItem 119 = .ok (.getfield 218, 3) := by decide +kernel
theorem dX9_readItem_122 : decode cX9_readItem 122 = .ok (.iconst 1, 1) := by decide +kernel
theorem dX9_readItem_123 : decode cX9_readItem 123 = .ok (.isub, 1) := by decide +kernel
theorem dX9_readItem_124 : decode cX9_readItem 124 = .ok (.iaload, 1) := by decide +kernel
theorem dX9_readItem_125 : decode cX9_readItem 125 = .ok (.istore_n 3, 1) := by decide +kernel
theorem dX9_readItem_126 : decode cX9_readItem 126 = .ok (.aload_n 0, 1) := by decide +kernel
theorem dX9_readItem_127 : decode cX9_readItem 127 = .ok (.getfield 225, 3) := by decide +kernel
theorem dX9_readItem_130 : decode cX9_readItem 130 = .ok (.istore 4, 2) := by decide +kernel
theorem dX9_readItem_132 : decode cX9_readItem 132 = .ok (.aload_n 0, 1) := by decide +kernel
theorem dX9_readItem_133 : decode cX9_readItem 133 = .ok (.getfield 68, 3) := by decide +kernel
theorem dX9_readItem_136 : decode cX9_readItem 136 = .ok (.iload 4, 2) := by decide +kernel
theorem dX9_readItem_138 : decode cX9_readItem 138 = .ok (.iload_n 1, 1) := by decide +kernel
theorem dX9_readItem_139 : decode cX9_readItem 139 = .ok (.iastore, 1) := by decide +kernel
theorem dX9_readItem_140 : decode cX9_readItem 140 = .ok (.aload_n 0, 1) := by decide +kernel
theorem dX9_readItem_141 : decode cX9_readItem 141 = .ok (.getfield 71, 3) := by decide +kernel
theorem dX9_readItem_144 : decode cX9_readItem 144 = .ok (.iload 4, 2) := by decide +kernel
theorem dX9_readItem_146 : decode cX9_readItem 146 = .ok (.iload_n 2, 1) := by decide +kernel
theorem dX9_readItem_147 : decode cX9_readItem 147 = .ok (.iastore, 1) := by decide +kernel
theorem dX9_readItem_148 : decode cX9_readItem 148 = .ok (.aload_n 0, 1) := by decide +kernel
theorem dX9_readItem_149 : decode cX9_readItem 149 = .ok (.getfield 74, 3) := by decide +kernel
theorem dX9_readItem_152 : decode cX9_readItem 152 = .ok (.iload 4, 2) := by decide +kernel
theorem dX9_readItem_154 : decode cX9_readItem 154 = .ok (.aload_n 0, 1) := by decide +kernel
theorem dX9_readItem_155 : decode cX9_readItem 155 = .ok (.getfield 208, 3) := by decide +kernel
theorem dX9_readItem_158 : decode cX9_readItem 158 = .ok (.iastore, 1) := by decide +kernel
theorem dX9_readItem_159 : decode cX9_readItem 159 = .ok (.aload_n 0, 1) := by decide +kernel
theorem dX9_readItem_160 : decode cX9_readItem 160 = .ok (.getfield 77, 3) := by decide +kernel
theorem dX9_readItem_163 : decode cX9_readItem 163 = .ok (.iload 4, 2) := by decide +kernel
theorem dX9_readItem_165 : decode cX9_readItem 165 = .ok (.iconst (-1), 1) := by decide +kernel
theorem dX9_readItem_166 : decode cX9_readItem 166 = .ok (.iastore, 1) := by decide +kernel
theorem dX9_readItem_167 : decode cX9_readItem 167 = .ok (.aload_n 0, 1) := by decide +kernel
theorem dX9_readItem_168 : decode cX9_readItem 168 = .ok (.dup, 1) := by decide +kernel
theorem dX9_readItem_169 : decode cX9_readItem 169 = .ok (.getfield 225, 3) := by decide +kernel
theorem dX9_readItem_172 : decode cX9_readItem 172 = .ok (.iconst 1, 1) := by decide +kernel
theorem dX9_readItem_173 : decode cX9_readItem 173 = .ok (.iadd, 1) := by decide +kernel
theorem dX9_readItem_174 : decode cX9_readItem 174 = .ok (.putfield 225, 3) := by decide +kernel
theorem dX9_readItem_177 : decode cX9_readItem 177 = .ok (.aload_n 0, 1) := by decide +kernel
theorem dX9_readItem_178 : decode cX9_readItem 178 = .ok (.getfield 65, 3) := by decide +kernel
theorem dX9_readItem_181 : decode cX9_readItem 181 = .ok (.iload_n 3, 1) := by decide +kernel
theorem dX9_readItem_182 : decode cX9_readItem 182 = .ok (.iaload, 1) := by decide +kernel
theorem dX9_readItem_183 : decode cX9_readItem 183 = .ok (.iconst (-1), 1) := by decide +kernel
theorem dX9_readItem_184 : decode cX9_readItem 184 = .ok (.if_icmp .ne 14, 3) := by decide +kernel
theorem dX9_readItem_187 : decode cX9_readItem 187 = .ok (.aload_n 0, 1) := by decide +kernel
theorem dX9_readItem_188 : decode cX9_readItem 188 = .ok (.getfield 62, 3) := by decide +kernel
theorem dX9_readItem_191 : decode cX9_readItem 191 = .ok (.iload_n 3, 1) := by decide +kernel
theorem dX9_readItem_192 : decode cX9_readItem 192 = .ok (.iload 4, 2) := by decide +kernel
theorem dX9_readItem_194 : decode cX9_readItem 194 = .ok (.iastore, 1) := by decide +kernel
theorem dX9_readItem_195 : decode cX9_readItem 195 = .ok (.goto 16, 3) := by decide +kernel
theorem dX9_readItem_198 : decode cX9_readItem 198 = .ok (.aload_n 0, 1) := by decide +kernel
theorem dX9_readItem_199 : decode cX9_readItem 199 = .ok (.getfield 77, 3) := by decide +kernel
theorem dX9_readItem_202 : decode cX9_readItem 202 = .ok (.aload_n 0, 1) := by decide +kernel
theorem dX9_readItem_203 : decode cX9_readItem 203 = .ok (.getfield 65, 3) := by decide +kernel
theorem dX9_readItem_206 : decode cX9_readItem 206 = .ok (.iload_n 3, 1) := by decide +kernel
theorem dX9_readItem_207 : decode cX9_readItem 207 = .ok (.iaload, 1) := by decide +kernel
theorem dX9_readItem_208 : decode cX9_readItem 208 = .ok (.iload 4, 2) := by decide +kernel
theorem dX9_readItem_210 : decode cX9_readItem 210 = .ok (.iastore, 1) := by decide +kernel
theorem dX9_readItem_211 : decode cX9_readItem 211 = .ok (.aload_n 0, 1) := by decide +kernel
theorem dX9_readItem_212 : decode cX9_readItem 212 = .ok (.getfield 65, 3) := by decide +kernel
theorem dX9_readItem_215 : decode cX9_readItem 215 = .ok (.iload_n 3, 1) := by decide +kernel
theorem dX9_readItem_216 : decode cX9_readItem 216 = .ok (.iload 4, 2) := by decide +kernel
theorem dX9_readItem_218 : decode cX9_readItem 218 = .ok (.iastore, 1) := by decide +kernel
theorem dX9_readItem_219 : decode cX9_readItem 219 = .ok (.iload_n 1, 1) := by decide +kernel
theorem dX9_readItem_220 : decode cX9_readItem 220 = .ok (.ifCond .le 14, 3) := by decide +kernel
theorem dX9_readItem_223 : decode cX9_readItem 223 = .ok (.aload_n 0, 1) := by decide +kernel
theorem dX9_readItem_224 : decode cX9_readItem 224 = .ok (.invokevirtual 228, 3) := by decide +kernel
theorem dX9_readItem_227 : decode cX9_readItem 227 = .ok (.ifCond .eq 7, 3) := by decide +kernel
theorem dX9_readItem_230 : decode cX9_readItem 230 = .ok (.iconst 1, 1) := by decide +kernel
theorem dX9_readItem_231 : decode cX9_readItem 231 = .ok (.goto 4, 3) := by decide +kernel
theorem dX9_readItem_234 : decode cX9_readItem 234 = .ok (.iconst 0, 1) := by decide +kernel
theorem dX9_readItem_235 : decode cX9_readItem 235 = .ok (.ireturn, 1) := by decide +kernel
theorem dX9_shape_0 : decode cX9_shape 0 = .ok (.aload_n 0, 1) := by decide +kernel
theorem dX9_shape_1 : decode cX9_shape 1 = .ok (.iconst 0, 1) := by decide +kernel
theorem dX9_shape_2 : decode cX9_shape 2 = .ok (.putfield 123, 3) := by decide +kernel
theorem dX9_shape_5 : decode cX9_shape 5 = .ok (.aload_n 0, 1) := by decide +kernel
theorem dX9_shape_6 : decode cX9_shape 6 = .ok (.iconst 0, 1) := by decide +kernel
theorem dX9_shape_7 : decode cX9_shape 7 = .ok (.putfield 170, 3) := by decide +kernel
theorem dX9_shape_10 : decode cX9_shape 10 = .ok (.aload_n 0, 1) := by decide +kernel
theorem dX9_shape_11 : decode cX9_shape 11 = .ok (.iconst 0, 1) := by decide +kernel
theorem dX9_shape_12 : decode cX9_shape 12 = .ok (.putfield 199, 3) := by decide +kernel
theorem dX9_shape_15 : decode cX9_shape 15 = .ok (.aload_n 0, 1) := by decide +kernel
theorem dX9_shape_16 : decode cX9_shape 16 = .ok (.iconst (-1), 1) := by decide +kernel
theorem dX9_shape_17 : decode cX9_shape 17 = .ok (.putfield 86, 3) := by decide +kernel
theorem dX9_shape_20 : decode cX9_shape 20 = .ok (.aload_n 0, 1) := by decide +kernel
theorem dX9_shape_21 : decode cX9_shape 21 = .ok (.iconst 0, 1) := by decide +kernel
theorem dX9_shape_22 : decode cX9_shape 22 = .ok (.putfield 208, 3) := by decide +kernel
theorem dX9_shape_25 : decode cX9_shape 25 = .ok (.aload_n 0, 1) := by decide +kernel
theorem dX9_shape_26 : decode cX9_shape 26 = .ok (.iconst 0, 1) := by decide +kernel
theorem dX9_shape_27 : decode cX9_shape 27 = .ok (.putfield 225, 3) := by decide +kernel
theorem dX9_shape_30 : decode cX9_shape 30 = .ok (.aload_n 0, 1) := by decide +kernel
theorem dX9_shape_31 : decode cX9_shape 31 = .ok (.iconst 0, 1) := by decide +kernel
theorem dX9_shape_32 : decode cX9_shape 32 = .ok (.putfield 218, 3) := by decide +kernel
theorem dX9_shape_35 : decode cX9_shape 35 = .ok (.aload_n 0, 1) := by decide +kernel
theorem dX9_shape_36 : decode cX9_shape 36 = .ok (.invokevirtual 203, 3) := by decide +kernel
theorem dX9_shape_39 : decode cX9_shape 39 = .ok (.aload_n 0, 1) := by decide +kernel
theorem dX9_shape_40 : decode cX9_shape 40 = .ok (.invokevirtual 228, 3) := by decide +kernel
theorem dX9_shape_43 : decode cX9_shape 43 = .ok (.istore_n 1, 1) := by decide +kernel
theorem dX9_shape_44 : decode cX9_shape 44 = .ok (.aload_n 0, 1) := by decide +kernel
theorem dX9_shape_45 : decode cX9_shape 45 = .ok (.getfield 199, 3) := by decide +kernel
theorem dX9_shape_48 : decode cX9_shape 48 = .ok (.ifCond .ne 63, 3) := by decide +kernel
theorem dX9_shape_51 : decode cX9_shape 51 = .ok (.aload_n 0, 1) := by decide +kernel
theorem dX9_shape_52 : decode cX9_shape 52 = .ok (.getfield 218, 3) := by decide +kernel
theorem dX9_shape_55 : decode cX9_shape 55 = .ok (.ifCond .le 56, 3) := by decide +kernel
theorem dX9_shape_58 : decode cX9_shape 58 = .ok (.iload_n 1, 1) := by decide +kernel
theorem dX9_shape_59 : decode cX9_shape 59 = .ok (.ifCond .eq 11, 3) := by decide +kernel
theorem dX9_shape_62 : decode cX9_shape 62 = .ok (.aload_n 0, 1) := by decide +kernel
theorem dX9_shape_63 : decode cX9_shape 63 = .ok (.invokevirtual 232, 3) := by decide +kernel
theorem dX9_shape_66 : decode cX9_shape 66 = .ok (.istore_n 1, 1) := by decide +kernel
theorem dX9_shape_67 : decode cX9_shape 67 = .ok (.goto (-23), 3) := by decide +kernel
theorem dX9_shape_70 : decode cX9_shape 70 = .ok (.aload_n 0, 1) := by decide +kernel
theorem dX9_shape_71 : decode cX9_shape 71 = .ok (.bipush 44, 2) := by decide +kernel
theorem dX9_shape_73 : decode cX9_shape 73 = .ok (.invokevirtual 215, 3) := by decide +kernel
theorem dX9_shape_76 : decode cX9_shape 76 = .ok (.ifCond .eq 12, 3) := by decide +kernel
theorem dX9_shape_79 : decode cX9_shape 79 = .ok (.aload_n 0, 1) := by decide +kernel
theorem dX9_shape_80 : decode cX9_shape 80 = .ok (.invokevirtual 203, 3) := by decide +kernel
theorem dX9_shape_83 : decode cX9_shape 83 = .ok (.iconst 1, 1) := by decide +kernel
theorem dX9_shape_84 : decode cX9_shape 84 = .ok (.istore_n 1, 1) := by decide +kernel
theorem dX9_shape_85 : decode cX9_shape 85 = .ok (.goto (-41), 3) := by decide +kernel
theorem dX9_shape_88 : decode cX9_shape 88 = .ok (.aload_n 0, 1) := by decide +kernel
theorem dX9_shape_89 : decode cX9_shape 89 = .ok (.aload_n 0, 1) := by decide +kernel
theorem dX9_shape_90 : decode cX9_shape 90 = .ok (.bipush 125, 2) := by decide +kernel
theorem dX9_shape_92 : decode cX9_shape 92 = .ok (.invokevirtual 215, 3) := by decide +kernel
theorem dX9_shape_95 : decode cX9_shape 95 = .ok (.invokevirtual 211, 3) := by decide +kernel
theorem dX9_shape_98 : decode cX9_shape 98 = .ok (.aload_n 0, 1) := by decide +kernel
theorem dX9_shape_99 : decode cX9_shape 99 = .ok (.dup, 1) := by decide +kernel
theorem dX9_shape_100 : decode cX9_shape 100 = .ok (.getfield 218, 3) := by decide +kernel
theorem dX9_shape_103 : decode cX9_shape 103 = .ok (.iconst 1, 1) := by decide +kernel
theorem dX9_shape_104 : decode cX9_shape 104 = .ok (.isub, 1) := by decide +kernel
theorem dX9_shape_105 : decode cX9_shape 105 = .ok (.putfield 218, 3) := by decide +kernel
theorem dX9_shape_108 : decode cX9_shape 108 = .ok (.goto (-64), 3) := by decide +kernel
theorem dX9_shape_111 : decode cX9_shape 111 = .ok (.aload_n 0, 1) := by decide +kernel
theorem dX9_shape_112 : decode cX9_shape 112 = .ok (.getfield 199, 3) := by decide +kernel
theorem dX9_shape_115 : decode cX9_shape 115 = .ok (.ifCond .ne 15, 3) := by decide +kernel
theorem dX9_shape_118 : decode cX9_shape 118 = .ok (.aload_n 0, 1) := by decide +kernel
theorem dX9_shape_119 : decode cX9_shape 119 = .ok (.getfield 186, 3) := by decide +kernel
theorem dX9_shape_122 : decode cX9_shape 122 = .ok (.ifCond .eq 8, 3) := by decide +kernel
theorem dX9_shape_125 : decode cX9_shape 125 = .ok (.aload_n 0, 1) := by decide +kernel
theorem dX9_shape_126 : decode cX9_shape 126 = .ok (.iconst 0, 1) := by decide +kernel
theorem dX9_shape_127 : decode cX9_shape 127 = .ok (.invokevirtual 211, 3) := by decide +kernel
theorem dX9_shape_130 : decode cX9_shape 130 = .ok (.aload_n 0, 1) := by decide +kernel
theorem dX9_shape_131 : decode cX9_shape 131 = .ok (.iconst 0, 1) := by decide +kernel
theorem dX9_shape_132 : decode cX9_shape 132 = .ok (.putfield 164, 3) := by decide +kernel
theorem dX9_shape_135 : decode cX9_shape 135 = .ok (.aload_n 0, 1) := by decide +kernel
theorem dX9_shape_136 : decode cX9_shape 136 = .ok (.getfield 199, 3) := by decide +kernel
theorem dX9_shape_139 : decode cX9_shape 139 = .ok (.ifCond .eq 10, 3) := by decide +kernel
theorem dX9_shape_142 : decode cX9_shape 142 = .ok (.aload_n 0, 1) := by decide +kernel
theorem dX9_shape_143 : decode cX9_shape 143 = .ok (.bipush (-6), 2) := by decide +kernel
theorem dX9_shape_145 : decode cX9_shape 145 = .ok (.invokevirtual 153, 3) := by decide +kernel
theorem dX9_shape_148 : decode cX9_shape 148 = .ok (.ireturn, 1) := by decide +kernel
theorem dX9_shape_149 : decode cX9_shape 149 = .ok (.aload_n 0, 1) := by decide +kernel
theorem dX9_shape_150 : decode cX9_shape 150 = .ok (.aload_n 0, 1) := by decide +kernel
theorem dX9_shape_151 : decode cX9_shape 151 = .ok (.getfield 208, 3) := by decide +kernel
theorem dX9_shape_154 : decode cX9_shape 154 = .ok (.putfield 235, 3) := by decide +kernel
theorem dX9_shape_157 : decode cX9_shape 157 = .ok (.iconst 0, 1) := by decide +kernel
theorem dX9_shape_158 : decode cX9_shape 158 = .ok (.istore_n 2, 1) := by decide +kernel
theorem dX9_shape_159 : decode cX9_shape 159 = .ok (.iload_n 2, 1) := by decide +kernel
theorem dX9_shape_160 : decode cX9_shape 160 = .ok (.aload_n 0, 1) := by decide +kernel
theorem dX9_shape_161 : decode cX9_shape 161 = .ok (.getfield 208, 3) := by decide +kernel
theorem dX9_shape_164 : decode cX9_shape 164 = .ok (.if_icmp .ge 33, 3) := by decide +kernel
theorem dX9_shape_167 : decode cX9_shape 167 = .ok (.aload_n 0, 1) := by decide +kernel
theorem dX9_shape_168 : decode cX9_shape 168 = .ok (.getfield 41, 3) := by decide +kernel
theorem dX9_shape_171 : decode cX9_shape 171 = .ok (.iload_n 2, 1) := by decide +kernel
theorem dX9_shape_172 : decode cX9_shape 172 = .ok (.aload_n 0, 1) := by decide +kernel
theorem dX9_shape_173 : decode cX9_shape 173 = .ok (.getfield 59, 3) := by decide +kernel
theorem dX9_shape_176 : decode cX9_shape 176 = .ok (.iload_n 2, 1) := by decide +kernel
theorem dX9_shape_177 : decode cX9_shape 177 = .ok (.iaload, 1) := by decide +kernel
theorem dX9_shape_178 : decode cX9_shape 178 = .ok (.iastore, 1) := by decide +kernel
theorem dX9_shape_179 : decode cX9_shape 179 = .ok (.aload_n 0, 1) := by decide +kernel
theorem dX9_shape_180 : decode cX9_shape 180 = .ok (.getfield 44, 3) := by decide +kernel
theorem dX9_shape_183 : decode cX9_shape 183 = .ok (.iload_n 2, 1) := by decide +kernel
theorem dX9_shape_184 : decode cX9_shape 184 = .ok (.aload_n 0, 1) := by decide +kernel
theorem dX9_shape_185 : decode cX9_shape 185 = .ok (.getfield 62, 3) := by decide +kernel
theorem dX9_shape_188 : decode cX9_shape 188 = .ok (.iload_n 2, 1) := by decide +kernel
theorem dX9_shape_189 : decode cX9_shape 189 = .ok (.iaload, 1) := by decide +kernel
theorem dX9_shape_190 : decode cX9_shape 190 = .ok (.iastore, 1) := by decide +kernel
theorem dX9_shape_191 : decode cX9_shape 191 = .ok (.iinc 2 1, 3) := by decide +kernel
theorem dX9_shape_194 : decode cX9_shape 194 = .ok (.goto (-35), 3) := by decide +kernel
theorem dX9_shape_197 : decode cX9_shape 197 = .ok (.iconst 0, 1) := by decide +kernel
theorem dX9_shape_198 : decode cX9_shape 198 = .ok (.istore_n 2, 1) := by decide +kernel
theorem dX9_shape_199 : decode cX9_shape 199 = .ok (.iload_n 2, 1) := by decide +kernel
theorem dX9_shape_200 : decode cX9_shape 200 = .ok (.aload_n 0, 1) := by decide +kernel
theorem dX9_shape_201 : decode cX9_shape 201 = .ok (.getfield 225, 3) := by decide +kernel
theorem dX9_shape_204 : decode cX9_shape 204 = .ok (.if_icmp .ge 57, 3) := by decide +kernel
theorem dX9_shape_207 : decode cX9_shape 207 = .ok (.aload_n 0, 1) := by decide +kernel
theorem dX9_shape_208 : decode cX9_shape 208 = .ok (.getfield 47, 3) := by decide +kernel
theorem dX9_shape_211 : decode cX9_shape 211 = .ok (.iload_n 2, 1) := by decide +kernel
theorem dX9_shape_212 : decode cX9_shape 212 = .ok (.aload_n 0, 1) := by decide +kernel
theorem dX9_shape_213 : decode cX9_shape 213 = .ok (.getfield 68, 3) := by decide +kernel
theorem dX9_shape_216 : decode cX9_shape 216 = .ok (.iload_n 2, 1) := by decide +kernel
theorem dX9_shape_217 : decode cX9_shape 217 = .ok (.iaload, 1) := by decide +kernel
theorem dX9_shape_218 : decode cX9_shape 218 = .ok (.iastore, 1) := by decide +kernel
theorem dX9_shape_219 : decode cX9_shape 219 = .ok (.aload_n 0, 1) := by decide +kernel
theorem dX9_shape_220 : decode cX9_shape 220 = .ok (.getfield 50, 3) := by decide +kernel
theorem dX9_shape_223 : decode cX9_shape 223 = .ok (.iload_n 2, 1) := by decide +kernel
theorem dX9_shape_224 : decode cX9_shape 224 = .ok (.aload_n 0, 1) := by decide +kernel
theorem dX9_shape_225 : decode cX9_shape 225 = .ok (.getfield 71, 3) := by decide +kernel
theorem dX9_shape_228 : decode cX9_shape 228 = .ok (.iload_n 2, 1) := by decide +kernel
theorem dX9_shape_229 : decode cX9_shape 229 = .ok (.iaload, 1) := by decide +kernel
theorem dX9_shape_230 : decode cX9_shape 230 = .ok (.iastore, 1) := by decide +kernel
theorem dX9_shape_231 : decode cX9_shape 231 = .ok (.aload_n 0, 1) := by decide +kernel
theorem dX9_shape_232 : decode cX9_shape 232 = .ok (.getfield 53, 3) := by decide +kernel
theorem dX9_shape_235 : decode cX9_shape 235 = .ok (.iload_n 2, 1) := by decide +kernel
theorem dX9_shape_236 : decode cX9_shape 236 = .ok (.aload_n 0, 1) := by decide +kernel
theorem dX9_shape_237 : decode cX9_shape 237 = .ok (.getfield 74, 3) := by decide +kernel
theorem dX9_shape_240 : decode cX9_shape 240 = .ok (.iload_n 2, 1) := by decide +kernel
theorem dX9_shape_241 : decode cX9_shape 241 = .ok (.iaload, 1) := by decide +kernel
theorem dX9_shape_242 : decode cX9_shape 242 = .ok (.iastore, 1) := by decide +kernel
theorem dX9_shape_243 : decode cX9_shape 243 = .ok (.aload_n 0, 1) := by decide +kernel
theorem dX9_shape_244 : decode cX9_shape 244 = .ok (.getfield 56, 3) := by decide +kernel
theorem dX9_shape_247 : decode cX9_shape 247 = .ok (.iload_n 2, 1) := by decide +kernel
theorem dX9_shape_248 : decode cX9_shape 248 = .ok (.aload_n 0, 1) := by decide +kernel
theorem dX9_shape_249 : decode cX9_shape 249 = .ok (.getfield 77, 3) := by decide +kernel
theorem dX9_shape_252 : decode cX9_shape 252 = .ok (.iload_n 2, 1) := by decide +kernel
theorem dX9_shape_253 : decode cX9_shape 253 = .ok (.iaload, 1) := by decide +kernel
theorem dX9_shape_254 : decode cX9_shape 254 = .ok (.iastore, 1) := by decide +kernel
theorem dX9_shape_255 : decode cX9_shape 255 = .ok (.iinc 2 1, 3) := by decide +kernel
theorem dX9_shape_258 : decode cX9_shape 258 = .ok (.goto (-59), 3) := by decide +kernel
theorem dX9_shape_261 : decode cX9_shape 261 = .ok (.aload_n 0, 1) := by decide +kernel
theorem dX9_shape_262 : decode cX9_shape 262 = .ok (.aload_n 0, 1) := by decide +kernel
theorem dX9_shape_263 : decode cX9_shape 263 = .ok (.getfield 235, 3) := by decide +kernel
theorem dX9_shape_266 : decode cX9_shape 266 = .ok (.invokevirtual 153, 3) := by decide +kernel
theorem dX9_shape_269 : decode cX9_shape 269 = .ok (.ireturn, 1) := by decide +kernel
theorem dX9_fault_0 : decode cX9_fault 0 = .ok (.aload_n 0, 1) := by decide +kernel
theorem dX9_fault_1 : decode cX9_fault 1 = .ok (.iconst 0, 1) := by decide +kernel
theorem dX9_fault_2 : decode cX9_fault 2 = .ok (.putfield 123, 3) := by decide +kernel
theorem dX9_fault_5 : decode cX9_fault 5 = .ok (.aload_n 0, 1) := by decide +kernel
theorem dX9_fault_6 : decode cX9_fault 6 = .ok (.getfield 86, 3) := by decide +kernel
theorem dX9_fault_9 : decode cX9_fault 9 = .ok (.ireturn, 1) := by decide +kernel
theorem dX9_write_0 : decode cX9_write 0 = .ok (.aload_n 0, 1) := by decide +kernel
theorem dX9_write_1 : decode cX9_write 1 = .ok (.getfield 238, 3) := by decide +kernel
theorem dX9_write_4 : decode cX9_write 4 = .ok (.sipush 600, 3) := by decide +kernel
theorem dX9_write_7 : decode cX9_write 7 = .ok (.if_icmp .ge 33, 3) := by decide +kernel
theorem dX9_write_10 : decode cX9_write 10 = .ok (.aload_n 0, 1) := by decide +kernel
theorem dX9_write_11 : decode cX9_write 11 = .ok (.getfield 90, 3) := by decide +kernel
theorem dX9_write_14 : decode cX9_write 14 = .ok (.aload_n 0, 1) := by decide +kernel
theorem dX9_write_15 : decode cX9_write 15 = .ok (.getfield 238, 3) := by decide +kernel
theorem dX9_write_18 : decode cX9_write 18 = .ok (.iload_n 1, 1) := by decide +kernel
theorem dX9_write_19 : decode cX9_write 19 = .ok (.iastore, 1) := by decide +kernel
theorem dX9_write_20 : decode cX9_write 20 = .ok (.aload_n 0, 1) := by decide +kernel
theorem dX9_write_21 : decode cX9_write 21 = .ok (.getfield 93, 3) := by decide +kernel
theorem dX9_write_24 : decode cX9_write 24 = .ok (.aload_n 0, 1) := by decide +kernel
theorem dX9_write_25 : decode cX9_write 25 = .ok (.getfield 238, 3) := by decide +kernel
theorem dX9_write_28 : decode cX9_write 28 = .ok (.iload_n 2, 1) := by decide +kernel
theorem dX9_write_29 : decode cX9_write 29 = .ok (.iastore, 1) := by decide +kernel
theorem dX9_write_30 : decode cX9_write 30 = .ok (.aload_n 0, 1) := by decide +kernel
theorem dX9_write_31 : decode cX9_write 31 = .ok (.dup, 1) := by decide +kernel
theorem dX9_write_32 : decode cX9_write 32 = .ok (.getfield 238, 3) := by decide +kernel
theorem dX9_write_35 : decode cX9_write 35 = .ok (.iconst 1, 1) := by decide +kernel
theorem dX9_write_36 : decode cX9_write 36 = .ok (.iadd, 1) := by decide +kernel
theorem dX9_write_37 : decode cX9_write 37 = .ok (.putfield 238, 3) := by decide +kernel
theorem dX9_write_40 : decode cX9_write 40 = .ok (.return_, 1) := by decide +kernel
theorem dX9_begin_0 : decode cX9_begin 0 = .ok (.aload_n 0, 1) := by decide +kernel
theorem dX9_begin_1 : decode cX9_begin 1 = .ok (.getfield 96, 3) := by decide +kernel
theorem dX9_begin_4 : decode cX9_begin 4 = .ok (.iload_n 2, 1) := by decide +kernel
theorem dX9_begin_5 : decode cX9_begin 5 = .ok (.baload, 1) := by decide +kernel
theorem dX9_begin_6 : decode cX9_begin 6 = .ok (.ifCond .eq 14, 3) := by decide +kernel
theorem dX9_begin_9 : decode cX9_begin 9 = .ok (.aload_n 0, 1) := by decide +kernel
theorem dX9_begin_10 : decode cX9_begin 10 = .ok (.sipush 20000, 3) := by decide +kernel
theorem dX9_begin_13 : decode cX9_begin 13 = .ok (.iload_n 2, 1) := by decide +kernel
theorem dX9_begin_14 : decode cX9_begin 14 = .ok (.iadd, 1) := by decide +kernel
theorem dX9_begin_15 : decode cX9_begin 15 = .ok (.iconst (-1), 1) := by decide +kernel
theorem dX9_begin_16 : decode cX9_begin 16 = .ok (.invokevirtual 241, 3) := by decide +kernel
theorem dX9_begin_19 : decode cX9_begin 19 = .ok (.return_, 1) := by decide +kernel
theorem dX9_begin_20 : decode cX9_begin 20 = .ok (.aload_n 0, 1) := by decide +kernel
theorem dX9_begin_21 : decode cX9_begin 21 = .ok (.getfield 96, 3) := by decide +kernel
theorem dX9_begin_24 : decode cX9_begin 24 = .ok (.iload_n 2, 1) := by decide +kernel
theorem dX9_begin_25 : decode cX9_begin 25 = .ok (.iconst 1, 1) := by decide +kernel
theorem dX9_begin_26 : decode cX9_begin 26 = .ok (.bastore, 1) := by decide +kernel
theorem dX9_begin_27 : decode cX9_begin 27 = .ok (.aload_n 0, 1) := by decide +kernel
theorem dX9_begin_28 : decode cX9_begin 28 = .ok (.sipush 10000, 3) := by decide +kernel
theorem dX9_begin_31 : decode cX9_begin 31 = .ok (.iload_n 2, 1) := by decide +kernel
theorem dX9_begin_32 : decode cX9_begin 32 = .ok (.iadd, 1) := by decide +kernel
theorem dX9_begin_33 : decode cX9_begin 33 = .ok (.iconst (-1), 1) := by decide +kernel
theorem dX9_begin_34 : decode cX9_begin 34 = .ok (.invokevirtual 241, 3) := by decide +kernel
theorem dX9_begin_37 : decode cX9_begin 37 = .ok (.aload_n 0, 1) := by decide +kernel
theorem dX9_begin_38 : decode cX9_begin 38 = .ok (.getfield 99, 3) := by decide +kernel
theorem dX9_begin_41 : decode cX9_begin 41 = .ok (.aload_n 0, 1) := by decide +kernel
theorem dX9_begin_42 : decode cX9_begin 42 = .ok (.getfield 245, 3) := by decide +kernel
theorem dX9_begin_45 : decode cX9_begin 45 = .ok (.iload_n 2, 1) := by decide +kernel
theorem dX9_begin_46 : decode cX9_begin 46 = .ok (.iastore, 1) := by decide +kernel
theorem dX9_begin_47 : decode cX9_begin 47 = .ok (.aload_n 0, 1) := by decide +kernel
theorem dX9_begin_48 : decode cX9_begin 48 = .ok (.getfield 102, 3) := by decide +kernel
theorem dX9_begin_51 : decode cX9_begin 51 = .ok (.aload_n 0, 1) := by decide +kernel
theorem dX9_begin_52 : decode cX9_begin 52 = .ok (.getfield 245, 3) := by decide +kernel
theorem dX9_begin_55 : decode cX9_begin 55 = .ok (.aload_n 0, 1) := by decide +kernel
theorem dX9_begin_56 : decode cX9_begin 56 = .ok (.getfield 44, 3) := by decide +kernel
theorem dX9_begin_59 : decode cX9_begin 59 = .ok (.iload_n 1, 1) := by decide +kernel
theorem dX9_begin_60 : decode cX9_begin 60 = .ok (.iaload, 1) := by decide +kernel
theorem dX9_begin_61 : decode cX9_begin 61 = .ok (.iastore, 1) := by decide +kernel
theorem dX9_begin_62 : decode cX9_begin 62 = .ok (.aload_n 0, 1) := by decide +kernel
theorem dX9_begin_63 : decode cX9_begin 63 = .ok (.getfield 105, 3) := by decide +kernel
theorem dX9_begin_66 : decode cX9_begin 66 = .ok (.aload_n 0, 1) := by decide +kernel
theorem dX9_begin_67 : decode cX9_begin 67 = .ok (.getfield 245, 3) := by decide +kernel
theorem dX9_begin_70 : decode cX9_begin 70 = .ok (.iconst 0, 1) := by decide +kernel
theorem dX9_begin_71 : decode cX9_begin 71 = .ok (.iastore, 1) := by decide +kernel
theorem dX9_begin_72 : decode cX9_begin 72 = .ok (.aload_n 0, 1) := by decide +kernel
theorem dX9_begin_73 : decode cX9_begin 73 = .ok (.dup, 1) := by decide +kernel
theorem dX9_begin_74 : decode cX9_begin 74 = .ok (.getfield 245, 3) := by decide +kernel
theorem dX9_begin_77 : decode cX9_begin 77 = .ok (.iconst 1, 1) := by decide +kernel
theorem dX9_begin_78 : decode cX9_begin 78 = .ok (.iadd, 1) := by decide +kernel
theorem dX9_begin_79 : decode cX9_begin 79 = .ok (.putfield 245, 3) := by decide +kernel
theorem dX9_begin_82 : decode cX9_begin 82 = .ok (.return_, 1) := by decide +kernel
theorem dX9_nextRow_0 : decode cX9_nextRow 0 = .ok (.aload_n 0, 1) := by decide +kernel
theorem dX9_nextRow_1 : decode cX9_nextRow 1 = .ok (.getfield 53, 3) := by decide +kernel
theorem dX9_nextRow_4 : decode cX9_nextRow 4 = .ok (.iload_n 1, 1) := by decide +kernel
theorem dX9_nextRow_5 : decode cX9_nextRow 5 = .ok (.iaload, 1) := by decide +kernel
theorem dX9_nextRow_6 : decode cX9_nextRow 6 = .ok (.istore 4, 2) := by decide +kernel
theorem dX9_nextRow_8 : decode cX9_nextRow 8 = .ok (.aload_n 0, 1) := by decide +kernel
theorem dX9_nextRow_9 : decode cX9_nextRow 9 = .ok (.getfield 47, 3) := by decide +kernel
theorem dX9_nextRow_12 : decode cX9_nextRow 12 = .ok (.iload_n 1, 1) := by decide +kernel
theorem dX9_nextRow_13 : decode cX9_nextRow 13 = .ok (.iaload, 1) := by decide +kernel
theorem dX9_nextRow_14 : decode cX9_nextRow 14 = .ok (.iconst 1, 1) := by decide +kernel
theorem dX9_nextRow_15 : decode cX9_nextRow 15 = .ok (.if_icmp .ne 64, 3) := by decide +kernel
theorem dX9_nextRow_18 : decode cX9_nextRow 18 = .ok (.aload_n 0, 1) := by decide +kernel
theorem dX9_nextRow_19 : decode cX9_nextRow 19 = .ok (.getfield 34, 3) := by decide +kernel
theorem dX9_nextRow_22 : decode cX9_nextRow 22 = .ok (.iconst 2, 1) := by decide +kernel
theorem dX9_nextRow_23 : decode cX9_nextRow 23 = .ok (.iload_n 2, 1) := by decide +kernel
theorem dX9_nextRow_24 : decode cX9_nextRow 24 = .ok (.imul, 1) := by decide +kernel
theorem dX9_nextRow_25 : decode cX9_nextRow 25 = .ok (.aload_n 0, 1) := by decide +kernel
theorem dX9_nextRow_26 : decode cX9_nextRow 26 = .ok (.getfield 50, 3) := by decide +kernel
theorem dX9_nextRow_29 : decode cX9_nextRow 29 = .ok (.iload_n 1, 1) := by decide +kernel
theorem dX9_nextRow_30 : decode cX9_nextRow 30 = .ok (.iaload, 1) := by decide +kernel
theorem dX9_nextRow_31 : decode cX9_nextRow 31 = .ok (.iadd, 1) := by decide +kernel
theorem dX9_nextRow_32 : decode cX9_nextRow 32 = .ok (.iaload, 1) := by decide +kernel
theorem dX9_nextRow_33 : decode cX9_nextRow 33 = .ok (.istore 5, 2) := by decide +kernel
theorem dX9_nextRow_35 : decode cX9_nextRow 35 = .ok (.iload_n 3, 1) := by decide +kernel
theorem dX9_nextRow_36 : decode cX9_nextRow 36 = .ok (.ifCond .ne 41, 3) := by decide +kernel
theorem dX9_nextRow_39 : decode cX9_nextRow 39 = .ok (.iload 5, 2) := by decide +kernel
theorem dX9_nextRow_41 : decode cX9_nextRow 41 = .ok (.iconst (-1), 1) := by decide +kernel
theorem dX9_nextRow_42 : decode cX9_nextRow 42 = .ok (.if_icmp .eq 35, 3) := by decide +kernel
theorem dX9_nextRow_45 : decode cX9_nextRow 45 = .ok (.aload_n 0, 1) := by decide +kernel
theorem dX9_nextRow_46 : decode cX9_nextRow 46 = .ok (.getfield 37, 3) := by decide +kernel
theorem dX9_nextRow_49 : decode cX9_nextRow 49 = .ok (.iload 5, 2) := by decide +kernel
theorem dX9_nextRow_51 : decode cX9_nextRow 51 = .ok (.baload, 1) := by decide +kernel
theorem dX9_nextRow_52 : decode cX9_nextRow 52 = .ok (.ifCond .eq 25, 3) := by decide +kernel
theorem dX9_nextRow_55 : decode cX9_nextRow 55 = .ok (.aload_n 0, 1) := by decide +kernel
theorem dX9_nextRow_56 : decode cX9_nextRow 56 = .ok (.getfield 28, 3) := by decide +kernel
theorem dX9_nextRow_59 : decode cX9_nextRow 59 = .ok (.iload 5, 2) := by decide +kernel
theorem dX9_nextRow_61 : decode cX9_nextRow 61 = .ok (.iaload, 1) := by decide +kernel
theorem dX9_nextRow_62 : decode cX9_nextRow 62 = .ok (.aload_n 0, 1) := by decide +kernel
theorem dX9_nextRow_63 : decode cX9_nextRow 63 = .ok (.getfield 41, 3) := by decide +kernel
theorem dX9_nextRow_66 : decode cX9_nextRow 66 = .ok (.iload 4, 2) := by decide +kernel
theorem dX9_nextRow_68 : decode cX9_nextRow 68 = .ok (.iaload, 1) := by decide +kernel
theorem dX9_nextRow_69 : decode cX9_nextRow 69 = .ok (.if_icmp .ne 8, 3) := by decide +kernel
theorem dX9_nextRow_72 : decode cX9_nextRow 72 = .ok (.iload 5, 2) := by decide +kernel
theorem dX9_nextRow_74 : decode cX9_nextRow 74 = .ok (.goto 4, 3) := by decide +kernel
theorem dX9_nextRow_77 : decode cX9_nextRow 77 = .ok (.iconst (-1), 1) := by decide +kernel
theorem dX9_nextRow_78 : decode cX9_nextRow 78 = .ok (.ireturn, 1) := by decide +kernel
theorem dX9_nextRow_79 : decode cX9_nextRow 79 = .ok (.iload_n 3, 1) := by decide +kernel
theorem dX9_nextRow_80 : decode cX9_nextRow 80 = .ok (.istore 5, 2) := by decide +kernel
theorem dX9_nextRow_82 : decode cX9_nextRow 82 = .ok (.iload 5, 2) := by decide +kernel
theorem dX9_nextRow_84 : decode cX9_nextRow 84 = .ok (.aload_n 0, 1) := by decide +kernel
theorem dX9_nextRow_85 : decode cX9_nextRow 85 = .ok (.getfield 136, 3) := by decide +kernel
theorem dX9_nextRow_88 : decode cX9_nextRow 88 = .ok (.if_icmp .ge 59, 3) := by decide +kernel
theorem dX9_nextRow_91 : decode cX9_nextRow 91 = .ok (.aload_n 0, 1) := by decide +kernel
theorem dX9_nextRow_92 : decode cX9_nextRow 92 = .ok (.getfield 37, 3) := by decide +kernel
theorem dX9_nextRow_95 : decode cX9_nextRow 95 = .ok (.iload 5, 2) := by decide +kernel
theorem dX9_nextRow_97 : decode cX9_nextRow 97 = .ok (.baload, 1) := by decide +kernel
theorem dX9_nextRow_98 : decode cX9_nextRow 98 = .ok (.ifCond .eq 43, 3) := by decide +kernel
theorem dX9_nextRow_101 : decode cX9_nextRow 101 = .ok (.aload_n 0, 1) := by decide +kernel
theorem dX9_nextRow_102 : decode cX9_nextRow 102 = .ok (.getfield 28, 3) := by decide +kernel
theorem dX9_nextRow_105 : decode cX9_nextRow 105 = .ok (.iload 5, 2) := by decide +kernel
theorem dX9_nextRow_107 : decode cX9_nextRow 107 = .ok (.iaload, 1) := by decide +kernel
theorem dX9_nextRow_108 : decode cX9_nextRow 108 = .ok (.aload_n 0, 1) := by decide +kernel
theorem dX9_nextRow_109 : decode cX9_nextRow 109 = .ok (.getfield 41, 3) := by decide +kernel
theorem dX9_nextRow_112 : decode cX9_nextRow 112 = .ok (.iload 4, 2) := by decide +kernel
theorem dX9_nextRow_114 : decode cX9_nextRow 114 = .ok (.iaload, 1) := by decide +kernel
theorem dX9_nextRow_115 : decode cX9_nextRow 115 = .ok (.if_icmp .ne 26, 3) := by decide +kernel
theorem dX9_nextRow_118 : decode cX9_nextRow 118 = .ok (.aload_n 0, 1) := by decide +kernel
theorem dX9_nextRow_119 : decode cX9_nextRow 119 = .ok (.getfield 34, 3) := by decide +kernel
theorem dX9_nextRow_122 : decode cX9_nextRow 122 = .ok (.iconst 2, 1) := by decide +kernel
theorem dX9_nextRow_123 : decode cX9_nextRow 123 = .ok (.iload 5, 2) := by decide +kernel
theorem dX9_nextRow_125 : decode cX9_nextRow 125 = .ok (.imul, 1) := by decide +kernel
theorem dX9_nextRow_126 : decode cX9_nextRow 126 = .ok (.aload_n 0, 1) := by decide +kernel
theorem dX9_nextRow_127 : decode cX9_nextRow 127 = .ok (.getfield 50, 3) := by decide +kernel
theorem dX9_nextRow_130 : decode cX9_nextRow 130 = .ok (.iload_n 1, 1) := by decide +kernel
theorem dX9_nextRow_131 : decode cX9_nextRow 131 = .ok (.iaload, 1) := by decide +kernel
theorem dX9_nextRow_132 : decode cX9_nextRow 132 = .ok (.iadd, 1) := by decide +kernel
theorem dX9_nextRow_133 : decode cX9_nextRow 133 = .ok (.iaload, 1) := by decide +kernel
theorem dX9_nextRow_134 : decode cX9_nextRow 134 = .ok (.iload_n 2, 1) := by decide +kernel
theorem dX9_nextRow_135 : decode cX9_nextRow 135 = .ok (.if_icmp .ne 6, 3) := by decide +kernel
theorem dX9_nextRow_138 : decode cX9_nextRow 138 = .ok (.iload 5, 2) := by decide +kernel
theorem dX9_nextRow_140 : decode cX9_nextRow 140 = .ok (.ireturn, 1) := by decide +kernel
theorem dX9_nextRow_141 : decode cX9_nextRow 141 = .ok (.iinc 5 1, 3) := by decide +kernel
theorem dX9_nextRow_144 : decode cX9_nextRow 144 = .ok (.goto (-62), 3) := by decide +kernel
theorem dX9_nextRow_147 : decode cX9_nextRow 147 = .ok (.iconst (-1), 1) := by decide +kernel
theorem dX9_nextRow_148 : decode cX9_nextRow 148 = .ok (.ireturn, 1) := by decide +kernel
theorem dX9_make_0 : decode cX9_make 0 = .ok (.aload_n 0, 1) := by decide +kernel
theorem dX9_make_1 : decode cX9_make 1 = .ok (.iconst 0, 1) := by decide +kernel
theorem dX9_make_2 : decode cX9_make 2 = .ok (.putfield 238, 3) := by decide +kernel
theorem dX9_make_5 : decode cX9_make 5 = .ok (.aload_n 0, 1) := by decide +kernel
theorem dX9_make_6 : decode cX9_make 6 = .ok (.iconst 0, 1) := by decide +kernel
theorem dX9_make_7 : decode cX9_make 7 = .ok (.putfield 245, 3) := by decide +kernel
theorem dX9_make_10 : decode cX9_make 10 = .ok (.iconst 0, 1) := by decide +kernel
theorem dX9_make_11 : decode cX9_make 11 = .ok (.istore_n 2, 1) := by decide +kernel
theorem dX9_make_12 : decode cX9_make 12 = .ok (.iload_n 2, 1) := by decide +kernel
theorem dX9_make_13 : decode cX9_make 13 = .ok (.bipush 60, 2) := by decide +kernel
theorem dX9_make_15 : decode cX9_make 15 = .ok (.if_icmp .ge 16, 3) := by decide +kernel
theorem dX9_make_18 : decode cX9_make 18 = .ok (.aload_n 0, 1) := by decide +kernel
theorem dX9_make_19 : decode cX9_make 19 = .ok (.getfield 96, 3) := by decide +kernel
theorem dX9_make_22 : decode cX9_make 22 = .ok (.iload_n 2, 1) := by decide +kernel
theorem dX9_make_23 : decode cX9_make 23 = .ok (.iconst 0, 1) := by decide +kernel
theorem dX9_make_24 : decode cX9_make 24 = .ok (.bastore, 1) := by decide +kernel
theorem dX9_make_25 : decode cX9_make 25 = .ok (.iinc 2 1, 3) := by decide +kernel
theorem dX9_make_28 : decode cX9_make 28 = .ok (.goto (-16), 3) := by decide +kernel
theorem dX9_make_31 : decode cX9_make 31 = .ok (.aload_n 0, 1) := by decide +kernel
theorem dX9_make_32 : decode cX9_make 32 = .ok (.getfield 235, 3) := by decide +kernel
theorem dX9_make_35 : decode cX9_make 35 = .ok (.ifCond .eq 26, 3) := by decide +kernel
theorem dX9_make_38 : decode cX9_make 38 = .ok (.aload_n 0, 1) := by decide +kernel
theorem dX9_make_39 : decode cX9_make 39 = .ok (.iload_n 1, 1) := by decide +kernel
theorem dX9_make_40 : decode cX9_make 40 = .ok (.invokevirtual 157, 3) := by decide +kernel
theorem dX9_make_43 : decode cX9_make 43 = .ok (.ifCond .eq 18, 3) := by decide +kernel
theorem dX9_make_46 : decode cX9_make 46 = .ok (.aload_n 0, 1) := by decide +kernel
theorem dX9_make_47 : decode cX9_make 47 = .ok (.getfield 28, 3) := by decide +kernel
theorem dX9_make_50 : decode cX9_make 50 = .ok (.iload_n 1, 1) := by decide +kernel
theorem dX9_make_51 : decode cX9_make 51 = .ok (.iaload, 1) := by decide +kernel
theorem dX9_make_52 : decode cX9_make 52 = .ok (.aload_n 0, 1) := by decide +kernel
theorem dX9_make_53 : decode cX9_make 53 = .ok (.getfield 41, 3) := by decide +kernel
theorem dX9_make_56 : decode cX9_make 56 = .ok (.iconst 0, 1) := by decide +kernel
theorem dX9_make_57 : decode cX9_make 57 = .ok (.iaload, 1) := by decide +kernel
theorem dX9_make_58 : decode cX9_make 58 = .ok (.if_icmp .eq 4, 3) := by decide +kernel
theorem dX9_make_61 : decode cX9_make 61 = .ok (.return_, 1) := by decide +kernel
theorem dX9_make_62 : decode cX9_make 62 = .ok (.aload_n 0, 1) := by decide +kernel
theorem dX9_make_63 : decode cX9_make 63 = .ok (.iconst 0, 1) := by decide +kernel
theorem dX9_make_64 : decode cX9_make 64 = .ok (.iload_n 1, 1) := by decide +kernel
theorem dX9_make_65 : decode cX9_make 65 = .ok (.invokevirtual 248, 3) := by decide +kernel
theorem dX9_make_68 : decode cX9_make 68 = .ok (.aload_n 0, 1) := by decide +kernel
theorem dX9_make_69 : decode cX9_make 69 = .ok (.getfield 245, 3) := by decide +kernel
theorem dX9_make_72 : decode cX9_make 72 = .ok (.ifCond .le 174, 3) := by decide +kernel
theorem dX9_make_75 : decode cX9_make 75 = .ok (.aload_n 0, 1) := by decide +kernel
theorem dX9_make_76 : decode cX9_make 76 = .ok (.getfield 245, 3) := by decide +kernel
theorem dX9_make_79 : decode cX9_make 79 = .ok (.iconst 1, 1) := by decide +kernel
theorem dX9_make_80 : decode cX9_make 80 = .ok (.isub, 1) := by decide +kernel
theorem dX9_make_81 : decode cX9_make 81 = .ok (.istore_n 2, 1) := by decide +kernel
theorem dX9_make_82 : decode cX9_make 82 = .ok (.aload_n 0, 1) := by decide +kernel
theorem dX9_make_83 : decode cX9_make 83 = .ok (.getfield 102, 3) := by decide +kernel
theorem dX9_make_86 : decode cX9_make 86 = .ok (.iload_n 2, 1) := by decide +kernel
theorem dX9_make_87 : decode cX9_make 87 = .ok (.iaload, 1) := by decide +kernel
theorem dX9_make_88 : decode cX9_make 88 = .ok (.istore_n 3, 1) := by decide +kernel
theorem dX9_make_89 : decode cX9_make 89 = .ok (.iload_n 3, 1) := by decide +kernel
theorem dX9_make_90 : decode cX9_make 90 = .ok (.iconst (-1), 1) := by decide +kernel
theorem dX9_make_91 : decode cX9_make 91 = .ok (.if_icmp .ne 24, 3) := by decide +kernel
theorem dX9_make_94 : decode cX9_make 94 = .ok (.aload_n 0, 1) := by decide +kernel
theorem dX9_make_95 : decode cX9_make 95 = .ok (.sipush 30000, 3) := by decide +kernel
theorem dX9_make_98 : decode cX9_make 98 = .ok (.iconst (-1), 1) := by decide +kernel
theorem dX9_make_99 : decode cX9_make 99 = .ok (.invokevirtual 241, 3) := by decide +kernel
theorem dX9_make_102 : decode cX9_make 102 = .ok (.aload_n 0, 1) := by decide +kernel
theorem dX9_make_103 : decode cX9_make 103 = .ok (.dup, 1) := by decide +kernel
theorem dX9_make_104 : decode cX9_make 104 = .ok (.getfield 245, 3) := by decide +kernel
theorem dX9_make_107 : decode cX9_make 107 = .ok (.iconst 1, 1) := by decide +kernel
theorem dX9_make_108 : decode cX9_make 108 = .ok (.isub, 1) := by decide +kernel
theorem dX9_make_109 : decode cX9_make 109 = .ok (.putfield 245, 3) := by decide +kernel
theorem dX9_make_112 : decode cX9_make 112 = .ok (.goto 131, 3) := by decide +kernel
theorem dX9_make_115 : decode cX9_make 115 = .ok (.aload_n 0, 1) := by decide +kernel
theorem dX9_make_116 : decode cX9_make 116 = .ok (.getfield 47, 3) := by decide +kernel
theorem dX9_make_119 : decode cX9_make 119 = .ok (.iload_n 3, 1) := by decide +kernel
theorem dX9_make_120 : decode cX9_make 120 = .ok (.iaload, 1) := by decide +kernel
theorem dX9_make_121 : decode cX9_make 121 = .ok (.ifCond .ne 39, 3) := by decide +kernel
theorem dX9_make_124 : decode cX9_make 124 = .ok (.aload_n 0, 1) := by decide +kernel
theorem dX9_make_125 : decode cX9_make 125 = .ok (.aload_n 0, 1) := by decide +kernel
theorem dX9_make_126 : decode cX9_make 126 = .ok (.getfield 31, 3) := by decide +kernel
theorem dX9_make_129 : decode cX9_make 129 = .ok (.aload_n 0, 1) := by decide +kernel
theorem dX9_make_130 : decode cX9_make 130 = .ok (.getfield 99, 3) := by decide +kernel
theorem dX9_make_133 : decode cX9_make 133 = .ok (.iload_n 2, 1) := by decide +kernel
theorem dX9_make_134 : decode cX9_make 134 = .ok (.iaload, 1) := by decide +kernel
theorem dX9_make_135 : decode cX9_make 135 = .ok (.iaload, 1) := by decide +kernel
theorem dX9_make_136 : decode cX9_make 136 = .ok (.aload_n 0, 1) := by decide +kernel
theorem dX9_make_137 : decode cX9_make 137 = .ok (.getfield 99, 3) := by decide +kernel
theorem dX9_make_140 : decode cX9_make 140 = .ok (.iload_n 2, 1) := by decide +kernel
theorem dX9_make_141 : decode cX9_make 141 = .ok (.iaload, 1) := by decide +kernel
theorem dX9_make_142 : decode cX9_make 142 = .ok (.invokevirtual 241, 3) := by decide +kernel
theorem dX9_make_145 : decode cX9_make 145 = .ok (.aload_n 0, 1) := by decide +kernel
theorem dX9_make_146 : decode cX9_make 146 = .ok (.getfield 102, 3) := by decide +kernel
theorem dX9_make_149 : decode cX9_make 149 = .ok (.iload_n 2, 1) := by decide +kernel
theorem dX9_make_150 : decode cX9_make 150 = .ok (.aload_n 0, 1) := by decide +kernel
theorem dX9_make_151 : decode cX9_make 151 = .ok (.getfield 56, 3) := by decide +kernel
theorem dX9_make_154 : decode cX9_make 154 = .ok (.iload_n 3, 1) := by decide +kernel
theorem dX9_make_155 : decode cX9_make 155 = .ok (.iaload, 1) := by decide +kernel
theorem dX9_make_156 : decode cX9_make 156 = .ok (.iastore, 1) := by decide +kernel
theorem dX9_make_157 : decode cX9_make 157 = .ok (.goto 86, 3) := by decide +kernel
theorem dX9_make_160 : decode cX9_make 160 = .ok (.aload_n 0, 1) := by decide +kernel
theorem dX9_make_161 : decode cX9_make 161 = .ok (.iload_n 3, 1) := by decide +kernel
theorem dX9_make_162 : decode cX9_make 162 = .ok (.aload_n 0, 1) := by decide +kernel
theorem dX9_make_163 : decode cX9_make 163 = .ok (.getfield 99, 3) := by decide +kernel
theorem dX9_make_166 : decode cX9_make 166 = .ok (.iload_n 2, 1) := by decide +kernel
theorem dX9_make_167 : decode cX9_make 167 = .ok (.iaload, 1) := by decide +kernel
theorem dX9_make_168 : decode cX9_make 168 = .ok (.aload_n 0, 1) := by decide +kernel
theorem dX9_make_169 : decode cX9_make 169 = .ok (.getfield 105, 3) := by decide +kernel
theorem dX9_make_172 : decode cX9_make 172 = .ok (.iload_n 2, 1) := by decide +kernel
theorem dX9_make_173 : decode cX9_make 173 = .ok (.iaload, 1) := by decide +kernel
theorem dX9_make_174 : decode cX9_make 174 = .ok (.invokevirtual 251, 3) := by decide +kernel
theorem dX9_make_177 : decode cX9_make 177 = .ok (.istore 4, 2) := by decide +kernel
theorem dX9_make_179 : decode cX9_make 179 = .ok (.iload 4, 2) := by decide +kernel
theorem dX9_make_181 : decode cX9_make 181 = .ok (.iconst (-1), 1) := by decide +kernel
theorem dX9_make_182 : decode cX9_make 182 = .ok (.if_icmp .ne 25, 3) := by decide +kernel
theorem dX9_make_185 : decode cX9_make 185 = .ok (.aload_n 0, 1) := by decide +kernel
theorem dX9_make_186 : decode cX9_make 186 = .ok (.getfield 102, 3) := by decide +kernel
theorem dX9_make_189 : decode cX9_make 189 = .ok (.iload_n 2, 1) := by decide +kernel
theorem dX9_make_190 : decode cX9_make 190 = .ok (.aload_n 0, 1) := by decide +kernel
theorem dX9_make_191 : decode cX9_make 191 = .ok (.getfield 56, 3) := by decide +kernel
theorem dX9_make_194 : decode cX9_make 194 = .ok (.iload_n 3, 1) := by decide +kernel
theorem dX9_make_195 : decode cX9_make 195 = .ok (.iaload, 1) := by decide +kernel
theorem dX9_make_196 : decode cX9_make 196 = .ok (.iastore, 1) := by decide +kernel
theorem dX9_make_197 : decode cX9_make 197 = .ok (.aload_n 0, 1) := by decide +kernel
theorem dX9_make_198 : decode cX9_make 198 = .ok (.getfield 105, 3) := by decide +kernel
theorem dX9_make_201 : decode cX9_make 201 = .ok (.iload_n 2, 1) := by decide +kernel
theorem dX9_make_202 : decode cX9_make 202 = .ok (.iconst 0, 1) := by decide +kernel
theorem dX9_make_203 : decode cX9_make 203 = .ok (.iastore, 1) := by decide +kernel
theorem dX9_make_204 : decode cX9_make 204 = .ok (.goto 39, 3) := by decide +kernel
theorem dX9_make_207 : decode cX9_make 207 = .ok (.aload_n 0, 1) := by decide +kernel
theorem dX9_make_208 : decode cX9_make 208 = .ok (.getfield 105, 3) := by decide +kernel
theorem dX9_make_211 : decode cX9_make 211 = .ok (.iload_n 2, 1) := by decide +kernel
theorem dX9_make_212 : decode cX9_make 212 = .ok (.aload_n 0, 1) := by decide +kernel
theorem dX9_make_213 : decode cX9_make 213 = .ok (.getfield 47, 3) := by decide +kernel
theorem dX9_make_216 : decode cX9_make 216 = .ok (.iload_n 3, 1) := by decide +kernel
theorem dX9_make_217 : decode cX9_make 217 = .ok (.iaload, 1) := by decide +kernel
theorem dX9_make_218 : decode cX9_make 218 = .ok (.iconst 1, 1) := by decide +kernel
theorem dX9_make_219 : decode cX9_make 219 = .ok (.if_icmp .ne 7, 3) := by decide +kernel
theorem dX9_make_222 : decode cX9_make 222 = .ok (.iconst 1, 1) := by decide +kernel
theorem dX9_make_223 : decode cX9_make 223 = .ok (.goto 7, 3) := by decide +kernel
theorem dX9_make_226 : decode cX9_make 226 = .ok (.iload 4, 2) := by decide +kernel
theorem dX9_make_228 : decode cX9_make 228 = .ok (.iconst 1, 1) := by decide +kernel
theorem dX9_make_229 : decode cX9_make 229 = .ok (.iadd, 1) := by decide +kernel
theorem dX9_make_230 : decode cX9_make 230 = .ok (.iastore, 1) := by decide +kernel
theorem dX9_make_231 : decode cX9_make 231 = .ok (.aload_n 0, 1) := by decide +kernel
theorem dX9_make_232 : decode cX9_make 232 = .ok (.aload_n 0, 1) := by decide +kernel
theorem dX9_make_233 : decode cX9_make 233 = .ok (.getfield 53, 3) := by decide +kernel
theorem dX9_make_236 : decode cX9_make 236 = .ok (.iload_n 3, 1) := by decide +kernel
theorem dX9_make_237 : decode cX9_make 237 = .ok (.iaload, 1) := by decide +kernel
theorem dX9_make_238 : decode cX9_make 238 = .ok (.iload 4, 2) := by decide +kernel
theorem dX9_make_240 : decode cX9_make 240 = .ok (.invokevirtual 248, 3) := by decide +kernel
theorem dX9_make_243 : decode cX9_make 243 = .ok (.goto (-175), 3) := by decide +kernel
theorem dX9_make_246 : decode cX9_make 246 = .ok (.return_, 1) := by decide +kernel
theorem dX9_size_0 : decode cX9_size 0 = .ok (.aload_n 0, 1) := by decide +kernel
theorem dX9_size_1 : decode cX9_size 1 = .ok (.iconst 0, 1) := by decide +kernel
theorem dX9_size_2 : decode cX9_size 2 = .ok (.putfield 123, 3) := by decide +kernel
theorem dX9_size_5 : decode cX9_size 5 = .ok (.aload_n 0, 1) := by decide +kernel
theorem dX9_size_6 : decode cX9_size 6 = .ok (.iload_n 1, 1) := by decide +kernel
theorem dX9_size_7 : decode cX9_size 7 = .ok (.invokevirtual 255, 3) := by decide +kernel
theorem dX9_size_10 : decode cX9_size 10 = .ok (.aload_n 0, 1) := by decide +kernel
theorem dX9_size_11 : decode cX9_size 11 = .ok (.getfield 238, 3) := by decide +kernel
theorem dX9_size_14 : decode cX9_size 14 = .ok (.ireturn, 1) := by decide +kernel
theorem dX9_mark_0 : decode cX9_mark 0 = .ok (.aload_n 0, 1) := by decide +kernel
theorem dX9_mark_1 : decode cX9_mark 1 = .ok (.iconst 0, 1) := by decide +kernel
theorem dX9_mark_2 : decode cX9_mark 2 = .ok (.putfield 123, 3) := by decide +kernel
theorem dX9_mark_5 : decode cX9_mark 5 = .ok (.aload_n 0, 1) := by decide +kernel
theorem dX9_mark_6 : decode cX9_mark 6 = .ok (.iload_n 1, 1) := by decide +kernel
theorem dX9_mark_7 : decode cX9_mark 7 = .ok (.invokevirtual 255, 3) := by decide +kernel
theorem dX9_mark_10 : decode cX9_mark 10 = .ok (.iload_n 2, 1) := by decide +kernel
theorem dX9_mark_11 : decode cX9_mark 11 = .ok (.i2l, 1) := by decide +kernel
theorem dX9_mark_12 : decode cX9_mark 12 = .ok (.lconst 0, 1) := by decide +kernel
theorem dX9_mark_13 : decode cX9_mark 13 = .ok (.aload_n 0, 1) := by decide +kernel
theorem dX9_mark_14 : decode cX9_mark 14 = .ok (.getfield 238, 3) := by decide +kernel
theorem dX9_mark_17 : decode cX9_mark 17 = .ok (.i2l, 1) := by decide +kernel
theorem dX9_mark_18 : decode cX9_mark 18 = .ok (.lconst 1, 1) := by decide +kernel
theorem dX9_mark_19 : decode cX9_mark 19 = .ok (.lsub, 1) := by decide +kernel
theorem dX9_mark_20 : decode cX9_mark 20 = .ok (.invokestatic 139, 3) := by decide +kernel
theorem dX9_mark_23 : decode cX9_mark 23 = .ok (.ifCond .eq 12, 3) := by decide +kernel
theorem dX9_mark_26 : decode cX9_mark 26 = .ok (.aload_n 0, 1) := by decide +kernel
theorem dX9_mark_27 : decode cX9_mark 27 = .ok (.getfield 90, 3) := by decide +kernel
theorem dX9_mark_30 : decode cX9_mark 30 = .ok (.iload_n 2, 1) := by decide +kernel
theorem dX9_mark_31 : decode cX9_mark 31 = .ok (.iaload, 1) := by decide +kernel
theorem dX9_mark_32 : decode cX9_mark 32 = .ok (.goto 6, 3) := by decide +kernel
theorem dX9_mark_35 : decode cX9_mark 35 = .ok (.sipush (-5000), 3) := by decide +kernel
theorem dX9_mark_38 : decode cX9_mark 38 = .ok (.ireturn, 1) := by decide +kernel
theorem dX9_page_0 : decode cX9_page 0 = .ok (.aload_n 0, 1) := by decide +kernel
theorem dX9_page_1 : decode cX9_page 1 = .ok (.iconst 0, 1) := by decide +kernel
theorem dX9_page_2 : decode cX9_page 2 = .ok (.putfield 123, 3) := by decide +kernel
theorem dX9_page_5 : decode cX9_page 5 = .ok (.iload_n 2, 1) := by decide +kernel
theorem dX9_page_6 : decode cX9_page 6 = .ok (.i2l, 1) := by decide +kernel
theorem dX9_page_7 : decode cX9_page 7 = .ok (.lconst 1, 1) := by decide +kernel
theorem dX9_page_8 : decode cX9_page 8 = .ok (.ldc2_w 258, 3) := by decide +kernel
theorem dX9_page_11 : decode cX9_page 11 = .ok (.invokestatic 139, 3) := by decide +kernel
theorem dX9_page_14 : decode cX9_page 14 = .ok (.ifCond .eq 19, 3) := by decide +kernel
theorem dX9_page_17 : decode cX9_page 17 = .ok (.iload_n 3, 1) := by decide +kernel
theorem dX9_page_18 : decode cX9_page 18 = .ok (.i2l, 1) := by decide +kernel
theorem dX9_page_19 : decode cX9_page 19 = .ok (.lconst 0, 1) := by decide +kernel
theorem dX9_page_20 : decode cX9_page 20 = .ok (.ldc2_w 260, 3) := by decide +kernel
theorem dX9_page_23 : decode cX9_page 23 = .ok (.invokestatic 139, 3) := by decide +kernel
theorem dX9_page_26 : decode cX9_page 26 = .ok (.ifCond .eq 7, 3) := by decide +kernel
theorem dX9_page_29 : decode cX9_page 29 = .ok (.iconst 1, 1) := by decide +kernel
theorem dX9_page_30 : decode cX9_page 30 = .ok (.goto 4, 3) := by decide +kernel
theorem dX9_page_33 : decode cX9_page 33 = .ok (.iconst 0, 1) := by decide +kernel
theorem dX9_page_34 : decode cX9_page 34 = .ok (.istore 5, 2) := by decide +kernel
theorem dX9_page_36 : decode cX9_page 36 = .ok (.aload_n 0, 1) := by decide +kernel
theorem dX9_page_37 : decode cX9_page 37 = .ok (.iload_n 1, 1) := by decide +kernel
theorem dX9_page_38 : decode cX9_page 38 = .ok (.invokevirtual 255, 3) := by decide +kernel
theorem dX9_page_41 : decode cX9_page 41 = .ok (.iload 5, 2) := by decide +kernel
theorem dX9_page_43 : decode cX9_page 43 = .ok (.ifCond .eq 14, 3) := by decide +kernel
theorem dX9_page_46 : decode cX9_page 46 = .ok (.aload_n 0, 1) := by decide +kernel
theorem dX9_page_47 : decode cX9_page 47 = .ok (.getfield 238, 3) := by decide +kernel
theorem dX9_page_50 : decode cX9_page 50 = .ok (.iload_n 2, 1) := by decide +kernel
theorem dX9_page_51 : decode cX9_page 51 = .ok (.iload_n 3, 1) := by decide +kernel
theorem dX9_page_52 : decode cX9_page 52 = .ok (.imul, 1) := by decide +kernel
theorem dX9_page_53 : decode cX9_page 53 = .ok (.isub, 1) := by decide +kernel
theorem dX9_page_54 : decode cX9_page 54 = .ok (.goto 4, 3) := by decide +kernel
theorem dX9_page_57 : decode cX9_page 57 = .ok (.iconst 0, 1) := by decide +kernel
theorem dX9_page_58 : decode cX9_page 58 = .ok (.istore 6, 2) := by decide +kernel
theorem dX9_page_60 : decode cX9_page 60 = .ok (.iload 5, 2) := by decide +kernel
theorem dX9_page_62 : decode cX9_page 62 = .ok (.ifCond .eq 8, 3) := by decide +kernel
theorem dX9_page_65 : decode cX9_page 65 = .ok (.iload 6, 2) := by decide +kernel
theorem dX9_page_67 : decode cX9_page 67 = .ok (.ifCond .ge 7, 3) := by decide +kernel
theorem dX9_page_70 : decode cX9_page 70 = .ok (.iconst 0, 1) := by decide +kernel
theorem dX9_page_71 : decode cX9_page 71 = .ok (.goto 15, 3) := by decide +kernel
theorem dX9_page_74 : decode cX9_page 74 = .ok (.iload 6, 2) := by decide +kernel
theorem dX9_page_76 : decode cX9_page 76 = .ok (.iload_n 2, 1) := by decide +kernel
theorem dX9_page_77 : decode cX9_page 77 = .ok (.if_icmp .le 7, 3) := by decide +kernel
theorem dX9_page_80 : decode cX9_page 80 = .ok (.iload_n 2, 1) := by decide +kernel
theorem dX9_page_81 : decode cX9_page 81 = .ok (.goto 5, 3) := by decide +kernel
theorem dX9_page_84 : decode cX9_page 84 = .ok (.iload 6, 2) := by decide +kernel
theorem dX9_page_86 : decode cX9_page 86 = .ok (.istore 7, 2) := by decide +kernel
theorem dX9_page_88 : decode cX9_page 88 = .ok (.iload 4, 2) := by decide +kernel
theorem dX9_page_90 : decode cX9_page 90 = .ok (.iconst (-1), 1) := by decide +kernel
theorem dX9_page_91 : decode cX9_page 91 = .ok (.if_icmp .ne 8, 3) := by decide +kernel
theorem dX9_page_94 : decode cX9_page 94 = .ok (.iload 7, 2) := by decide +kernel
theorem dX9_page_96 : decode cX9_page 96 = .ok (.goto 35, 3) := by decide +kernel
theorem dX9_page_99 : decode cX9_page 99 = .ok (.iload 4, 2) := by decide +kernel
theorem dX9_page_101 : decode cX9_page 101 = .ok (.i2l, 1) := by decide +kernel
theorem dX9_page_102 : decode cX9_page 102 = .ok (.lconst 0, 1) := by decide +kernel
theorem dX9_page_103 : decode cX9_page 103 = .ok (.iload 7, 2) := by decide +kernel
theorem dX9_page_105 : decode cX9_page 105 = .ok (.i2l, 1) := by decide +kernel
theorem dX9_page_106 : decode cX9_page 106 = .ok (.lconst 1, 1) := by decide +kernel
theorem dX9_page_107 : decode cX9_page 107 = .ok (.lsub, 1) := by decide +kernel
theorem dX9_page_108 : decode cX9_page 108 = .ok (.invokestatic 139, 3) := by decide +kernel
theorem dX9_page_111 : decode cX9_page 111 = .ok (.ifCond .eq 17, 3) := by decide +kernel
theorem dX9_page_114 : decode cX9_page 114 = .ok (.aload_n 0, 1) := by decide +kernel
theorem dX9_page_115 : decode cX9_page 115 = .ok (.getfield 90, 3) := by decide +kernel
theorem dX9_page_118 : decode cX9_page 118 = .ok (.iload_n 2, 1) := by decide +kernel
theorem dX9_page_119 : decode cX9_page 119 = .ok (.iload_n 3, 1) := by decide +kernel
theorem dX9_page_120 : decode cX9_page 120 = .ok (.imul, 1) := by decide +kernel
theorem dX9_page_121 : decode cX9_page 121 = .ok (.iload 4, 2) := by decide +kernel
theorem dX9_page_123 : decode cX9_page 123 = .ok (.iadd, 1) := by decide +kernel
theorem dX9_page_124 : decode cX9_page 124 = .ok (.iaload, 1) := by decide +kernel
theorem dX9_page_125 : decode cX9_page 125 = .ok (.goto 6, 3) := by decide +kernel
theorem dX9_page_128 : decode cX9_page 128 = .ok (.sipush (-5000), 3) := by decide +kernel
theorem dX9_page_131 : decode cX9_page 131 = .ok (.ireturn, 1) := by decide +kernel
theorem dX9_asOf_0 : decode cX9_asOf 0 = .ok (.aload_n 0, 1) := by decide +kernel
theorem dX9_asOf_1 : decode cX9_asOf 1 = .ok (.iconst 0, 1) := by decide +kernel
theorem dX9_asOf_2 : decode cX9_asOf 2 = .ok (.putfield 123, 3) := by decide +kernel
theorem dX9_asOf_5 : decode cX9_asOf 5 = .ok (.sipush (-5000), 3) := by decide +kernel
theorem dX9_asOf_8 : decode cX9_asOf 8 = .ok (.istore 4, 2) := by decide +kernel
theorem dX9_asOf_10 : decode cX9_asOf 10 = .ok (.iload_n 1, 1) := by decide +kernel
theorem dX9_asOf_11 : decode cX9_asOf 11 = .ok (.i2l, 1) := by decide +kernel
theorem dX9_asOf_12 : decode cX9_asOf 12 = .ok (.lconst 0, 1) := by decide +kernel
theorem dX9_asOf_13 : decode cX9_asOf 13 = .ok (.aload_n 0, 1) := by decide +kernel
theorem dX9_asOf_14 : decode cX9_asOf 14 = .ok (.getfield 129, 3) := by decide +kernel
theorem dX9_asOf_17 : decode cX9_asOf 17 = .ok (.i2l, 1) := by decide +kernel
theorem dX9_asOf_18 : decode cX9_asOf 18 = .ok (.invokestatic 139, 3) := by decide +kernel
theorem dX9_asOf_21 : decode cX9_asOf 21 = .ok (.ifCond .eq 66, 3) := by decide +kernel
theorem dX9_asOf_24 : decode cX9_asOf 24 = .ok (.aload_n 0, 1) := by decide +kernel
theorem dX9_asOf_25 : decode cX9_asOf 25 = .ok (.iload_n 1, 1) := by decide +kernel
theorem dX9_asOf_26 : decode cX9_asOf 26 = .ok (.invokevirtual 262, 3) := by decide +kernel
theorem dX9_asOf_29 : decode cX9_asOf 29 = .ok (.aload_n 0, 1) := by decide +kernel
theorem dX9_asOf_30 : decode cX9_asOf 30 = .ok (.iload_n 2, 1) := by decide +kernel
theorem dX9_asOf_31 : decode cX9_asOf 31 = .ok (.invokevirtual 255, 3) := by decide +kernel
theorem dX9_asOf_34 : decode cX9_asOf 34 = .ok (.iload_n 3, 1) := by decide +kernel
theorem dX9_asOf_35 : decode cX9_asOf 35 = .ok (.iconst (-1), 1) := by decide +kernel
theorem dX9_asOf_36 : decode cX9_asOf 36 = .ok (.if_icmp .ne 10, 3) := by decide +kernel
theorem dX9_asOf_39 : decode cX9_asOf 39 = .ok (.aload_n 0, 1) := by decide +kernel
theorem dX9_asOf_40 : decode cX9_asOf 40 = .ok (.getfield 238, 3) := by decide +kernel
theorem dX9_asOf_43 : decode cX9_asOf 43 = .ok (.goto 31, 3) := by decide +kernel
theorem dX9_asOf_46 : decode cX9_asOf 46 = .ok (.iload_n 3, 1) := by decide +kernel
theorem dX9_asOf_47 : decode cX9_asOf 47 = .ok (.i2l, 1) := by decide +kernel
theorem dX9_asOf_48 : decode cX9_asOf 48 = .ok (.lconst 0, 1) := by decide +kernel
theorem dX9_asOf_49 : decode cX9_asOf 49 = .ok (.aload_n 0, 1) := by decide +kernel
theorem dX9_asOf_50 : decode cX9_asOf 50 = .ok (.getfield 238, 3) := by decide +kernel
theorem dX9_asOf_53 : decode cX9_asOf 53 = .ok (.i2l, 1) := by decide +kernel
theorem dX9_asOf_54 : decode cX9_asOf 54 = .ok (.lconst 1, 1) := by decide +kernel
theorem dX9_asOf_55 : decode cX9_asOf 55 = .ok (.lsub, 1) := by decide +kernel
theorem dX9_asOf_56 : decode cX9_asOf 56 = .ok (.invokestatic 139, 3) := by decide +kernel
theorem dX9_asOf_59 : decode cX9_asOf 59 = .ok (.ifCond .eq 12, 3) := by decide +kernel
theorem dX9_asOf_62 : decode cX9_asOf 62 = .ok (.aload_n 0, 1) := by decide +kernel
theorem dX9_asOf_63 : decode cX9_asOf 63 = .ok (.getfield 90, 3) := by decide +kernel
theorem dX9_asOf_66 : decode cX9_asOf 66 = .ok (.iload_n 3, 1) := by decide +kernel
theorem dX9_asOf_67 : decode cX9_asOf 67 = .ok (.iaload, 1) := by decide +kernel
theorem dX9_asOf_68 : decode cX9_asOf 68 = .ok (.goto 6, 3) := by decide +kernel
theorem dX9_asOf_71 : decode cX9_asOf 71 = .ok (.sipush (-5000), 3) := by decide +kernel
theorem dX9_asOf_74 : decode cX9_asOf 74 = .ok (.istore 4, 2) := by decide +kernel
theorem dX9_asOf_76 : decode cX9_asOf 76 = .ok (.aload_n 0, 1) := by decide +kernel
theorem dX9_asOf_77 : decode cX9_asOf 77 = .ok (.aload_n 0, 1) := by decide +kernel
theorem dX9_asOf_78 : decode cX9_asOf 78 = .ok (.getfield 129, 3) := by decide +kernel
theorem dX9_asOf_81 : decode cX9_asOf 81 = .ok (.invokevirtual 262, 3) := by decide +kernel
theorem dX9_asOf_84 : decode cX9_asOf 84 = .ok (.iload 4, 2) := by decide +kernel
theorem dX9_asOf_86 : decode cX9_asOf 86 = .ok (.ireturn, 1) := by decide +kernel
theorem dX9_asOf_87 : decode cX9_asOf 87 = .ok (.iload_n 3, 1) := by decide +kernel
theorem dX9_asOf_88 : decode cX9_asOf 88 = .ok (.iconst (-1), 1) := by decide +kernel
theorem dX9_asOf_89 : decode cX9_asOf 89 = .ok (.if_icmp .ne 7, 3) := by decide +kernel
theorem dX9_asOf_92 : decode cX9_asOf 92 = .ok (.iconst 0, 1) := by decide +kernel
theorem dX9_asOf_93 : decode cX9_asOf 93 = .ok (.goto 6, 3) := by decide +kernel
theorem dX9_asOf_96 : decode cX9_asOf 96 = .ok (.sipush (-5000), 3) := by decide +kernel
theorem dX9_asOf_99 : decode cX9_asOf 99 = .ok (.ireturn, 1) := by decide +kernel
theorem dX9_isReader_0 : decode cX9_isReader 0 = .ok (.iload_n 1, 1) := by decide +kernel
theorem dX9_isReader_1 : decode cX9_isReader 1 = .ok (.i2l, 1) := by decide +kernel
theorem dX9_isReader_2 : decode cX9_isReader 2 = .ok (.lconst 0, 1) := by decide +kernel
theorem dX9_isReader_3 : decode cX9_isReader 3 = .ok (.aload_n 0, 1) := by decide +kernel
theorem dX9_isReader_4 : decode cX9_isReader 4 = .ok (.getfield 265, 3) := by decide +kernel
theorem dX9_isReader_7 : decode cX9_isReader 7 = .ok (.i2l, 1) := by decide +kernel
theorem dX9_isReader_8 : decode cX9_isReader 8 = .ok (.lconst 1, 1) := by decide +kernel
theorem dX9_isReader_9 : decode cX9_isReader 9 = .ok (.lsub, 1) := by decide +kernel
theorem dX9_isReader_10 : decode cX9_isReader 10 = .ok (.invokestatic 139, 3) := by decide +kernel
theorem dX9_isReader_13 : decode cX9_isReader 13 = .ok (.ireturn, 1) := by decide +kernel
theorem dX9_reader_0 : decode cX9_reader 0 = .ok (.aload_n 0, 1) := by decide +kernel
theorem dX9_reader_1 : decode cX9_reader 1 = .ok (.iconst 0, 1) := by decide +kernel
theorem dX9_reader_2 : decode cX9_reader 2 = .ok (.putfield 123, 3) := by decide +kernel
theorem dX9_reader_5 : decode cX9_reader 5 = .ok (.aload_n 0, 1) := by decide +kernel
theorem dX9_reader_6 : decode cX9_reader 6 = .ok (.iload_n 1, 1) := by decide +kernel
theorem dX9_reader_7 : decode cX9_reader 7 = .ok (.invokevirtual 157, 3) := by decide +kernel
theorem dX9_reader_10 : decode cX9_reader 10 = .ok (.ifCond .ne 10, 3) := by decide +kernel
theorem dX9_reader_13 : decode cX9_reader 13 = .ok (.aload_n 0, 1) := by decide +kernel
theorem dX9_reader_14 : decode cX9_reader 14 = .ok (.bipush (-2), 2) := by decide +kernel
theorem dX9_reader_16 : decode cX9_reader 16 = .ok (.invokevirtual 153, 3) := by decide +kernel
theorem dX9_reader_19 : decode cX9_reader 19 = .ok (.ireturn, 1) := by decide +kernel
theorem dX9_reader_20 : decode cX9_reader 20 = .ok (.aload_n 0, 1) := by decide +kernel
theorem dX9_reader_21 : decode cX9_reader 21 = .ok (.getfield 265, 3) := by decide +kernel
theorem dX9_reader_24 : decode cX9_reader 24 = .ok (.bipush 10, 2) := by decide +kernel
theorem dX9_reader_26 : decode cX9_reader 26 = .ok (.if_icmp .ne 10, 3) := by decide +kernel
theorem dX9_reader_29 : decode cX9_reader 29 = .ok (.aload_n 0, 1) := by decide +kernel
theorem dX9_reader_30 : decode cX9_reader 30 = .ok (.bipush (-5), 2) := by decide +kernel
theorem dX9_reader_32 : decode cX9_reader 32 = .ok (.invokevirtual 153, 3) := by decide +kernel
theorem dX9_reader_35 : decode cX9_reader 35 = .ok (.ireturn, 1) := by decide +kernel
theorem dX9_reader_36 : decode cX9_reader 36 = .ok (.aload_n 0, 1) := by decide +kernel
theorem dX9_reader_37 : decode cX9_reader 37 = .ok (.getfield 108, 3) := by decide +kernel
theorem dX9_reader_40 : decode cX9_reader 40 = .ok (.aload_n 0, 1) := by decide +kernel
theorem dX9_reader_41 : decode cX9_reader 41 = .ok (.getfield 265, 3) := by decide +kernel
theorem dX9_reader_44 : decode cX9_reader 44 = .ok (.iload_n 1, 1) := by decide +kernel
theorem dX9_reader_45 : decode cX9_reader 45 = .ok (.iastore, 1) := by decide +kernel
theorem dX9_reader_46 : decode cX9_reader 46 = .ok (.aload_n 0, 1) := by decide +kernel
theorem dX9_reader_47 : decode cX9_reader 47 = .ok (.dup, 1) := by decide +kernel
theorem dX9_reader_48 : decode cX9_reader 48 = .ok (.getfield 265, 3) := by decide +kernel
theorem dX9_reader_51 : decode cX9_reader 51 = .ok (.iconst 1, 1) := by decide +kernel
theorem dX9_reader_52 : decode cX9_reader 52 = .ok (.iadd, 1) := by decide +kernel
theorem dX9_reader_53 : decode cX9_reader 53 = .ok (.putfield 265, 3) := by decide +kernel
theorem dX9_reader_56 : decode cX9_reader 56 = .ok (.aload_n 0, 1) := by decide +kernel
theorem dX9_reader_57 : decode cX9_reader 57 = .ok (.aload_n 0, 1) := by decide +kernel
theorem dX9_reader_58 : decode cX9_reader 58 = .ok (.getfield 265, 3) := by decide +kernel
theorem dX9_reader_61 : decode cX9_reader 61 = .ok (.iconst 1, 1) := by decide +kernel
theorem dX9_reader_62 : decode cX9_reader 62 = .ok (.isub, 1) := by decide +kernel
theorem dX9_reader_63 : decode cX9_reader 63 = .ok (.invokevirtual 153, 3) := by decide +kernel
theorem dX9_reader_66 : decode cX9_reader 66 = .ok (.ireturn, 1) := by decide +kernel
theorem dX9_isHeld_0 : decode cX9_isHeld 0 = .ok (.aload_n 0, 1) := by decide +kernel
theorem dX9_isHeld_1 : decode cX9_isHeld 1 = .ok (.getfield 111, 3) := by decide +kernel
theorem dX9_isHeld_4 : decode cX9_isHeld 4 = .ok (.iload_n 1, 1) := by decide +kernel
theorem dX9_isHeld_5 : decode cX9_isHeld 5 = .ok (.iaload, 1) := by decide +kernel
theorem dX9_isHeld_6 : decode cX9_isHeld 6 = .ok (.aload_n 0, 1) := by decide +kernel
theorem dX9_isHeld_7 : decode cX9_isHeld 7 = .ok (.getfield 238, 3) := by decide +kernel
theorem dX9_isHeld_10 : decode cX9_isHeld 10 = .ok (.if_icmp .ne 7, 3) := by decide +kernel
theorem dX9_isHeld_13 : decode cX9_isHeld 13 = .ok (.iconst 1, 1) := by decide +kernel
theorem dX9_isHeld_14 : decode cX9_isHeld 14 = .ok (.goto 4, 3) := by decide +kernel
theorem dX9_isHeld_17 : decode cX9_isHeld 17 = .ok (.iconst 0, 1) := by decide +kernel
theorem dX9_isHeld_18 : decode cX9_isHeld 18 = .ok (.istore_n 2, 1) := by decide +kernel
theorem dX9_isHeld_19 : decode cX9_isHeld 19 = .ok (.iconst 0, 1) := by decide +kernel
theorem dX9_isHeld_20 : decode cX9_isHeld 20 = .ok (.istore_n 3, 1) := by decide +kernel
theorem dX9_isHeld_21 : decode cX9_isHeld 21 = .ok (.iload_n 3, 1) := by decide +kernel
theorem dX9_isHeld_22 : decode cX9_isHeld 22 = .ok (.aload_n 0, 1) := by decide +kernel
theorem dX9_isHeld_23 : decode cX9_isHeld 23 = .ok (.getfield 238, 3) := by decide +kernel
theorem dX9_isHeld_26 : decode cX9_isHeld 26 = .ok (.if_icmp .ge 40, 3) := by decide +kernel
theorem dX9_isHeld_29 : decode cX9_isHeld 29 = .ok (.iload_n 2, 1) := by decide +kernel
theorem dX9_isHeld_30 : decode cX9_isHeld 30 = .ok (.ifCond .eq 36, 3) := by decide +kernel
theorem dX9_isHeld_33 : decode cX9_isHeld 33 = .ok (.aload_n 0, 1) := by decide +kernel
theorem dX9_isHeld_34 : decode cX9_isHeld 34 = .ok (.getfield 114, 3) := by decide +kernel
theorem dX9_isHeld_37 : decode cX9_isHeld 37 = .ok (.sipush 600, 3) := by decide +kernel
theorem dX9_isHeld_40 : decode cX9_isHeld 40 = .ok (.iload_n 1, 1) := by decide +kernel
theorem dX9_isHeld_41 : decode cX9_isHeld 41 = .ok (.imul, 1) := by decide +kernel
theorem dX9_isHeld_42 : decode cX9_isHeld 42 = .ok (.iload_n 3, 1) := by decide +kernel
theorem dX9_isHeld_43 : decode cX9_isHeld 43 = .ok (.iadd, 1) := by decide +kernel
theorem dX9_isHeld_44 : decode cX9_isHeld 44 = .ok (.iaload, 1) := by decide +kernel
theorem dX9_isHeld_45 : decode cX9_isHeld 45 = .ok (.aload_n 0, 1) := by decide +kernel
theorem dX9_isHeld_46 : decode cX9_isHeld 46 = .ok (.getfield 90, 3) := by decide +kernel
theorem dX9_isHeld_49 : decode cX9_isHeld 49 = .ok (.iload_n 3, 1) := by decide +kernel
theorem dX9_isHeld_50 : decode cX9_isHeld 50 = .ok (.iaload, 1) := by decide +kernel
theorem dX9_isHeld_51 : decode cX9_isHeld 51 = .ok (.if_icmp .ne 7, 3) := by decide +kernel
theorem dX9_isHeld_54 : decode cX9_isHeld 54 = .ok (.iconst 1, 1) := by decide +kernel
theorem dX9_isHeld_55 : decode cX9_isHeld 55 = .ok (.goto 4, 3) := by decide +kernel
theorem dX9_isHeld_58 : decode cX9_isHeld 58 = .ok (.iconst 0, 1) := by decide +kernel
theorem dX9_isHeld_59 : decode cX9_isHeld 59 = .ok (.istore_n 2, 1) := by decide +kernel
theorem dX9_isHeld_60 : decode cX9_isHeld 60 = .ok (.iinc 3 1, 3) := by decide +kernel
theorem dX9_isHeld_63 : decode cX9_isHeld 63 = .ok (.goto (-42), 3) := by decide +kernel
theorem dX9_isHeld_66 : decode cX9_isHeld 66 = .ok (.iload_n 2, 1) := by decide +kernel
theorem dX9_isHeld_67 : decode cX9_isHeld 67 = .ok (.ireturn, 1) := by decide +kernel
theorem dX9_send_0 : decode cX9_send 0 = .ok (.aload_n 0, 1) := by decide +kernel
theorem dX9_send_1 : decode cX9_send 1 = .ok (.iconst 0, 1) := by decide +kernel
theorem dX9_send_2 : decode cX9_send 2 = .ok (.putfield 123, 3) := by decide +kernel
theorem dX9_send_5 : decode cX9_send 5 = .ok (.iconst 0, 1) := by decide +kernel
theorem dX9_send_6 : decode cX9_send 6 = .ok (.istore_n 1, 1) := by decide +kernel
theorem dX9_send_7 : decode cX9_send 7 = .ok (.iconst 0, 1) := by decide +kernel
theorem dX9_send_8 : decode cX9_send 8 = .ok (.istore_n 2, 1) := by decide +kernel
theorem dX9_send_9 : decode cX9_send 9 = .ok (.iload_n 2, 1) := by decide +kernel
theorem dX9_send_10 : decode cX9_send 10 = .ok (.aload_n 0, 1) := by decide +kernel
theorem dX9_send_11 : decode cX9_send 11 = .ok (.getfield 265, 3) := by decide +kernel
theorem dX9_send_14 : decode cX9_send 14 = .ok (.if_icmp .ge 108, 3) := by decide +kernel
theorem dX9_send_17 : decode cX9_send 17 = .ok (.aload_n 0, 1) := by decide +kernel
theorem dX9_send_18 : decode cX9_send 18 = .ok (.aload_n 0, 1) := by decide +kernel
theorem dX9_send_19 : decode cX9_send 19 = .ok (.getfield 108, 3) := by decide +kernel
theorem dX9_send_22 : decode cX9_send 22 = .ok (.iload_n 2, 1) := by decide +kernel
theorem dX9_send_23 : decode cX9_send 23 = .ok (.iaload, 1) := by decide +kernel
theorem dX9_send_24 : decode cX9_send 24 = .ok (.invokevirtual 255, 3) := by decide +kernel
theorem dX9_send_27 : decode cX9_send 27 = .ok (.aload_n 0, 1) := by decide +kernel
theorem dX9_send_28 : decode cX9_send 28 = .ok (.iload_n 2, 1) := by decide +kernel
theorem dX9_send_29 : decode cX9_send 29 = .ok (.invokevirtual 268, 3) := by decide +kernel
theorem dX9_send_32 : decode cX9_send 32 = .ok (.ifCond .eq 6, 3) := by decide +kernel
theorem dX9_send_35 : decode cX9_send 35 = .ok (.goto 81, 3) := by decide +kernel
theorem dX9_send_38 : decode cX9_send 38 = .ok (.iload_n 1, 1) := by decide +kernel
theorem dX9_send_39 : decode cX9_send 39 = .ok (.iconst 1, 1) := by decide +kernel
theorem dX9_send_40 : decode cX9_send 40 = .ok (.iload_n 2, 1) := by decide +kernel
theorem dX9_send_41 : decode cX9_send 41 = .ok (.ishl, 1) := by decide +kernel
theorem dX9_send_42 : decode cX9_send 42 = .ok (.ior, 1) := by decide +kernel
theorem dX9_send_43 : decode cX9_send 43 = .ok (.istore_n 1, 1) := by decide +kernel
theorem dX9_send_44 : decode cX9_send 44 = .ok (.aload_n 0, 1) := by decide +kernel
theorem dX9_send_45 : decode cX9_send 45 = .ok (.dup, 1) := by decide +kernel
theorem dX9_send_46 : decode cX9_send 46 = .ok (.getfield 271, 3) := by decide +kernel
theorem dX9_send_49 : decode cX9_send 49 = .ok (.iconst 1, 1) := by decide +kernel
theorem dX9_send_50 : decode cX9_send 50 = .ok (.iadd, 1) := by decide +kernel
theorem dX9_send_51 : decode cX9_send 51 = .ok (.putfield 271, 3) := by decide +kernel
theorem dX9_send_54 : decode cX9_send 54 = .ok (.aload_n 0, 1) := by decide +kernel
theorem dX9_send_55 : decode cX9_send 55 = .ok (.getfield 111, 3) := by decide +kernel
theorem dX9_send_58 : decode cX9_send 58 = .ok (.iload_n 2, 1) := by decide +kernel
theorem dX9_send_59 : decode cX9_send 59 = .ok (.aload_n 0, 1) := by decide +kernel
theorem dX9_send_60 : decode cX9_send 60 = .ok (.getfield 238, 3) := by decide +kernel
theorem dX9_send_63 : decode cX9_send 63 = .ok (.iastore, 1) := by decide +kernel
theorem dX9_send_64 : decode cX9_send 64 = .ok (.iconst 0, 1) := by decide +kernel
theorem dX9_send_65 : decode cX9_send 65 = .ok (.istore_n 3, 1) := by decide +kernel
theorem dX9_send_66 : decode cX9_send 66 = .ok (.iload_n 3, 1) := by decide +kernel
theorem dX9_send_67 : decode cX9_send 67 = .ok (.aload_n 0, 1) := by decide +kernel
theorem dX9_send_68 : decode cX9_send 68 = .ok (.getfield 238, 3) := by decide +kernel
theorem dX9_send_71 : decode cX9_send 71 = .ok (.if_icmp .ge 45, 3) := by decide +kernel
theorem dX9_send_74 : decode cX9_send 74 = .ok (.aload_n 0, 1) := by decide +kernel
theorem dX9_send_75 : decode cX9_send 75 = .ok (.getfield 114, 3) := by decide +kernel
theorem dX9_send_78 : decode cX9_send 78 = .ok (.sipush 600, 3) := by decide +kernel
theorem dX9_send_81 : decode cX9_send 81 = .ok (.iload_n 2, 1) := by decide +kernel
theorem dX9_send_82 : decode cX9_send 82 = .ok (.imul, 1) := by decide +kernel
theorem dX9_send_83 : decode cX9_send 83 = .ok (.iload_n 3, 1) := by decide +kernel
theorem dX9_send_84 : decode cX9_send 84 = .ok (.iadd, 1) := by decide +kernel
theorem dX9_send_85 : decode cX9_send 85 = .ok (.aload_n 0, 1) := by decide +kernel
theorem dX9_send_86 : decode cX9_send 86 = .ok (.getfield 90, 3) := by decide +kernel
theorem dX9_send_89 : decode cX9_send 89 = .ok (.iload_n 3, 1) := by decide +kernel
theorem dX9_send_90 : decode cX9_send 90 = .ok (.iaload, 1) := by decide +kernel
theorem dX9_send_91 : decode cX9_send 91 = .ok (.iastore, 1) := by decide +kernel
theorem dX9_send_92 : decode cX9_send 92 = .ok (.aload_n 0, 1) := by decide +kernel
theorem dX9_send_93 : decode cX9_send 93 = .ok (.getfield 117, 3) := by decide +kernel
theorem dX9_send_96 : decode cX9_send 96 = .ok (.sipush 600, 3) := by decide +kernel
theorem dX9_send_99 : decode cX9_send 99 = .ok (.iload_n 2, 1) := by decide +kernel
theorem dX9_send_100 : decode cX9_send 100 = .ok (.imul, 1) := by decide +kernel
theorem dX9_send_101 : decode cX9_send 101 = .ok (.iload_n 3, 1) := by decide +kernel
theorem dX9_send_102 : decode cX9_send 102 = .ok (.iadd, 1) := by decide +kernel
theorem dX9_send_103 : decode cX9_send 103 = .ok (.aload_n 0, 1) := by decide +kernel
theorem dX9_send_104 : decode cX9_send 104 = .ok (.getfield 93, 3) := by decide +kernel
theorem dX9_send_107 : decode cX9_send 107 = .ok (.iload_n 3, 1) := by decide +kernel
theorem dX9_send_108 : decode cX9_send 108 = .ok (.iaload, 1) := by decide +kernel
theorem dX9_send_109 : decode cX9_send 109 = .ok (.iastore, 1) := by decide +kernel
theorem dX9_send_110 : decode cX9_send 110 = .ok (.iinc 3 1, 3) := by decide +kernel
theorem dX9_send_113 : decode cX9_send 113 = .ok (.goto (-47), 3) := by decide +kernel
theorem dX9_send_116 : decode cX9_send 116 = .ok (.iinc 2 1, 3) := by decide +kernel
theorem dX9_send_119 : decode cX9_send 119 = .ok (.goto (-110), 3) := by decide +kernel
theorem dX9_send_122 : decode cX9_send 122 = .ok (.iload_n 1, 1) := by decide +kernel
theorem dX9_send_123 : decode cX9_send 123 = .ok (.ireturn, 1) := by decide +kernel
theorem dX9_holds_0 : decode cX9_holds 0 = .ok (.aload_n 0, 1) := by decide +kernel
theorem dX9_holds_1 : decode cX9_holds 1 = .ok (.iconst 0, 1) := by decide +kernel
theorem dX9_holds_2 : decode cX9_holds 2 = .ok (.putfield 123, 3) := by decide +kernel
theorem dX9_holds_5 : decode cX9_holds 5 = .ok (.aload_n 0, 1) := by decide +kernel
theorem dX9_holds_6 : decode cX9_holds 6 = .ok (.iload_n 1, 1) := by decide +kernel
theorem dX9_holds_7 : decode cX9_holds 7 = .ok (.invokevirtual 274, 3) := by decide +kernel
theorem dX9_holds_10 : decode cX9_holds 10 = .ok (.ifCond .ne 7, 3) := by decide +kernel
theorem dX9_holds_13 : decode cX9_holds 13 = .ok (.sipush (-5000), 3) := by decide +kernel
theorem dX9_holds_16 : decode cX9_holds 16 = .ok (.ireturn, 1) := by decide +kernel
theorem dX9_holds_17 : decode cX9_holds 17 = .ok (.iload_n 2, 1) := by decide +kernel
theorem dX9_holds_18 : decode cX9_holds 18 = .ok (.iconst (-1), 1) := by decide +kernel
theorem dX9_holds_19 : decode cX9_holds 19 = .ok (.if_icmp .ne 12, 3) := by decide +kernel
theorem dX9_holds_22 : decode cX9_holds 22 = .ok (.aload_n 0, 1) := by decide +kernel
theorem dX9_holds_23 : decode cX9_holds 23 = .ok (.getfield 111, 3) := by decide +kernel
theorem dX9_holds_26 : decode cX9_holds 26 = .ok (.iload_n 1, 1) := by decide +kernel
theorem dX9_holds_27 : decode cX9_holds 27 = .ok (.iaload, 1) := by decide +kernel
theorem dX9_holds_28 : decode cX9_holds 28 = .ok (.goto 39, 3) := by decide +kernel
theorem dX9_holds_31 : decode cX9_holds 31 = .ok (.iload_n 2, 1) := by decide +kernel
theorem dX9_holds_32 : decode cX9_holds 32 = .ok (.i2l, 1) := by decide +kernel
theorem dX9_holds_33 : decode cX9_holds 33 = .ok (.lconst 0, 1) := by decide +kernel
theorem dX9_holds_34 : decode cX9_holds 34 = .ok (.aload_n 0, 1) := by decide +kernel
theorem dX9_holds_35 : decode cX9_holds 35 = .ok (.getfield 111, 3) := by decide +kernel
theorem dX9_holds_38 : decode cX9_holds 38 = .ok (.iload_n 1, 1) := by decide +kernel
theorem dX9_holds_39 : decode cX9_holds 39 = .ok (.iaload, 1) := by decide +kernel
theorem dX9_holds_40 : decode cX9_holds 40 = .ok (.i2l, 1) := by decide +kernel
theorem dX9_holds_41 : decode cX9_holds 41 = .ok (.lconst 1, 1) := by decide +kernel
theorem dX9_holds_42 : decode cX9_holds 42 = .ok (.lsub, 1) := by decide +kernel
theorem dX9_holds_43 : decode cX9_holds 43 = .ok (.invokestatic 139, 3) := by decide +kernel
theorem dX9_holds_46 : decode cX9_holds 46 = .ok (.ifCond .eq 18, 3) := by decide +kernel
theorem dX9_holds_49 : decode cX9_holds 49 = .ok (.aload_n 0, 1) := by decide +kernel
theorem dX9_holds_50 : decode cX9_holds 50 = .ok (.getfield 114, 3) := by decide +kernel
theorem dX9_holds_53 : decode cX9_holds 53 = .ok (.sipush 600, 3) := by decide +kernel
theorem dX9_holds_56 : decode cX9_holds 56 = .ok (.iload_n 1, 1) := by decide +kernel
theorem dX9_holds_57 : decode cX9_holds 57 = .ok (.imul, 1) := by decide +kernel
theorem dX9_holds_58 : decode cX9_holds 58 = .ok (.iload_n 2, 1) := by decide +kernel
theorem dX9_holds_59 : decode cX9_holds 59 = .ok (.iadd, 1) := by decide +kernel
theorem dX9_holds_60 : decode cX9_holds 60 = .ok (.iaload, 1) := by decide +kernel
theorem dX9_holds_61 : decode cX9_holds 61 = .ok (.goto 6, 3) := by decide +kernel
theorem dX9_holds_64 : decode cX9_holds 64 = .ok (.sipush (-5000), 3) := by decide +kernel
theorem dX9_holds_67 : decode cX9_holds 67 = .ok (.ireturn, 1) := by decide +kernel
theorem dX9_same_0 : decode cX9_same 0 = .ok (.aload_n 0, 1) := by decide +kernel
theorem dX9_same_1 : decode cX9_same 1 = .ok (.iconst 0, 1) := by decide +kernel
theorem dX9_same_2 : decode cX9_same 2 = .ok (.putfield 123, 3) := by decide +kernel
theorem dX9_same_5 : decode cX9_same 5 = .ok (.aload_n 0, 1) := by decide +kernel
theorem dX9_same_6 : decode cX9_same 6 = .ok (.iload_n 1, 1) := by decide +kernel
theorem dX9_same_7 : decode cX9_same 7 = .ok (.invokevirtual 274, 3) := by decide +kernel
theorem dX9_same_10 : decode cX9_same 10 = .ok (.ifCond .ne 5, 3) := by decide +kernel
theorem dX9_same_13 : decode cX9_same 13 = .ok (.iconst (-1), 1) := by decide +kernel
theorem dX9_same_14 : decode cX9_same 14 = .ok (.ireturn, 1) := by decide +kernel
theorem dX9_same_15 : decode cX9_same 15 = .ok (.aload_n 0, 1) := by decide +kernel
theorem dX9_same_16 : decode cX9_same 16 = .ok (.aload_n 0, 1) := by decide +kernel
theorem dX9_same_17 : decode cX9_same 17 = .ok (.getfield 108, 3) := by decide +kernel
theorem dX9_same_20 : decode cX9_same 20 = .ok (.iload_n 1, 1) := by decide +kernel
theorem dX9_same_21 : decode cX9_same 21 = .ok (.iaload, 1) := by decide +kernel
theorem dX9_same_22 : decode cX9_same 22 = .ok (.invokevirtual 255, 3) := by decide +kernel
theorem dX9_same_25 : decode cX9_same 25 = .ok (.aload_n 0, 1) := by decide +kernel
theorem dX9_same_26 : decode cX9_same 26 = .ok (.iload_n 1, 1) := by decide +kernel
theorem dX9_same_27 : decode cX9_same 27 = .ok (.invokevirtual 268, 3) := by decide +kernel
theorem dX9_same_30 : decode cX9_same 30 = .ok (.ifCond .eq 7, 3) := by decide +kernel
theorem dX9_same_33 : decode cX9_same 33 = .ok (.iconst 1, 1) := by decide +kernel
theorem dX9_same_34 : decode cX9_same 34 = .ok (.goto 4, 3) := by decide +kernel
theorem dX9_same_37 : decode cX9_same 37 = .ok (.iconst 0, 1) := by decide +kernel
theorem dX9_same_38 : decode cX9_same 38 = .ok (.ireturn, 1) := by decide +kernel
theorem dX9_edit_0 : decode cX9_edit 0 = .ok (.aload_n 0, 1) := by decide +kernel
theorem dX9_edit_1 : decode cX9_edit 1 = .ok (.iconst 0, 1) := by decide +kernel
theorem dX9_edit_2 : decode cX9_edit 2 = .ok (.putfield 123, 3) := by decide +kernel
theorem dX9_edit_5 : decode cX9_edit 5 = .ok (.iload_n 3, 1) := by decide +kernel
theorem dX9_edit_6 : decode cX9_edit 6 = .ok (.invokestatic 149, 3) := by decide +kernel
theorem dX9_edit_9 : decode cX9_edit 9 = .ok (.ifCond .ne 9, 3) := by decide +kernel
theorem dX9_edit_12 : decode cX9_edit 12 = .ok (.aload_n 0, 1) := by decide +kernel
theorem dX9_edit_13 : decode cX9_edit 13 = .ok (.iconst (-1), 1) := by decide +kernel
theorem dX9_edit_14 : decode cX9_edit 14 = .ok (.invokevirtual 153, 3) := by decide +kernel
theorem dX9_edit_17 : decode cX9_edit 17 = .ok (.ireturn, 1) := by decide +kernel
theorem dX9_edit_18 : decode cX9_edit 18 = .ok (.aload_n 0, 1) := by decide +kernel
theorem dX9_edit_19 : decode cX9_edit 19 = .ok (.iload_n 1, 1) := by decide +kernel
theorem dX9_edit_20 : decode cX9_edit 20 = .ok (.invokevirtual 274, 3) := by decide +kernel
theorem dX9_edit_23 : decode cX9_edit 23 = .ok (.ifCond .ne 10, 3) := by decide +kernel
theorem dX9_edit_26 : decode cX9_edit 26 = .ok (.aload_n 0, 1) := by decide +kernel
theorem dX9_edit_27 : decode cX9_edit 27 = .ok (.bipush (-2), 2) := by decide +kernel
theorem dX9_edit_29 : decode cX9_edit 29 = .ok (.invokevirtual 153, 3) := by decide +kernel
theorem dX9_edit_32 : decode cX9_edit 32 = .ok (.ireturn, 1) := by decide +kernel
theorem dX9_edit_33 : decode cX9_edit 33 = .ok (.sipush 600, 3) := by decide +kernel
theorem dX9_edit_36 : decode cX9_edit 36 = .ok (.iload_n 1, 1) := by decide +kernel
theorem dX9_edit_37 : decode cX9_edit 37 = .ok (.imul, 1) := by decide +kernel
theorem dX9_edit_38 : decode cX9_edit 38 = .ok (.iload_n 2, 1) := by decide +kernel
theorem dX9_edit_39 : decode cX9_edit 39 = .ok (.iadd, 1) := by decide +kernel
theorem dX9_edit_40 : decode cX9_edit 40 = .ok (.istore 4, 2) := by decide +kernel
theorem dX9_edit_42 : decode cX9_edit 42 = .ok (.iload_n 2, 1) := by decide +kernel
theorem dX9_edit_43 : decode cX9_edit 43 = .ok (.i2l, 1) := by decide +kernel
theorem dX9_edit_44 : decode cX9_edit 44 = .ok (.lconst 0, 1) := by decide +kernel
theorem dX9_edit_45 : decode cX9_edit 45 = .ok (.aload_n 0, 1) := by decide +kernel
theorem dX9_edit_46 : decode cX9_edit 46 = .ok (.getfield 111, 3) := by decide +kernel
theorem dX9_edit_49 : decode cX9_edit 49 = .ok (.iload_n 1, 1) := by decide +kernel
theorem dX9_edit_50 : decode cX9_edit 50 = .ok (.iaload, 1) := by decide +kernel
theorem dX9_edit_51 : decode cX9_edit 51 = .ok (.i2l, 1) := by decide +kernel
theorem dX9_edit_52 : decode cX9_edit 52 = .ok (.lconst 1, 1) := by decide +kernel
theorem dX9_edit_53 : decode cX9_edit 53 = .ok (.lsub, 1) := by decide +kernel
theorem dX9_edit_54 : decode cX9_edit 54 = .ok (.invokestatic 139, 3) := by decide +kernel
theorem dX9_edit_57 : decode cX9_edit 57 = .ok (.ifCond .eq 18, 3) := by decide +kernel
theorem dX9_edit_60 : decode cX9_edit 60 = .ok (.aload_n 0, 1) := by decide +kernel
theorem dX9_edit_61 : decode cX9_edit 61 = .ok (.getfield 117, 3) := by decide +kernel
theorem dX9_edit_64 : decode cX9_edit 64 = .ok (.iload 4, 2) := by decide +kernel
theorem dX9_edit_66 : decode cX9_edit 66 = .ok (.iaload, 1) := by decide +kernel
theorem dX9_edit_67 : decode cX9_edit 67 = .ok (.iconst (-1), 1) := by decide +kernel
theorem dX9_edit_68 : decode cX9_edit 68 = .ok (.if_icmp .eq 7, 3) := by decide +kernel
theorem dX9_edit_71 : decode cX9_edit 71 = .ok (.iconst 1, 1) := by decide +kernel
theorem dX9_edit_72 : decode cX9_edit 72 = .ok (.goto 4, 3) := by decide +kernel
theorem dX9_edit_75 : decode cX9_edit 75 = .ok (.iconst 0, 1) := by decide +kernel
theorem dX9_edit_76 : decode cX9_edit 76 = .ok (.istore 5, 2) := by decide +kernel
theorem dX9_edit_78 : decode cX9_edit 78 = .ok (.iload 5, 2) := by decide +kernel
theorem dX9_edit_80 : decode cX9_edit 80 = .ok (.ifCond .eq 40, 3) := by decide +kernel
theorem dX9_edit_83 : decode cX9_edit 83 = .ok (.aload_n 0, 1) := by decide +kernel
theorem dX9_edit_84 : decode cX9_edit 84 = .ok (.getfield 37, 3) := by decide +kernel
theorem dX9_edit_87 : decode cX9_edit 87 = .ok (.aload_n 0, 1) := by decide +kernel
theorem dX9_edit_88 : decode cX9_edit 88 = .ok (.getfield 117, 3) := by decide +kernel
theorem dX9_edit_91 : decode cX9_edit 91 = .ok (.iload 4, 2) := by decide +kernel
theorem dX9_edit_93 : decode cX9_edit 93 = .ok (.iaload, 1) := by decide +kernel
theorem dX9_edit_94 : decode cX9_edit 94 = .ok (.baload, 1) := by decide +kernel
theorem dX9_edit_95 : decode cX9_edit 95 = .ok (.ifCond .eq 25, 3) := by decide +kernel
theorem dX9_edit_98 : decode cX9_edit 98 = .ok (.aload_n 0, 1) := by decide +kernel
theorem dX9_edit_99 : decode cX9_edit 99 = .ok (.getfield 31, 3) := by decide +kernel
theorem dX9_edit_102 : decode cX9_edit 102 = .ok (.aload_n 0, 1) := by decide +kernel
theorem dX9_edit_103 : decode cX9_edit 103 = .ok (.getfield 117, 3) := by decide +kernel
theorem dX9_edit_106 : decode cX9_edit 106 = .ok (.iload 4, 2) := by decide +kernel
theorem dX9_edit_108 : decode cX9_edit 108 = .ok (.iaload, 1) := by decide +kernel
theorem dX9_edit_109 : decode cX9_edit 109 = .ok (.iaload, 1) := by decide +kernel
theorem dX9_edit_110 : decode cX9_edit 110 = .ok (.aload_n 0, 1) := by decide +kernel
theorem dX9_edit_111 : decode cX9_edit 111 = .ok (.getfield 114, 3) := by decide +kernel
theorem dX9_edit_114 : decode cX9_edit 114 = .ok (.iload 4, 2) := by decide +kernel
theorem dX9_edit_116 : decode cX9_edit 116 = .ok (.iaload, 1) := by decide +kernel
theorem dX9_edit_117 : decode cX9_edit 117 = .ok (.if_icmp .eq 10, 3) := by decide +kernel
theorem dX9_edit_120 : decode cX9_edit 120 = .ok (.aload_n 0, 1) := by decide +kernel
theorem dX9_edit_121 : decode cX9_edit 121 = .ok (.bipush (-3), 2) := by decide +kernel
theorem dX9_edit_123 : decode cX9_edit 123 = .ok (.invokevirtual 153, 3) := by decide +kernel
theorem dX9_edit_126 : decode cX9_edit 126 = .ok (.ireturn, 1) := by decide +kernel
theorem dX9_edit_127 : decode cX9_edit 127 = .ok (.aload_n 0, 1) := by decide +kernel
theorem dX9_edit_128 : decode cX9_edit 128 = .ok (.getfield 129, 3) := by decide +kernel
theorem dX9_edit_131 : decode cX9_edit 131 = .ok (.sipush 300, 3) := by decide +kernel
theorem dX9_edit_134 : decode cX9_edit 134 = .ok (.if_icmp .ne 10, 3) := by decide +kernel
theorem dX9_edit_137 : decode cX9_edit 137 = .ok (.aload_n 0, 1) := by decide +kernel
theorem dX9_edit_138 : decode cX9_edit 138 = .ok (.bipush (-5), 2) := by decide +kernel
theorem dX9_edit_140 : decode cX9_edit 140 = .ok (.invokevirtual 153, 3) := by decide +kernel
theorem dX9_edit_143 : decode cX9_edit 143 = .ok (.ireturn, 1) := by decide +kernel
theorem dX9_edit_144 : decode cX9_edit 144 = .ok (.aload_n 0, 1) := by decide +kernel
theorem dX9_edit_145 : decode cX9_edit 145 = .ok (.iconst 1, 1) := by decide +kernel
theorem dX9_edit_146 : decode cX9_edit 146 = .ok (.aload_n 0, 1) := by decide +kernel
theorem dX9_edit_147 : decode cX9_edit 147 = .ok (.getfield 117, 3) := by decide +kernel
theorem dX9_edit_150 : decode cX9_edit 150 = .ok (.iload 4, 2) := by decide +kernel
theorem dX9_edit_152 : decode cX9_edit 152 = .ok (.iaload, 1) := by decide +kernel
theorem dX9_edit_153 : decode cX9_edit 153 = .ok (.iload_n 3, 1) := by decide +kernel
theorem dX9_edit_154 : decode cX9_edit 154 = .ok (.iconst 0, 1) := by decide +kernel
theorem dX9_edit_155 : decode cX9_edit 155 = .ok (.iconst 0, 1) := by decide +kernel
theorem dX9_edit_156 : decode cX9_edit 156 = .ok (.iconst 0, 1) := by decide +kernel
theorem dX9_edit_157 : decode cX9_edit 157 = .ok (.invokevirtual 160, 3) := by decide +kernel
theorem dX9_edit_160 : decode cX9_edit 160 = .ok (.aload_n 0, 1) := by decide +kernel
theorem dX9_edit_161 : decode cX9_edit 161 = .ok (.getfield 114, 3) := by decide +kernel
theorem dX9_edit_164 : decode cX9_edit 164 = .ok (.iload 4, 2) := by decide +kernel
theorem dX9_edit_166 : decode cX9_edit 166 = .ok (.iload_n 3, 1) := by decide +kernel
theorem dX9_edit_167 : decode cX9_edit 167 = .ok (.iastore, 1) := by decide +kernel
theorem dX9_edit_168 : decode cX9_edit 168 = .ok (.aload_n 0, 1) := by decide +kernel
theorem dX9_edit_169 : decode cX9_edit 169 = .ok (.aload_n 0, 1) := by decide +kernel
theorem dX9_edit_170 : decode cX9_edit 170 = .ok (.getfield 117, 3) := by decide +kernel
theorem dX9_edit_173 : decode cX9_edit 173 = .ok (.iload 4, 2) := by decide +kernel
theorem dX9_edit_175 : decode cX9_edit 175 = .ok (.iaload, 1) := by decide +kernel
theorem dX9_edit_176 : decode cX9_edit 176 = .ok (.invokevirtual 153, 3) := by decide +kernel
theorem dX9_edit_179 : decode cX9_edit 179 = .ok (.ireturn, 1) := by decide +kernel
theorem dX9_touched_0 : decode cX9_touched 0 = .ok (.aload_n 0, 1) := by decide +kernel
theorem dX9_touched_1 : decode cX9_touched 1 = .ok (.iconst 0, 1) := by decide +kernel
theorem dX9_touched_2 : decode cX9_touched 2 = .ok (.putfield 123, 3) := by decide +kernel
theorem dX9_touched_5 : decode cX9_touched 5 = .ok (.aload_n 0, 1) := by decide +kernel
theorem dX9_touched_6 : decode cX9_touched 6 = .ok (.iload_n 1, 1) := by decide +kernel
theorem dX9_touched_7 : decode cX9_touched 7 = .ok (.invokevirtual 157, 3) := by decide +kernel
theorem dX9_touched_10 : decode cX9_touched 10 = .ok (.ifCond .eq 10, 3) := by decide +kernel
theorem dX9_touched_13 : decode cX9_touched 13 = .ok (.iload_n 2, 1) := by decide +kernel
theorem dX9_touched_14 : decode cX9_touched 14 = .ok (.invokestatic 149, 3) := by decide +kernel
theorem dX9_touched_17 : decode cX9_touched 17 = .ok (.ifCond .ne 5, 3) := by decide +kernel
theorem dX9_touched_20 : decode cX9_touched 20 = .ok (.iconst 0, 1) := by decide +kernel
theorem dX9_touched_21 : decode cX9_touched 21 = .ok (.ireturn, 1) := by decide +kernel
theorem dX9_touched_22 : decode cX9_touched 22 = .ok (.iconst 0, 1) := by decide +kernel
theorem dX9_touched_23 : decode cX9_touched 23 = .ok (.istore_n 3, 1) := by decide +kernel
theorem dX9_touched_24 : decode cX9_touched 24 = .ok (.aload_n 0, 1) := by decide +kernel
theorem dX9_touched_25 : decode cX9_touched 25 = .ok (.getfield 31, 3) := by decide +kernel
theorem dX9_touched_28 : decode cX9_touched 28 = .ok (.iload_n 1, 1) := by decide +kernel
theorem dX9_touched_29 : decode cX9_touched 29 = .ok (.iaload, 1) := by decide +kernel
theorem dX9_touched_30 : decode cX9_touched 30 = .ok (.istore 4, 2) := by decide +kernel
theorem dX9_touched_32 : decode cX9_touched 32 = .ok (.iconst 0, 1) := by decide +kernel
theorem dX9_touched_33 : decode cX9_touched 33 = .ok (.istore 5, 2) := by decide +kernel
theorem dX9_touched_35 : decode cX9_touched 35 = .ok (.iload 5, 2) := by decide +kernel
theorem dX9_touched_37 : decode cX9_touched 37 = .ok (.aload_n 0, 1) := by decide +kernel
theorem dX9_touched_38 : decode cX9_touched 38 = .ok (.getfield 265, 3) := by decide +kernel
theorem dX9_touched_41 : decode cX9_touched 41 = .ok (.if_icmp .ge 159, 3) := by decide +kernel
theorem dX9_touched_44 : decode cX9_touched 44 = .ok (.aload_n 0, 1) := by decide +kernel
theorem dX9_touched_45 : decode cX9_touched 45 = .ok (.aload_n 0, 1) := by decide +kernel
theorem dX9_touched_46 : decode cX9_touched 46 = .ok (.getfield 108, 3) := by decide +kernel
theorem dX9_touched_49 : decode cX9_touched 49 = .ok (.iload 5, 2) := by decide +kernel
theorem dX9_touched_51 : decode cX9_touched 51 = .ok (.iaload, 1) := by decide +kernel
theorem dX9_touched_52 : decode cX9_touched 52 = .ok (.invokevirtual 255, 3) := by decide +kernel
theorem dX9_touched_55 : decode cX9_touched 55 = .ok (.aload_n 0, 1) := by decide +kernel
theorem dX9_touched_56 : decode cX9_touched 56 = .ok (.getfield 238, 3) := by decide +kernel
theorem dX9_touched_59 : decode cX9_touched 59 = .ok (.istore 6, 2) := by decide +kernel
theorem dX9_touched_61 : decode cX9_touched 61 = .ok (.iconst 0, 1) := by decide +kernel
theorem dX9_touched_62 : decode cX9_touched 62 = .ok (.istore 7, 2) := by decide +kernel
theorem dX9_touched_64 : decode cX9_touched 64 = .ok (.iload 7, 2) := by decide +kernel
theorem dX9_touched_66 : decode cX9_touched 66 = .ok (.iload 6, 2) := by decide +kernel
theorem dX9_touched_68 : decode cX9_touched 68 = .ok (.if_icmp .ge 23, 3) := by decide +kernel
theorem dX9_touched_71 : decode cX9_touched 71 = .ok (.aload_n 0, 1) := by decide +kernel
theorem dX9_touched_72 : decode cX9_touched 72 = .ok (.getfield 120, 3) := by decide +kernel
theorem dX9_touched_75 : decode cX9_touched 75 = .ok (.iload 7, 2) := by decide +kernel
theorem dX9_touched_77 : decode cX9_touched 77 = .ok (.aload_n 0, 1) := by decide +kernel
theorem dX9_touched_78 : decode cX9_touched 78 = .ok (.getfield 90, 3) := by decide +kernel
theorem dX9_touched_81 : decode cX9_touched 81 = .ok (.iload 7, 2) := by decide +kernel
theorem dX9_touched_83 : decode cX9_touched 83 = .ok (.iaload, 1) := by decide +kernel
theorem dX9_touched_84 : decode cX9_touched 84 = .ok (.iastore, 1) := by decide +kernel
theorem dX9_touched_85 : decode cX9_touched 85 = .ok (.iinc 7 1, 3) := by decide +kernel
theorem dX9_touched_88 : decode cX9_touched 88 = .ok (.goto (-24), 3) := by decide +kernel
theorem dX9_touched_91 : decode cX9_touched 91 = .ok (.aload_n 0, 1) := by decide +kernel
theorem dX9_touched_92 : decode cX9_touched 92 = .ok (.getfield 31, 3) := by decide +kernel
theorem dX9_touched_95 : decode cX9_touched 95 = .ok (.iload_n 1, 1) := by decide +kernel
theorem dX9_touched_96 : decode cX9_touched 96 = .ok (.iload_n 2, 1) := by decide +kernel
theorem dX9_touched_97 : decode cX9_touched 97 = .ok (.iastore, 1) := by decide +kernel
theorem dX9_touched_98 : decode cX9_touched 98 = .ok (.aload_n 0, 1) := by decide +kernel
theorem dX9_touched_99 : decode cX9_touched 99 = .ok (.aload_n 0, 1) := by decide +kernel
theorem dX9_touched_100 : decode cX9_touched 100 = .ok (.getfield 108, 3) := by decide +kernel
theorem dX9_touched_103 : decode cX9_touched 103 = .ok (.iload 5, 2) := by decide +kernel
theorem dX9_touched_105 : decode cX9_touched 105 = .ok (.iaload, 1) := by decide +kernel
theorem dX9_touched_106 : decode cX9_touched 106 = .ok (.invokevirtual 255, 3) := by decide +kernel
theorem dX9_touched_109 : decode cX9_touched 109 = .ok (.aload_n 0, 1) := by decide +kernel
theorem dX9_touched_110 : decode cX9_touched 110 = .ok (.getfield 31, 3) := by decide +kernel
theorem dX9_touched_113 : decode cX9_touched 113 = .ok (.iload_n 1, 1) := by decide +kernel
theorem dX9_touched_114 : decode cX9_touched 114 = .ok (.iload 4, 2) := by decide +kernel
theorem dX9_touched_116 : decode cX9_touched 116 = .ok (.iastore, 1) := by decide +kernel
theorem dX9_touched_117 : decode cX9_touched 117 = .ok (.iload 6, 2) := by decide +kernel
theorem dX9_touched_119 : decode cX9_touched 119 = .ok (.aload_n 0, 1) := by decide +kernel
theorem dX9_touched_120 : decode cX9_touched 120 = .ok (.getfield 238, 3) := by decide +kernel
theorem dX9_touched_123 : decode cX9_touched 123 = .ok (.if_icmp .ne 7, 3) := by decide +kernel
theorem dX9_touched_126 : decode cX9_touched 126 = .ok (.iconst 1, 1) := by decide +kernel
theorem dX9_touched_127 : decode cX9_touched 127 = .ok (.goto 4, 3) := by decide +kernel
theorem dX9_touched_130 : decode cX9_touched 130 = .ok (.iconst 0, 1) := by decide +kernel
theorem dX9_touched_131 : decode cX9_touched 131 = .ok (.istore 7, 2) := by decide +kernel
theorem dX9_touched_133 : decode cX9_touched 133 = .ok (.iconst 0, 1) := by decide +kernel
theorem dX9_touched_134 : decode cX9_touched 134 = .ok (.istore 8, 2) := by decide +kernel
theorem dX9_touched_136 : decode cX9_touched 136 = .ok (.iload 8, 2) := by decide +kernel
theorem dX9_touched_138 : decode cX9_touched 138 = .ok (.iload 6, 2) := by decide +kernel
theorem dX9_touched_140 : decode cX9_touched 140 = .ok (.if_icmp .ge 38, 3) := by decide +kernel
theorem dX9_touched_143 : decode cX9_touched 143 = .ok (.iload 7, 2) := by decide +kernel
theorem dX9_touched_145 : decode cX9_touched 145 = .ok (.ifCond .eq 33, 3) := by decide +kernel
theorem dX9_touched_148 : decode cX9_touched 148 = .ok (.aload_n 0, 1) := by decide +kernel
theorem dX9_touched_149 : decode cX9_touched 149 = .ok (.getfield 120, 3) := by decide +kernel
theorem dX9_touched_152 : decode cX9_touched 152 = .ok (.iload 8, 2) := by decide +kernel
theorem dX9_touched_154 : decode cX9_touched 154 = .ok (.iaload, 1) := by decide +kernel
theorem dX9_touched_155 : decode cX9_touched 155 = .ok (.aload_n 0, 1) := by decide +kernel
theorem dX9_touched_156 : decode cX9_touched 156 = .ok (.getfield 90, 3) := by decide +kernel
theorem dX9_touched_159 : decode cX9_touched 159 = .ok (.iload 8, 2) := by decide +kernel
theorem dX9_touched_161 : decode cX9_touched 161 = .ok (.iaload, 1) := by decide +kernel
theorem dX9_touched_162 : decode cX9_touched 162 = .ok (.if_icmp .ne 7, 3) := by decide +kernel
theorem dX9_touched_165 : decode cX9_touched 165 = .ok (.iconst 1, 1) := by decide +kernel
theorem dX9_touched_166 : decode cX9_touched 166 = .ok (.goto 4, 3) := by decide +kernel
theorem dX9_touched_169 : decode cX9_touched 169 = .ok (.iconst 0, 1) := by decide +kernel
theorem dX9_touched_170 : decode cX9_touched 170 = .ok (.istore 7, 2) := by decide +kernel
theorem dX9_touched_172 : decode cX9_touched 172 = .ok (.iinc 8 1, 3) := by decide +kernel
theorem dX9_touched_175 : decode cX9_touched 175 = .ok (.goto (-39), 3) := by decide +kernel
theorem dX9_touched_178 : decode cX9_touched 178 = .ok (.iload_n 3, 1) := by decide +kernel
theorem dX9_touched_179 : decode cX9_touched 179 = .ok (.iload 7, 2) := by decide +kernel
theorem dX9_touched_181 : decode cX9_touched 181 = .ok (.ifCond .eq 7, 3) := by decide +kernel
theorem dX9_touched_184 : decode cX9_touched 184 = .ok (.iconst 0, 1) := by decide +kernel
theorem dX9_touched_185 : decode cX9_touched 185 = .ok (.goto 7, 3) := by decide +kernel
theorem dX9_touched_188 : decode cX9_touched 188 = .ok (.iconst 1, 1) := by decide +kernel
theorem dX9_touched_189 : decode cX9_touched 189 = .ok (.iload 5, 2) := by decide +kernel
theorem dX9_touched_191 : decode cX9_touched 191 = .ok (.ishl, 1) := by decide +kernel
theorem dX9_touched_192 : decode cX9_touched 192 = .ok (.ior, 1) := by decide +kernel
theorem dX9_touched_193 : decode cX9_touched 193 = .ok (.istore_n 3, 1) := by decide +kernel
theorem dX9_touched_194 : decode cX9_touched 194 = .ok (.iinc 5 1, 3) := by decide +kernel
theorem dX9_touched_197 : decode cX9_touched 197 = .ok (.goto (-162), 3) := by decide +kernel
theorem dX9_touched_200 : decode cX9_touched 200 = .ok (.iload_n 3, 1) := by decide +kernel
theorem dX9_touched_201 : decode cX9_touched 201 = .ok (.ireturn, 1) := by decide +kernel
theorem dX9_count_0 : decode cX9_count 0 = .ok (.aload_n 0, 1) := by decide +kernel
theorem dX9_count_1 : decode cX9_count 1 = .ok (.iconst 0, 1) := by decide +kernel
theorem dX9_count_2 : decode cX9_count 2 = .ok (.putfield 123, 3) := by decide +kernel
theorem dX9_count_5 : decode cX9_count 5 = .ok (.iload_n 1, 1) := by decide +kernel
theorem dX9_count_6 : decode cX9_count 6 = .ok (.tableswitch 109 0 6 #[42, 79, 84, 89, 94, 99, 104], 42) := by decide +kernel
theorem dX9_count_48 : decode cX9_count 48 = .ok (.iconst 0, 1) := by decide +kernel
theorem dX9_count_49 : decode cX9_count 49 = .ok (.istore_n 2, 1) := by decide +kernel
theorem dX9_count_50 : decode cX9_count 50 = .ok (.iconst 0, 1) := by decide +kernel
theorem dX9_count_51 : decode cX9_count 51 = .ok (.istore_n 3, 1) := by decide +kernel
theorem dX9_count_52 : decode cX9_count 52 = .ok (.iload_n 3, 1) := by decide +kernel
theorem dX9_count_53 : decode cX9_count 53 = .ok (.aload_n 0, 1) := by decide +kernel
theorem dX9_count_54 : decode cX9_count 54 = .ok (.getfield 136, 3) := by decide +kernel
theorem dX9_count_57 : decode cX9_count 57 = .ok (.if_icmp .ge 26, 3) := by decide +kernel
theorem dX9_count_60 : decode cX9_count 60 = .ok (.iload_n 2, 1) := by decide +kernel
theorem dX9_count_61 : decode cX9_count 61 = .ok (.aload_n 0, 1) := by decide +kernel
theorem dX9_count_62 : decode cX9_count 62 = .ok (.getfield 37, 3) := by decide +kernel
theorem dX9_count_65 : decode cX9_count 65 = .ok (.iload_n 3, 1) := by decide +kernel
theorem dX9_count_66 : decode cX9_count 66 = .ok (.baload, 1) := by decide +kernel
theorem dX9_count_67 : decode cX9_count 67 = .ok (.ifCond .eq 7, 3) := by decide +kernel
theorem dX9_count_70 : decode cX9_count 70 = .ok (.iconst 1, 1) := by decide +kernel
theorem dX9_count_71 : decode cX9_count 71 = .ok (.goto 4, 3) := by decide +kernel
theorem dX9_count_74 : decode cX9_count 74 = .ok (.iconst 0, 1) := by decide +kernel
theorem dX9_count_75 : decode cX9_count 75 = .ok (.iadd, 1) := by decide +kernel
theorem dX9_count_76 : decode cX9_count 76 = .ok (.istore_n 2, 1) := by decide +kernel
theorem dX9_count_77 : decode cX9_count 77 = .ok (.iinc 3 1, 3) := by decide +kernel
theorem dX9_count_80 : decode cX9_count 80 = .ok (.goto (-28), 3) := by decide +kernel
theorem dX9_count_83 : decode cX9_count 83 = .ok (.iload_n 2, 1) := by decide +kernel
theorem dX9_count_84 : decode cX9_count 84 = .ok (.ireturn, 1) := by decide +kernel
theorem dX9_count_85 : decode cX9_count 85 = .ok (.aload_n 0, 1) := by decide +kernel
theorem dX9_count_86 : decode cX9_count 86 = .ok (.getfield 136, 3) := by decide +kernel
theorem dX9_count_89 : decode cX9_count 89 = .ok (.ireturn, 1) := by decide +kernel
theorem dX9_count_90 : decode cX9_count 90 = .ok (.aload_n 0, 1) := by decide +kernel
theorem dX9_count_91 : decode cX9_count 91 = .ok (.getfield 235, 3) := by decide +kernel
theorem dX9_count_94 : decode cX9_count 94 = .ok (.ireturn, 1) := by decide +kernel
theorem dX9_count_95 : decode cX9_count 95 = .ok (.aload_n 0, 1) := by decide +kernel
theorem dX9_count_96 : decode cX9_count 96 = .ok (.getfield 265, 3) := by decide +kernel
theorem dX9_count_99 : decode cX9_count 99 = .ok (.ireturn, 1) := by decide +kernel
theorem dX9_count_100 : decode cX9_count 100 = .ok (.aload_n 0, 1) := by decide +kernel
theorem dX9_count_101 : decode cX9_count 101 = .ok (.getfield 129, 3) := by decide +kernel
theorem dX9_count_104 : decode cX9_count 104 = .ok (.ireturn, 1) := by decide +kernel
theorem dX9_count_105 : decode cX9_count 105 = .ok (.aload_n 0, 1) := by decide +kernel
theorem dX9_count_106 : decode cX9_count 106 = .ok (.getfield 164, 3) := by decide +kernel
theorem dX9_count_109 : decode cX9_count 109 = .ok (.ireturn, 1) := by decide +kernel
theorem dX9_count_110 : decode cX9_count 110 = .ok (.aload_n 0, 1) := by decide +kernel
theorem dX9_count_111 : decode cX9_count 111 = .ok (.getfield 271, 3) := by decide +kernel
theorem dX9_count_114 : decode cX9_count 114 = .ok (.ireturn, 1) := by decide +kernel
theorem dX9_count_115 : decode cX9_count 115 = .ok (.iconst (-1), 1) := by decide +kernel
theorem dX9_count_116 : decode cX9_count 116 = .ok (.ireturn, 1) := by decide +kernel
theorem dX9_status_0 : decode cX9_status 0 = .ok (.aload_n 0, 1) := by decide +kernel
theorem dX9_status_1 : decode cX9_status 1 = .ok (.iconst 0, 1) := by decide +kernel
theorem dX9_status_2 : decode cX9_status 2 = .ok (.putfield 123, 3) := by decide +kernel
theorem dX9_status_5 : decode cX9_status 5 = .ok (.aload_n 0, 1) := by decide +kernel
theorem dX9_status_6 : decode cX9_status 6 = .ok (.getfield 126, 3) := by decide +kernel
theorem dX9_status_9 : decode cX9_status 9 = .ok (.ireturn, 1) := by decide +kernel
end
section
theorem dL_law_0 : decode cL_law 0 = .ok (.new 7, 3) := by decide +kernel
theorem dL_law_3 : decode cL_law 3 = .ok (.dup, 1) := by decide +kernel
theorem dL_law_4 : decode cL_law 4 = .ok (.invokespecial 9, 3) := by decide +kernel
theorem dL_law_7 : decode cL_law 7 = .ok (.astore_n 1, 1) := by decide +kernel
theorem dL_law_8 : decode cL_law 8 = .ok (.new 10, 3) := by decide +kernel
theorem dL_law_11 : decode cL_law 11 = .ok (.dup, 1) := by decide +kernel
theorem dL_law_12 : decode cL_law 12 = .ok (.invokespecial 12, 3) := by decide +kernel
theorem dL_law_15 : decode cL_law 15 = .ok (.astore_n 2, 1) := by decide +kernel
theorem dL_law_16 : decode cL_law 16 = .ok (.iconst 0, 1) := by decide +kernel
theorem dL_law_17 : decode cL_law 17 = .ok (.istore_n 3, 1) := by decide +kernel
theorem dL_law_18 : decode cL_law 18 = .ok (.iload_n 3, 1) := by decide +kernel
theorem dL_law_19 : decode cL_law 19 = .ok (.aload_n 0, 1) := by decide +kernel
theorem dL_law_20 : decode cL_law 20 = .ok (.arraylength, 1) := by decide +kernel
theorem dL_law_21 : decode cL_law 21 = .ok (.bipush 6, 2) := by decide +kernel
theorem dL_law_23 : decode cL_law 23 = .ok (.isub, 1) := by decide +kernel
theorem dL_law_24 : decode cL_law 24 = .ok (.if_icmp .gt 767, 3) := by decide +kernel
theorem dL_law_27 : decode cL_law 27 = .ok (.aload_n 0, 1) := by decide +kernel
theorem dL_law_28 : decode cL_law 28 = .ok (.iload_n 3, 1) := by decide +kernel
theorem dL_law_29 : decode cL_law 29 = .ok (.iaload, 1) := by decide +kernel
theorem dL_law_30 : decode cL_law 30 = .ok (.bipush 31, 2) := by decide +kernel
theorem dL_law_32 : decode cL_law 32 = .ok (.iand, 1) := by decide +kernel
theorem dL_law_33 : decode cL_law 33 = .ok (.tableswitch 752 0 20 #[99, 152, 185, 228, 251, 284, 347, 370, 383, 396, 419, 452, 505, 528, 541, 574, 597, 640, 683, 716, 739], 99) := by decide +kernel
theorem dL_law_132 : decode cL_law 132 = .ok (.aload_n 1, 1) := by decide +kernel
theorem dL_law_133 : decode cL_law 133 = .ok (.aload_n 0, 1) := by decide +kernel
theorem dL_law_134 : decode cL_law 134 = .ok (.iload_n 3, 1) := by decide +kernel
theorem dL_law_135 : decode cL_law 135 = .ok (.iconst 1, 1) := by decide +kernel
theorem dL_law_136 : decode cL_law 136 = .ok (.iadd, 1) := by decide +kernel
theorem dL_law_137 : decode cL_law 137 = .ok (.iaload, 1) := by decide +kernel
theorem dL_law_138 : decode cL_law 138 = .ok (.aload_n 0, 1) := by decide +kernel
theorem dL_law_139 : decode cL_law 139 = .ok (.iload_n 3, 1) := by decide +kernel
theorem dL_law_140 : decode cL_law 140 = .ok (.iconst 2, 1) := by decide +kernel
theorem dL_law_141 : decode cL_law 141 = .ok (.iadd, 1) := by decide +kernel
theorem dL_law_142 : decode cL_law 142 = .ok (.iaload, 1) := by decide +kernel
theorem dL_law_143 : decode cL_law 143 = .ok (.aload_n 0, 1) := by decide +kernel
theorem dL_law_144 : decode cL_law 144 = .ok (.iload_n 3, 1) := by decide +kernel
theorem dL_law_145 : decode cL_law 145 = .ok (.iconst 3, 1) := by decide +kernel
theorem dL_law_146 : decode cL_law 146 = .ok (.iadd, 1) := by decide +kernel
theorem dL_law_147 : decode cL_law 147 = .ok (.iaload, 1) := by decide +kernel
theorem dL_law_148 : decode cL_law 148 = .ok (.aload_n 0, 1) := by decide +kernel
theorem dL_law_149 : decode cL_law 149 = .ok (.iload_n 3, 1) := by decide +kernel
theorem dL_law_150 : decode cL_law 150 = .ok (.iconst 4, 1) := by decide +kernel
theorem dL_law_151 : decode cL_law 151 = .ok (.iadd, 1) := by decide +kernel
theorem dL_law_152 : decode cL_law 152 = .ok (.iaload, 1) := by decide +kernel
theorem dL_law_153 : decode cL_law 153 = .ok (.invokevirtual 13, 3) := by decide +kernel
theorem dL_law_156 : decode cL_law 156 = .ok (.aload_n 2, 1) := by decide +kernel
theorem dL_law_157 : decode cL_law 157 = .ok (.aload_n 0, 1) := by decide +kernel
theorem dL_law_158 : decode cL_law 158 = .ok (.iload_n 3, 1) := by decide +kernel
theorem dL_law_159 : decode cL_law 159 = .ok (.iconst 1, 1) := by decide +kernel
theorem dL_law_160 : decode cL_law 160 = .ok (.iadd, 1) := by decide +kernel
theorem dL_law_161 : decode cL_law 161 = .ok (.iaload, 1) := by decide +kernel
theorem dL_law_162 : decode cL_law 162 = .ok (.aload_n 0, 1) := by decide +kernel
theorem dL_law_163 : decode cL_law 163 = .ok (.iload_n 3, 1) := by decide +kernel
theorem dL_law_164 : decode cL_law 164 = .ok (.iconst 2, 1) := by decide +kernel
theorem dL_law_165 : decode cL_law 165 = .ok (.iadd, 1) := by decide +kernel
theorem dL_law_166 : decode cL_law 166 = .ok (.iaload, 1) := by decide +kernel
theorem dL_law_167 : decode cL_law 167 = .ok (.aload_n 0, 1) := by decide +kernel
theorem dL_law_168 : decode cL_law 168 = .ok (.iload_n 3, 1) := by decide +kernel
theorem dL_law_169 : decode cL_law 169 = .ok (.iconst 3, 1) := by decide +kernel
theorem dL_law_170 : decode cL_law 170 = .ok (.iadd, 1) := by decide +kernel
theorem dL_law_171 : decode cL_law 171 = .ok (.iaload, 1) := by decide +kernel
theorem dL_law_172 : decode cL_law 172 = .ok (.aload_n 0, 1) := by decide +kernel
theorem dL_law_173 : decode cL_law 173 = .ok (.iload_n 3, 1) := by decide +kernel
theorem dL_law_174 : decode cL_law 174 = .ok (.iconst 4, 1) := by decide +kernel
theorem dL_law_175 : decode cL_law 175 = .ok (.iadd, 1) := by decide +kernel
theorem dL_law_176 : decode cL_law 176 = .ok (.iaload, 1) := by decide +kernel
theorem dL_law_177 : decode cL_law 177 = .ok (.invokevirtual 17, 3) := by decide +kernel
theorem dL_law_180 : decode cL_law 180 = .ok (.if_icmp .eq 605, 3) := by decide +kernel
theorem dL_law_183 : decode cL_law 183 = .ok (.iconst 0, 1) := by decide +kernel
theorem dL_law_184 : decode cL_law 184 = .ok (.ireturn, 1) := by decide +kernel
theorem dL_law_185 : decode cL_law 185 = .ok (.aload_n 1, 1) := by decide +kernel
theorem dL_law_186 : decode cL_law 186 = .ok (.aload_n 0, 1) := by decide +kernel
theorem dL_law_187 : decode cL_law 187 = .ok (.iload_n 3, 1) := by decide +kernel
theorem dL_law_188 : decode cL_law 188 = .ok (.iconst 1, 1) := by decide +kernel
theorem dL_law_189 : decode cL_law 189 = .ok (.iadd, 1) := by decide +kernel
theorem dL_law_190 : decode cL_law 190 = .ok (.iaload, 1) := by decide +kernel
theorem dL_law_191 : decode cL_law 191 = .ok (.aload_n 0, 1) := by decide +kernel
theorem dL_law_192 : decode cL_law 192 = .ok (.iload_n 3, 1) := by decide +kernel
theorem dL_law_193 : decode cL_law 193 = .ok (.iconst 2, 1) := by decide +kernel
theorem dL_law_194 : decode cL_law 194 = .ok (.iadd, 1) := by decide +kernel
theorem dL_law_195 : decode cL_law 195 = .ok (.iaload, 1) := by decide +kernel
theorem dL_law_196 : decode cL_law 196 = .ok (.invokevirtual 18, 3) := by decide +kernel
theorem dL_law_199 : decode cL_law 199 = .ok (.aload_n 2, 1) := by decide +kernel
theorem dL_law_200 : decode cL_law 200 = .ok (.aload_n 0, 1) := by decide +kernel
theorem dL_law_201 : decode cL_law 201 = .ok (.iload_n 3, 1) := by decide +kernel
theorem dL_law_202 : decode cL_law 202 = .ok (.iconst 1, 1) := by decide +kernel
theorem dL_law_203 : decode cL_law 203 = .ok (.iadd, 1) := by decide +kernel
theorem dL_law_204 : decode cL_law 204 = .ok (.iaload, 1) := by decide +kernel
theorem dL_law_205 : decode cL_law 205 = .ok (.aload_n 0, 1) := by decide +kernel
theorem dL_law_206 : decode cL_law 206 = .ok (.iload_n 3, 1) := by decide +kernel
theorem dL_law_207 : decode cL_law 207 = .ok (.iconst 2, 1) := by decide +kernel
theorem dL_law_208 : decode cL_law 208 = .ok (.iadd, 1) := by decide +kernel
theorem dL_law_209 : decode cL_law 209 = .ok (.iaload, 1) := by decide +kernel
theorem dL_law_210 : decode cL_law 210 = .ok (.invokevirtual 22, 3) := by decide +kernel
theorem dL_law_213 : decode cL_law 213 = .ok (.if_icmp .eq 572, 3) := by decide +kernel
theorem dL_law_216 : decode cL_law 216 = .ok (.iconst 0, 1) := by decide +kernel
theorem dL_law_217 : decode cL_law 217 = .ok (.ireturn, 1) := by decide +kernel
theorem dL_law_218 : decode cL_law 218 = .ok (.aload_n 1, 1) := by decide +kernel
theorem dL_law_219 : decode cL_law 219 = .ok (.aload_n 0, 1) := by decide +kernel
theorem dL_law_220 : decode cL_law 220 = .ok (.iload_n 3, 1) := by decide +kernel
theorem dL_law_221 : decode cL_law 221 = .ok (.iconst 1, 1) := by decide +kernel
theorem dL_law_222 : decode cL_law 222 = .ok (.iadd, 1) := by decide +kernel
theorem dL_law_223 : decode cL_law 223 = .ok (.iaload, 1) := by decide +kernel
theorem dL_law_224 : decode cL_law 224 = .ok (.aload_n 0, 1) := by decide +kernel
theorem dL_law_225 : decode cL_law 225 = .ok (.iload_n 3, 1) := by decide +kernel
theorem dL_law_226 : decode cL_law 226 = .ok (.iconst 2, 1) := by decide +kernel
theorem dL_law_227 : decode cL_law 227 = .ok (.iadd, 1) := by decide +kernel
theorem dL_law_228 : decode cL_law 228 = .ok (.iaload, 1) := by decide +kernel
theorem dL_law_229 : decode cL_law 229 = .ok (.aload_n 0, 1) := by decide +kernel
theorem dL_law_230 : decode cL_law 230 = .ok (.iload_n 3, 1) := by decide +kernel
theorem dL_law_231 : decode cL_law 231 = .ok (.iconst 3, 1) := by decide +kernel
theorem dL_law_232 : decode cL_law 232 = .ok (.iadd, 1) := by decide +kernel
theorem dL_law_233 : decode cL_law 233 = .ok (.iaload, 1) := by decide +kernel
theorem dL_law_234 : decode cL_law 234 = .ok (.invokevirtual 23, 3) := by decide +kernel
theorem dL_law_237 : decode cL_law 237 = .ok (.aload_n 2, 1) := by decide +kernel
theorem dL_law_238 : decode cL_law 238 = .ok (.aload_n 0, 1) := by decide +kernel
theorem dL_law_239 : decode cL_law 239 = .ok (.iload_n 3, 1) := by decide +kernel
theorem dL_law_240 : decode cL_law 240 = .ok (.iconst 1, 1) := by decide +kernel
theorem dL_law_241 : decode cL_law 241 = .ok (.iadd, 1) := by decide +kernel
theorem dL_law_242 : decode cL_law 242 = .ok (.iaload, 1) := by decide +kernel
theorem dL_law_243 : decode cL_law 243 = .ok (.aload_n 0, 1) := by decide +kernel
theorem dL_law_244 : decode cL_law 244 = .ok (.iload_n 3, 1) := by decide +kernel
theorem dL_law_245 : decode cL_law 245 = .ok (.iconst 2, 1) := by decide +kernel
theorem dL_law_246 : decode cL_law 246 = .ok (.iadd, 1) := by decide +kernel
theorem dL_law_247 : decode cL_law 247 = .ok (.iaload, 1) := by decide +kernel
theorem dL_law_248 : decode cL_law 248 = .ok (.aload_n 0, 1) := by decide +kernel
theorem dL_law_249 : decode cL_law 249 = .ok (.iload_n 3, 1) := by decide +kernel
theorem dL_law_250 : decode cL_law 250 = .ok (.iconst 3, 1) := by decide +kernel
theorem dL_law_251 : decode cL_law 251 = .ok (.iadd, 1) := by decide +kernel
theorem dL_law_252 : decode cL_law 252 = .ok (.iaload, 1) := by decide +kernel
theorem dL_law_253 : decode cL_law 253 = .ok (.invokevirtual 27, 3) := by decide +kernel
theorem dL_law_256 : decode cL_law 256 = .ok (.if_icmp .eq 529, 3) := by decide +kernel
theorem dL_law_259 : decode cL_law 259 = .ok (.iconst 0, 1) := by decide +kernel
theorem dL_law_260 : decode cL_law 260 = .ok (.ireturn, 1) := by decide +kernel
theorem dL_law_261 : decode cL_law 261 = .ok (.aload_n 1, 1) := by decide +kernel
theorem dL_law_262 : decode cL_law 262 = .ok (.aload_n 0, 1) := by decide +kernel
theorem dL_law_263 : decode cL_law 263 = .ok (.iload_n 3, 1) := by decide +kernel
theorem dL_law_264 : decode cL_law 264 = .ok (.iconst 1, 1) := by decide +kernel
theorem dL_law_265 : decode cL_law 265 = .ok (.iadd, 1) := by decide +kernel
theorem dL_law_266 : decode cL_law 266 = .ok (.iaload, 1) := by decide +kernel
theorem dL_law_267 : decode cL_law 267 = .ok (.invokevirtual 28, 3) := by decide +kernel
theorem dL_law_270 : decode cL_law 270 = .ok (.aload_n 2, 1) := by decide +kernel
theorem dL_law_271 : decode cL_law 271 = .ok (.aload_n 0, 1) := by decide +kernel
theorem dL_law_272 : decode cL_law 272 = .ok (.iload_n 3, 1) := by decide +kernel
theorem dL_law_273 : decode cL_law 273 = .ok (.iconst 1, 1) := by decide +kernel
theorem dL_law_274 : decode cL_law 274 = .ok (.iadd, 1) := by decide +kernel
theorem dL_law_275 : decode cL_law 275 = .ok (.iaload, 1) := by decide +kernel
theorem dL_law_276 : decode cL_law 276 = .ok (.invokevirtual 32, 3) := by decide +kernel
theorem dL_law_279 : decode cL_law 279 = .ok (.if_icmp .eq 506, 3) := by decide +kernel
theorem dL_law_282 : decode cL_law 282 = .ok (.iconst 0, 1) := by decide +kernel
theorem dL_law_283 : decode cL_law 283 = .ok (.ireturn, 1) := by decide +kernel
theorem dL_law_284 : decode cL_law 284 = .ok (.aload_n 1, 1) := by decide +kernel
theorem dL_law_285 : decode cL_law 285 = .ok (.aload_n 0, 1) := by decide +kernel
theorem dL_law_286 : decode cL_law 286 = .ok (.iload_n 3, 1) := by decide +kernel
theorem dL_law_287 : decode cL_law 287 = .ok (.iconst 1, 1) := by decide +kernel
theorem dL_law_288 : decode cL_law 288 = .ok (.iadd, 1) := by decide +kernel
theorem dL_law_289 : decode cL_law 289 = .ok (.iaload, 1) := by decide +kernel
theorem dL_law_290 : decode cL_law 290 = .ok (.aload_n 0, 1) := by decide +kernel
theorem dL_law_291 : decode cL_law 291 = .ok (.iload_n 3, 1) := by decide +kernel
theorem dL_law_292 : decode cL_law 292 = .ok (.iconst 2, 1) := by decide +kernel
theorem dL_law_293 : decode cL_law 293 = .ok (.iadd, 1) := by decide +kernel
theorem dL_law_294 : decode cL_law 294 = .ok (.iaload, 1) := by decide +kernel
theorem dL_law_295 : decode cL_law 295 = .ok (.invokevirtual 33, 3) := by decide +kernel
theorem dL_law_298 : decode cL_law 298 = .ok (.aload_n 2, 1) := by decide +kernel
theorem dL_law_299 : decode cL_law 299 = .ok (.aload_n 0, 1) := by decide +kernel
theorem dL_law_300 : decode cL_law 300 = .ok (.iload_n 3, 1) := by decide +kernel
theorem dL_law_301 : decode cL_law 301 = .ok (.iconst 1, 1) := by decide +kernel
theorem dL_law_302 : decode cL_law 302 = .ok (.iadd, 1) := by decide +kernel
theorem dL_law_303 : decode cL_law 303 = .ok (.iaload, 1) := by decide +kernel
theorem dL_law_304 : decode cL_law 304 = .ok (.aload_n 0, 1) := by decide +kernel
theorem dL_law_305 : decode cL_law 305 = .ok (.iload_n 3, 1) := by decide +kernel
theorem dL_law_306 : decode cL_law 306 = .ok (.iconst 2, 1) := by decide +kernel
theorem dL_law_307 : decode cL_law 307 = .ok (.iadd, 1) := by decide +kernel
theorem dL_law_308 : decode cL_law 308 = .ok (.iaload, 1) := by decide +kernel
theorem dL_law_309 : decode cL_law 309 = .ok (.invokevirtual 36, 3) := by decide +kernel
theorem dL_law_312 : decode cL_law 312 = .ok (.if_icmp .eq 473, 3) := by decide +kernel
theorem dL_law_315 : decode cL_law 315 = .ok (.iconst 0, 1) := by decide +kernel
theorem dL_law_316 : decode cL_law 316 = .ok (.ireturn, 1) := by decide +kernel
theorem dL_law_317 : decode cL_law 317 = .ok (.aload_n 1, 1) := by decide +kernel
theorem dL_law_318 : decode cL_law 318 = .ok (.aload_n 0, 1) := by decide +kernel
theorem dL_law_319 : decode cL_law 319 = .ok (.iload_n 3, 1) := by decide +kernel
theorem dL_law_320 : decode cL_law 320 = .ok (.iconst 1, 1) := by decide +kernel
theorem dL_law_321 : decode cL_law 321 = .ok (.iadd, 1) := by decide +kernel
theorem dL_law_322 : decode cL_law 322 = .ok (.iaload, 1) := by decide +kernel
theorem dL_law_323 : decode cL_law 323 = .ok (.aload_n 0, 1) := by decide +kernel
theorem dL_law_324 : decode cL_law 324 = .ok (.iload_n 3, 1) := by decide +kernel
theorem dL_law_325 : decode cL_law 325 = .ok (.iconst 2, 1) := by decide +kernel
theorem dL_law_326 : decode cL_law 326 = .ok (.iadd, 1) := by decide +kernel
theorem dL_law_327 : decode cL_law 327 = .ok (.iaload, 1) := by decide +kernel
theorem dL_law_328 : decode cL_law 328 = .ok (.aload_n 0, 1) := by decide +kernel
theorem dL_law_329 : decode cL_law 329 = .ok (.iload_n 3, 1) := by decide +kernel
theorem dL_law_330 : decode cL_law 330 = .ok (.iconst 3, 1) := by decide +kernel
theorem dL_law_331 : decode cL_law 331 = .ok (.iadd, 1) := by decide +kernel
theorem dL_law_332 : decode cL_law 332 = .ok (.iaload, 1) := by decide +kernel
theorem dL_law_333 : decode cL_law 333 = .ok (.aload_n 0, 1) := by decide +kernel
theorem dL_law_334 : decode cL_law 334 = .ok (.iload_n 3, 1) := by decide +kernel
theorem dL_law_335 : decode cL_law 335 = .ok (.iconst 4, 1) := by decide +kernel
theorem dL_law_336 : decode cL_law 336 = .ok (.iadd, 1) := by decide +kernel
theorem dL_law_337 : decode cL_law 337 = .ok (.iaload, 1) := by decide +kernel
theorem dL_law_338 : decode cL_law 338 = .ok (.aload_n 0, 1) := by decide +kernel
theorem dL_law_339 : decode cL_law 339 = .ok (.iload_n 3, 1) := by decide +kernel
theorem dL_law_340 : decode cL_law 340 = .ok (.iconst 5, 1) := by decide +kernel
theorem dL_law_341 : decode cL_law 341 = .ok (.iadd, 1) := by decide +kernel
theorem dL_law_342 : decode cL_law 342 = .ok (.iaload, 1) := by decide +kernel
theorem dL_law_343 : decode cL_law 343 = .ok (.invokevirtual 37, 3) := by decide +kernel
theorem dL_law_346 : decode cL_law 346 = .ok (.aload_n 2, 1) := by decide +kernel
theorem dL_law_347 : decode cL_law 347 = .ok (.aload_n 0, 1) := by decide +kernel
theorem dL_law_348 : decode cL_law 348 = .ok (.iload_n 3, 1) := by decide +kernel
theorem dL_law_349 : decode cL_law 349 = .ok (.iconst 1, 1) := by decide +kernel
theorem dL_law_350 : decode cL_law 350 = .ok (.iadd, 1) := by decide +kernel
theorem dL_law_351 : decode cL_law 351 = .ok (.iaload, 1) := by decide +kernel
theorem dL_law_352 : decode cL_law 352 = .ok (.aload_n 0, 1) := by decide +kernel
theorem dL_law_353 : decode cL_law 353 = .ok (.iload_n 3, 1) := by decide +kernel
theorem dL_law_354 : decode cL_law 354 = .ok (.iconst 2, 1) := by decide +kernel
theorem dL_law_355 : decode cL_law 355 = .ok (.iadd, 1) := by decide +kernel
theorem dL_law_356 : decode cL_law 356 = .ok (.iaload, 1) := by decide +kernel
theorem dL_law_357 : decode cL_law 357 = .ok (.aload_n 0, 1) := by decide +kernel
theorem dL_law_358 : decode cL_law 358 = .ok (.iload_n 3, 1) := by decide +kernel
theorem dL_law_359 : decode cL_law 359 = .ok (.iconst 3, 1) := by decide +kernel
theorem dL_law_360 : decode cL_law 360 = .ok (.iadd, 1) := by decide +kernel
theorem dL_law_361 : decode cL_law 361 = .ok (.iaload, 1) := by decide +kernel
theorem dL_law_362 : decode cL_law 362 = .ok (.aload_n 0, 1) := by decide +kernel
theorem dL_law_363 : decode cL_law 363 = .ok (.iload_n 3, 1) := by decide +kernel
theorem dL_law_364 : decode cL_law 364 = .ok (.iconst 4, 1) := by decide +kernel
theorem dL_law_365 : decode cL_law 365 = .ok (.iadd, 1) := by decide +kernel
theorem dL_law_366 : decode cL_law 366 = .ok (.iaload, 1) := by decide +kernel
theorem dL_law_367 : decode cL_law 367 = .ok (.aload_n 0, 1) := by decide +kernel
theorem dL_law_368 : decode cL_law 368 = .ok (.iload_n 3, 1) := by decide +kernel
theorem dL_law_369 : decode cL_law 369 = .ok (.iconst 5, 1) := by decide +kernel
theorem dL_law_370 : decode cL_law 370 = .ok (.iadd, 1) := by decide +kernel
theorem dL_law_371 : decode cL_law 371 = .ok (.iaload, 1) := by decide +kernel
theorem dL_law_372 : decode cL_law 372 = .ok (.invokevirtual 41, 3) := by decide +kernel
theorem dL_law_375 : decode cL_law 375 = .ok (.if_icmp .eq 410, 3) := by decide +kernel
theorem dL_law_378 : decode cL_law 378 = .ok (.iconst 0, 1) := by decide +kernel
theorem dL_law_379 : decode cL_law 379 = .ok (.ireturn, 1) := by decide +kernel
theorem dL_law_380 : decode cL_law 380 = .ok (.aload_n 1, 1) := by decide +kernel
theorem dL_law_381 : decode cL_law 381 = .ok (.aload_n 0, 1) := by decide +kernel
theorem dL_law_382 : decode cL_law 382 = .ok (.iload_n 3, 1) := by decide +kernel
theorem dL_law_383 : decode cL_law 383 = .ok (.iconst 1, 1) := by decide +kernel
theorem dL_law_384 : decode cL_law 384 = .ok (.iadd, 1) := by decide +kernel
theorem dL_law_385 : decode cL_law 385 = .ok (.iaload, 1) := by decide +kernel
theorem dL_law_386 : decode cL_law 386 = .ok (.invokevirtual 42, 3) := by decide +kernel
theorem dL_law_389 : decode cL_law 389 = .ok (.aload_n 2, 1) := by decide +kernel
theorem dL_law_390 : decode cL_law 390 = .ok (.aload_n 0, 1) := by decide +kernel
theorem dL_law_391 : decode cL_law 391 = .ok (.iload_n 3, 1) := by decide +kernel
theorem dL_law_392 : decode cL_law 392 = .ok (.iconst 1, 1) := by decide +kernel
theorem dL_law_393 : decode cL_law 393 = .ok (.iadd, 1) := by decide +kernel
theorem dL_law_394 : decode cL_law 394 = .ok (.iaload, 1) := by decide +kernel
theorem dL_law_395 : decode cL_law 395 = .ok (.invokevirtual 45, 3) := by decide +kernel
theorem dL_law_398 : decode cL_law 398 = .ok (.if_icmp .eq 387, 3) := by decide +kernel
theorem dL_law_401 : decode cL_law 401 = .ok (.iconst 0, 1) := by decide +kernel
theorem dL_law_402 : decode cL_law 402 = .ok (.ireturn, 1) := by decide +kernel
theorem dL_law_403 : decode cL_law 403 = .ok (.aload_n 1, 1) := by decide +kernel
theorem dL_law_404 : decode cL_law 404 = .ok (.invokevirtual 46, 3) := by decide +kernel
theorem dL_law_407 : decode cL_law 407 = .ok (.aload_n 2, 1) := by decide +kernel
theorem dL_law_408 : decode cL_law 408 = .ok (.invokevirtual 50, 3) := by decide +kernel
theorem dL_law_411 : decode cL_law 411 = .ok (.if_icmp .eq 374, 3) := by decide +kernel
theorem dL_law_414 : decode cL_law 414 = .ok (.iconst 0, 1) := by decide +kernel
theorem dL_law_415 : decode cL_law 415 = .ok (.ireturn, 1) := by decide +kernel
theorem dL_law_416 : decode cL_law 416 = .ok (.aload_n 1, 1) := by decide +kernel
theorem dL_law_417 : decode cL_law 417 = .ok (.invokevirtual 51, 3) := by decide +kernel
theorem dL_law_420 : decode cL_law 420 = .ok (.aload_n 2, 1) := by decide +kernel
theorem dL_law_421 : decode cL_law 421 = .ok (.invokevirtual 54, 3) := by decide +kernel
theorem dL_law_424 : decode cL_law 424 = .ok (.if_icmp .eq 361, 3) := by decide +kernel
theorem dL_law_427 : decode cL_law 427 = .ok (.iconst 0, 1) := by decide +kernel
theorem dL_law_428 : decode cL_law 428 = .ok (.ireturn, 1) := by decide +kernel
theorem dL_law_429 : decode cL_law 429 = .ok (.aload_n 1, 1) := by decide +kernel
theorem dL_law_430 : decode cL_law 430 = .ok (.aload_n 0, 1) := by decide +kernel
theorem dL_law_431 : decode cL_law 431 = .ok (.iload_n 3, 1) := by decide +kernel
theorem dL_law_432 : decode cL_law 432 = .ok (.iconst 1, 1) := by decide +kernel
theorem dL_law_433 : decode cL_law 433 = .ok (.iadd, 1) := by decide +kernel
theorem dL_law_434 : decode cL_law 434 = .ok (.iaload, 1) := by decide +kernel
theorem dL_law_435 : decode cL_law 435 = .ok (.invokevirtual 55, 3) := by decide +kernel
theorem dL_law_438 : decode cL_law 438 = .ok (.aload_n 2, 1) := by decide +kernel
theorem dL_law_439 : decode cL_law 439 = .ok (.aload_n 0, 1) := by decide +kernel
theorem dL_law_440 : decode cL_law 440 = .ok (.iload_n 3, 1) := by decide +kernel
theorem dL_law_441 : decode cL_law 441 = .ok (.iconst 1, 1) := by decide +kernel
theorem dL_law_442 : decode cL_law 442 = .ok (.iadd, 1) := by decide +kernel
theorem dL_law_443 : decode cL_law 443 = .ok (.iaload, 1) := by decide +kernel
theorem dL_law_444 : decode cL_law 444 = .ok (.invokevirtual 58, 3) := by decide +kernel
theorem dL_law_447 : decode cL_law 447 = .ok (.if_icmp .eq 338, 3) := by decide +kernel
theorem dL_law_450 : decode cL_law 450 = .ok (.iconst 0, 1) := by decide +kernel
theorem dL_law_451 : decode cL_law 451 = .ok (.ireturn, 1) := by decide +kernel
theorem dL_law_452 : decode cL_law 452 = .ok (.aload_n 1, 1) := by decide +kernel
theorem dL_law_453 : decode cL_law 453 = .ok (.aload_n 0, 1) := by decide +kernel
theorem dL_law_454 : decode cL_law 454 = .ok (.iload_n 3, 1) := by decide +kernel
theorem dL_law_455 : decode cL_law 455 = .ok (.iconst 1, 1) := by decide +kernel
theorem dL_law_456 : decode cL_law 456 = .ok (.iadd, 1) := by decide +kernel
theorem dL_law_457 : decode cL_law 457 = .ok (.iaload, 1) := by decide +kernel
theorem dL_law_458 : decode cL_law 458 = .ok (.aload_n 0, 1) := by decide +kernel
theorem dL_law_459 : decode cL_law 459 = .ok (.iload_n 3, 1) := by decide +kernel
theorem dL_law_460 : decode cL_law 460 = .ok (.iconst 2, 1) := by decide +kernel
theorem dL_law_461 : decode cL_law 461 = .ok (.iadd, 1) := by decide +kernel
theorem dL_law_462 : decode cL_law 462 = .ok (.iaload, 1) := by decide +kernel
theorem dL_law_463 : decode cL_law 463 = .ok (.invokevirtual 59, 3) := by decide +kernel
theorem dL_law_466 : decode cL_law 466 = .ok (.aload_n 2, 1) := by decide +kernel
theorem dL_law_467 : decode cL_law 467 = .ok (.aload_n 0, 1) := by decide +kernel
theorem dL_law_468 : decode cL_law 468 = .ok (.iload_n 3, 1) := by decide +kernel
theorem dL_law_469 : decode cL_law 469 = .ok (.iconst 1, 1) := by decide +kernel
theorem dL_law_470 : decode cL_law 470 = .ok (.iadd, 1) := by decide +kernel
theorem dL_law_471 : decode cL_law 471 = .ok (.iaload, 1) := by decide +kernel
theorem dL_law_472 : decode cL_law 472 = .ok (.aload_n 0, 1) := by decide +kernel
theorem dL_law_473 : decode cL_law 473 = .ok (.iload_n 3, 1) := by decide +kernel
theorem dL_law_474 : decode cL_law 474 = .ok (.iconst 2, 1) := by decide +kernel
theorem dL_law_475 : decode cL_law 475 = .ok (.iadd, 1) := by decide +kernel
theorem dL_law_476 : decode cL_law 476 = .ok (.iaload, 1) := by decide +kernel
theorem dL_law_477 : decode cL_law 477 = .ok (.invokevirtual 62, 3) := by decide +kernel
theorem dL_law_480 : decode cL_law 480 = .ok (.if_icmp .eq 305, 3) := by decide +kernel
theorem dL_law_483 : decode cL_law 483 = .ok (.iconst 0, 1) := by decide +kernel
theorem dL_law_484 : decode cL_law 484 = .ok (.ireturn, 1) := by decide +kernel
theorem dL_law_485 : decode cL_law 485 = .ok (.aload_n 1, 1) := by decide +kernel
theorem dL_law_486 : decode cL_law 486 = .ok (.aload_n 0, 1) := by decide +kernel
theorem dL_law_487 : decode cL_law 487 = .ok (.iload_n 3, 1) := by decide +kernel
theorem dL_law_488 : decode cL_law 488 = .ok (.iconst 1, 1) := by decide +kernel
theorem dL_law_489 : decode cL_law 489 = .ok (.iadd, 1) := by decide +kernel
theorem dL_law_490 : decode cL_law 490 = .ok (.iaload, 1) := by decide +kernel
theorem dL_law_491 : decode cL_law 491 = .ok (.aload_n 0, 1) := by decide +kernel
theorem dL_law_492 : decode cL_law 492 = .ok (.iload_n 3, 1) := by decide +kernel
theorem dL_law_493 : decode cL_law 493 = .ok (.iconst 2, 1) := by decide +kernel
theorem dL_law_494 : decode cL_law 494 = .ok (.iadd, 1) := by decide +kernel
theorem dL_law_495 : decode cL_law 495 = .ok (.iaload, 1) := by decide +kernel
theorem dL_law_496 : decode cL_law 496 = .ok (.aload_n 0, 1) := by decide +kernel
theorem dL_law_497 : decode cL_law 497 = .ok (.iload_n 3, 1) := by decide +kernel
theorem dL_law_498 : decode cL_law 498 = .ok (.iconst 3, 1) := by decide +kernel
theorem dL_law_499 : decode cL_law 499 = .ok (.iadd, 1) := by decide +kernel
theorem dL_law_500 : decode cL_law 500 = .ok (.iaload, 1) := by decide +kernel
theorem dL_law_501 : decode cL_law 501 = .ok (.aload_n 0, 1) := by decide +kernel
theorem dL_law_502 : decode cL_law 502 = .ok (.iload_n 3, 1) := by decide +kernel
theorem dL_law_503 : decode cL_law 503 = .ok (.iconst 4, 1) := by decide +kernel
theorem dL_law_504 : decode cL_law 504 = .ok (.iadd, 1) := by decide +kernel
theorem dL_law_505 : decode cL_law 505 = .ok (.iaload, 1) := by decide +kernel
theorem dL_law_506 : decode cL_law 506 = .ok (.invokevirtual 63, 3) := by decide +kernel
theorem dL_law_509 : decode cL_law 509 = .ok (.aload_n 2, 1) := by decide +kernel
theorem dL_law_510 : decode cL_law 510 = .ok (.aload_n 0, 1) := by decide +kernel
theorem dL_law_511 : decode cL_law 511 = .ok (.iload_n 3, 1) := by decide +kernel
theorem dL_law_512 : decode cL_law 512 = .ok (.iconst 1, 1) := by decide +kernel
theorem dL_law_513 : decode cL_law 513 = .ok (.iadd, 1) := by decide +kernel
theorem dL_law_514 : decode cL_law 514 = .ok (.iaload, 1) := by decide +kernel
theorem dL_law_515 : decode cL_law 515 = .ok (.aload_n 0, 1) := by decide +kernel
theorem dL_law_516 : decode cL_law 516 = .ok (.iload_n 3, 1) := by decide +kernel
theorem dL_law_517 : decode cL_law 517 = .ok (.iconst 2, 1) := by decide +kernel
theorem dL_law_518 : decode cL_law 518 = .ok (.iadd, 1) := by decide +kernel
theorem dL_law_519 : decode cL_law 519 = .ok (.iaload, 1) := by decide +kernel
theorem dL_law_520 : decode cL_law 520 = .ok (.aload_n 0, 1) := by decide +kernel
theorem dL_law_521 : decode cL_law 521 = .ok (.iload_n 3, 1) := by decide +kernel
theorem dL_law_522 : decode cL_law 522 = .ok (.iconst 3, 1) := by decide +kernel
theorem dL_law_523 : decode cL_law 523 = .ok (.iadd, 1) := by decide +kernel
theorem dL_law_524 : decode cL_law 524 = .ok (.iaload, 1) := by decide +kernel
theorem dL_law_525 : decode cL_law 525 = .ok (.aload_n 0, 1) := by decide +kernel
theorem dL_law_526 : decode cL_law 526 = .ok (.iload_n 3, 1) := by decide +kernel
theorem dL_law_527 : decode cL_law 527 = .ok (.iconst 4, 1) := by decide +kernel
theorem dL_law_528 : decode cL_law 528 = .ok (.iadd, 1) := by decide +kernel
theorem dL_law_529 : decode cL_law 529 = .ok (.iaload, 1) := by decide +kernel
theorem dL_law_530 : decode cL_law 530 = .ok (.invokevirtual 66, 3) := by decide +kernel
theorem dL_law_533 : decode cL_law 533 = .ok (.if_icmp .eq 252, 3) := by decide +kernel
theorem dL_law_536 : decode cL_law 536 = .ok (.iconst 0, 1) := by decide +kernel
theorem dL_law_537 : decode cL_law 537 = .ok (.ireturn, 1) := by decide +kernel
theorem dL_law_538 : decode cL_law 538 = .ok (.aload_n 1, 1) := by decide +kernel
theorem dL_law_539 : decode cL_law 539 = .ok (.aload_n 0, 1) := by decide +kernel
theorem dL_law_540 : decode cL_law 540 = .ok (.iload_n 3, 1) := by decide +kernel
theorem dL_law_541 : decode cL_law 541 = .ok (.iconst 1, 1) := by decide +kernel
theorem dL_law_542 : decode cL_law 542 = .ok (.iadd, 1) := by decide +kernel
theorem dL_law_543 : decode cL_law 543 = .ok (.iaload, 1) := by decide +kernel
theorem dL_law_544 : decode cL_law 544 = .ok (.invokevirtual 67, 3) := by decide +kernel
theorem dL_law_547 : decode cL_law 547 = .ok (.aload_n 2, 1) := by decide +kernel
theorem dL_law_548 : decode cL_law 548 = .ok (.aload_n 0, 1) := by decide +kernel
theorem dL_law_549 : decode cL_law 549 = .ok (.iload_n 3, 1) := by decide +kernel
theorem dL_law_550 : decode cL_law 550 = .ok (.iconst 1, 1) := by decide +kernel
theorem dL_law_551 : decode cL_law 551 = .ok (.iadd, 1) := by decide +kernel
theorem dL_law_552 : decode cL_law 552 = .ok (.iaload, 1) := by decide +kernel
theorem dL_law_553 : decode cL_law 553 = .ok (.invokevirtual 70, 3) := by decide +kernel
theorem dL_law_556 : decode cL_law 556 = .ok (.if_icmp .eq 229, 3) := by decide +kernel
theorem dL_law_559 : decode cL_law 559 = .ok (.iconst 0, 1) := by decide +kernel
theorem dL_law_560 : decode cL_law 560 = .ok (.ireturn, 1) := by decide +kernel
theorem dL_law_561 : decode cL_law 561 = .ok (.aload_n 1, 1) := by decide +kernel
theorem dL_law_562 : decode cL_law 562 = .ok (.invokevirtual 71, 3) := by decide +kernel
theorem dL_law_565 : decode cL_law 565 = .ok (.aload_n 2, 1) := by decide +kernel
theorem dL_law_566 : decode cL_law 566 = .ok (.invokevirtual 74, 3) := by decide +kernel
theorem dL_law_569 : decode cL_law 569 = .ok (.if_icmp .eq 216, 3) := by decide +kernel
theorem dL_law_572 : decode cL_law 572 = .ok (.iconst 0, 1) := by decide +kernel
theorem dL_law_573 : decode cL_law 573 = .ok (.ireturn, 1) := by decide +kernel
theorem dL_law_574 : decode cL_law 574 = .ok (.aload_n 1, 1) := by decide +kernel
theorem dL_law_575 : decode cL_law 575 = .ok (.aload_n 0, 1) := by decide +kernel
theorem dL_law_576 : decode cL_law 576 = .ok (.iload_n 3, 1) := by decide +kernel
theorem dL_law_577 : decode cL_law 577 = .ok (.iconst 1, 1) := by decide +kernel
theorem dL_law_578 : decode cL_law 578 = .ok (.iadd, 1) := by decide +kernel
theorem dL_law_579 : decode cL_law 579 = .ok (.iaload, 1) := by decide +kernel
theorem dL_law_580 : decode cL_law 580 = .ok (.aload_n 0, 1) := by decide +kernel
theorem dL_law_581 : decode cL_law 581 = .ok (.iload_n 3, 1) := by decide +kernel
theorem dL_law_582 : decode cL_law 582 = .ok (.iconst 2, 1) := by decide +kernel
theorem dL_law_583 : decode cL_law 583 = .ok (.iadd, 1) := by decide +kernel
theorem dL_law_584 : decode cL_law 584 = .ok (.iaload, 1) := by decide +kernel
theorem dL_law_585 : decode cL_law 585 = .ok (.invokevirtual 75, 3) := by decide +kernel
theorem dL_law_588 : decode cL_law 588 = .ok (.aload_n 2, 1) := by decide +kernel
theorem dL_law_589 : decode cL_law 589 = .ok (.aload_n 0, 1) := by decide +kernel
theorem dL_law_590 : decode cL_law 590 = .ok (.iload_n 3, 1) := by decide +kernel
theorem dL_law_591 : decode cL_law 591 = .ok (.iconst 1, 1) := by decide +kernel
theorem dL_law_592 : decode cL_law 592 = .ok (.iadd, 1) := by decide +kernel
theorem dL_law_593 : decode cL_law 593 = .ok (.iaload, 1) := by decide +kernel
theorem dL_law_594 : decode cL_law 594 = .ok (.aload_n 0, 1) := by decide +kernel
theorem dL_law_595 : decode cL_law 595 = .ok (.iload_n 3, 1) := by decide +kernel
theorem dL_law_596 : decode cL_law 596 = .ok (.iconst 2, 1) := by decide +kernel
theorem dL_law_597 : decode cL_law 597 = .ok (.iadd, 1) := by decide +kernel
theorem dL_law_598 : decode cL_law 598 = .ok (.iaload, 1) := by decide +kernel
theorem dL_law_599 : decode cL_law 599 = .ok (.invokevirtual 78, 3) := by decide +kernel
theorem dL_law_602 : decode cL_law 602 = .ok (.if_icmp .eq 183, 3) := by decide +kernel
theorem dL_law_605 : decode cL_law 605 = .ok (.iconst 0, 1) := by decide +kernel
theorem dL_law_606 : decode cL_law 606 = .ok (.ireturn, 1) := by decide +kernel
theorem dL_law_607 : decode cL_law 607 = .ok (.aload_n 1, 1) := by decide +kernel
theorem dL_law_608 : decode cL_law 608 = .ok (.aload_n 0, 1) := by decide +kernel
theorem dL_law_609 : decode cL_law 609 = .ok (.iload_n 3, 1) := by decide +kernel
theorem dL_law_610 : decode cL_law 610 = .ok (.iconst 1, 1) := by decide +kernel
theorem dL_law_611 : decode cL_law 611 = .ok (.iadd, 1) := by decide +kernel
theorem dL_law_612 : decode cL_law 612 = .ok (.iaload, 1) := by decide +kernel
theorem dL_law_613 : decode cL_law 613 = .ok (.invokevirtual 79, 3) := by decide +kernel
theorem dL_law_616 : decode cL_law 616 = .ok (.aload_n 2, 1) := by decide +kernel
theorem dL_law_617 : decode cL_law 617 = .ok (.aload_n 0, 1) := by decide +kernel
theorem dL_law_618 : decode cL_law 618 = .ok (.iload_n 3, 1) := by decide +kernel
theorem dL_law_619 : decode cL_law 619 = .ok (.iconst 1, 1) := by decide +kernel
theorem dL_law_620 : decode cL_law 620 = .ok (.iadd, 1) := by decide +kernel
theorem dL_law_621 : decode cL_law 621 = .ok (.iaload, 1) := by decide +kernel
theorem dL_law_622 : decode cL_law 622 = .ok (.invokevirtual 82, 3) := by decide +kernel
theorem dL_law_625 : decode cL_law 625 = .ok (.if_icmp .eq 160, 3) := by decide +kernel
theorem dL_law_628 : decode cL_law 628 = .ok (.iconst 0, 1) := by decide +kernel
theorem dL_law_629 : decode cL_law 629 = .ok (.ireturn, 1) := by decide +kernel
theorem dL_law_630 : decode cL_law 630 = .ok (.aload_n 1, 1) := by decide +kernel
theorem dL_law_631 : decode cL_law 631 = .ok (.aload_n 0, 1) := by decide +kernel
theorem dL_law_632 : decode cL_law 632 = .ok (.iload_n 3, 1) := by decide +kernel
theorem dL_law_633 : decode cL_law 633 = .ok (.iconst 1, 1) := by decide +kernel
theorem dL_law_634 : decode cL_law 634 = .ok (.iadd, 1) := by decide +kernel
theorem dL_law_635 : decode cL_law 635 = .ok (.iaload, 1) := by decide +kernel
theorem dL_law_636 : decode cL_law 636 = .ok (.aload_n 0, 1) := by decide +kernel
theorem dL_law_637 : decode cL_law 637 = .ok (.iload_n 3, 1) := by decide +kernel
theorem dL_law_638 : decode cL_law 638 = .ok (.iconst 2, 1) := by decide +kernel
theorem dL_law_639 : decode cL_law 639 = .ok (.iadd, 1) := by decide +kernel
theorem dL_law_640 : decode cL_law 640 = .ok (.iaload, 1) := by decide +kernel
theorem dL_law_641 : decode cL_law 641 = .ok (.aload_n 0, 1) := by decide +kernel
theorem dL_law_642 : decode cL_law 642 = .ok (.iload_n 3, 1) := by decide +kernel
theorem dL_law_643 : decode cL_law 643 = .ok (.iconst 3, 1) := by decide +kernel
theorem dL_law_644 : decode cL_law 644 = .ok (.iadd, 1) := by decide +kernel
theorem dL_law_645 : decode cL_law 645 = .ok (.iaload, 1) := by decide +kernel
theorem dL_law_646 : decode cL_law 646 = .ok (.invokevirtual 83, 3) := by decide +kernel
theorem dL_law_649 : decode cL_law 649 = .ok (.aload_n 2, 1) := by decide +kernel
theorem dL_law_650 : decode cL_law 650 = .ok (.aload_n 0, 1) := by decide +kernel
theorem dL_law_651 : decode cL_law 651 = .ok (.iload_n 3, 1) := by decide +kernel
theorem dL_law_652 : decode cL_law 652 = .ok (.iconst 1, 1) := by decide +kernel
theorem dL_law_653 : decode cL_law 653 = .ok (.iadd, 1) := by decide +kernel
theorem dL_law_654 : decode cL_law 654 = .ok (.iaload, 1) := by decide +kernel
theorem dL_law_655 : decode cL_law 655 = .ok (.aload_n 0, 1) := by decide +kernel
theorem dL_law_656 : decode cL_law 656 = .ok (.iload_n 3, 1) := by decide +kernel
theorem dL_law_657 : decode cL_law 657 = .ok (.iconst 2, 1) := by decide +kernel
theorem dL_law_658 : decode cL_law 658 = .ok (.iadd, 1) := by decide +kernel
theorem dL_law_659 : decode cL_law 659 = .ok (.iaload, 1) := by decide +kernel
theorem dL_law_660 : decode cL_law 660 = .ok (.aload_n 0, 1) := by decide +kernel
theorem dL_law_661 : decode cL_law 661 = .ok (.iload_n 3, 1) := by decide +kernel
theorem dL_law_662 : decode cL_law 662 = .ok (.iconst 3, 1) := by decide +kernel
theorem dL_law_663 : decode cL_law 663 = .ok (.iadd, 1) := by decide +kernel
theorem dL_law_664 : decode cL_law 664 = .ok (.iaload, 1) := by decide +kernel
theorem dL_law_665 : decode cL_law 665 = .ok (.invokevirtual 86, 3) := by decide +kernel
theorem dL_law_668 : decode cL_law 668 = .ok (.if_icmp .eq 117, 3) := by decide +kernel
theorem dL_law_671 : decode cL_law 671 = .ok (.iconst 0, 1) := by decide +kernel
theorem dL_law_672 : decode cL_law 672 = .ok (.ireturn, 1) := by decide +kernel
theorem dL_law_673 : decode cL_law 673 = .ok (.aload_n 1, 1) := by decide +kernel
theorem dL_law_674 : decode cL_law 674 = .ok (.aload_n 0, 1) := by decide +kernel
theorem dL_law_675 : decode cL_law 675 = .ok (.iload_n 3, 1) := by decide +kernel
theorem dL_law_676 : decode cL_law 676 = .ok (.iconst 1, 1) := by decide +kernel
theorem dL_law_677 : decode cL_law 677 = .ok (.iadd, 1) := by decide +kernel
theorem dL_law_678 : decode cL_law 678 = .ok (.iaload, 1) := by decide +kernel
theorem dL_law_679 : decode cL_law 679 = .ok (.aload_n 0, 1) := by decide +kernel
theorem dL_law_680 : decode cL_law 680 = .ok (.iload_n 3, 1) := by decide +kernel
theorem dL_law_681 : decode cL_law 681 = .ok (.iconst 2, 1) := by decide +kernel
theorem dL_law_682 : decode cL_law 682 = .ok (.iadd, 1) := by decide +kernel
theorem dL_law_683 : decode cL_law 683 = .ok (.iaload, 1) := by decide +kernel
theorem dL_law_684 : decode cL_law 684 = .ok (.aload_n 0, 1) := by decide +kernel
theorem dL_law_685 : decode cL_law 685 = .ok (.iload_n 3, 1) := by decide +kernel
theorem dL_law_686 : decode cL_law 686 = .ok (.iconst 3, 1) := by decide +kernel
theorem dL_law_687 : decode cL_law 687 = .ok (.iadd, 1) := by decide +kernel
theorem dL_law_688 : decode cL_law 688 = .ok (.iaload, 1) := by decide +kernel
theorem dL_law_689 : decode cL_law 689 = .ok (.invokevirtual 87, 3) := by decide +kernel
theorem dL_law_692 : decode cL_law 692 = .ok (.aload_n 2, 1) := by decide +kernel
theorem dL_law_693 : decode cL_law 693 = .ok (.aload_n 0, 1) := by decide +kernel
theorem dL_law_694 : decode cL_law 694 = .ok (.iload_n 3, 1) := by decide +kernel
theorem dL_law_695 : decode cL_law 695 = .ok (.iconst 1, 1) := by decide +kernel
theorem dL_law_696 : decode cL_law 696 = .ok (.iadd, 1) := by decide +kernel
theorem dL_law_697 : decode cL_law 697 = .ok (.iaload, 1) := by decide +kernel
theorem dL_law_698 : decode cL_law 698 = .ok (.aload_n 0, 1) := by decide +kernel
theorem dL_law_699 : decode cL_law 699 = .ok (.iload_n 3, 1) := by decide +kernel
theorem dL_law_700 : decode cL_law 700 = .ok (.iconst 2, 1) := by decide +kernel
theorem dL_law_701 : decode cL_law 701 = .ok (.iadd, 1) := by decide +kernel
theorem dL_law_702 : decode cL_law 702 = .ok (.iaload, 1) := by decide +kernel
theorem dL_law_703 : decode cL_law 703 = .ok (.aload_n 0, 1) := by decide +kernel
theorem dL_law_704 : decode cL_law 704 = .ok (.iload_n 3, 1) := by decide +kernel
theorem dL_law_705 : decode cL_law 705 = .ok (.iconst 3, 1) := by decide +kernel
theorem dL_law_706 : decode cL_law 706 = .ok (.iadd, 1) := by decide +kernel
theorem dL_law_707 : decode cL_law 707 = .ok (.iaload, 1) := by decide +kernel
theorem dL_law_708 : decode cL_law 708 = .ok (.invokevirtual 90, 3) := by decide +kernel
theorem dL_law_711 : decode cL_law 711 = .ok (.if_icmp .eq 74, 3) := by decide +kernel
theorem dL_law_714 : decode cL_law 714 = .ok (.iconst 0, 1) := by decide +kernel
theorem dL_law_715 : decode cL_law 715 = .ok (.ireturn, 1) := by decide +kernel
theorem dL_law_716 : decode cL_law 716 = .ok (.aload_n 1, 1) := by decide +kernel
theorem dL_law_717 : decode cL_law 717 = .ok (.aload_n 0, 1) := by decide +kernel
theorem dL_law_718 : decode cL_law 718 = .ok (.iload_n 3, 1) := by decide +kernel
theorem dL_law_719 : decode cL_law 719 = .ok (.iconst 1, 1) := by decide +kernel
theorem dL_law_720 : decode cL_law 720 = .ok (.iadd, 1) := by decide +kernel
theorem dL_law_721 : decode cL_law 721 = .ok (.iaload, 1) := by decide +kernel
theorem dL_law_722 : decode cL_law 722 = .ok (.aload_n 0, 1) := by decide +kernel
theorem dL_law_723 : decode cL_law 723 = .ok (.iload_n 3, 1) := by decide +kernel
theorem dL_law_724 : decode cL_law 724 = .ok (.iconst 2, 1) := by decide +kernel
theorem dL_law_725 : decode cL_law 725 = .ok (.iadd, 1) := by decide +kernel
theorem dL_law_726 : decode cL_law 726 = .ok (.iaload, 1) := by decide +kernel
theorem dL_law_727 : decode cL_law 727 = .ok (.invokevirtual 91, 3) := by decide +kernel
theorem dL_law_730 : decode cL_law 730 = .ok (.aload_n 2, 1) := by decide +kernel
theorem dL_law_731 : decode cL_law 731 = .ok (.aload_n 0, 1) := by decide +kernel
theorem dL_law_732 : decode cL_law 732 = .ok (.iload_n 3, 1) := by decide +kernel
theorem dL_law_733 : decode cL_law 733 = .ok (.iconst 1, 1) := by decide +kernel
theorem dL_law_734 : decode cL_law 734 = .ok (.iadd, 1) := by decide +kernel
theorem dL_law_735 : decode cL_law 735 = .ok (.iaload, 1) := by decide +kernel
theorem dL_law_736 : decode cL_law 736 = .ok (.aload_n 0, 1) := by decide +kernel
theorem dL_law_737 : decode cL_law 737 = .ok (.iload_n 3, 1) := by decide +kernel
theorem dL_law_738 : decode cL_law 738 = .ok (.iconst 2, 1) := by decide +kernel
theorem dL_law_739 : decode cL_law 739 = .ok (.iadd, 1) := by decide +kernel
theorem dL_law_740 : decode cL_law 740 = .ok (.iaload, 1) := by decide +kernel
theorem dL_law_741 : decode cL_law 741 = .ok (.invokevirtual 94, 3) := by decide +kernel
theorem dL_law_744 : decode cL_law 744 = .ok (.if_icmp .eq 41, 3) := by decide +kernel
theorem dL_law_747 : decode cL_law 747 = .ok (.iconst 0, 1) := by decide +kernel
theorem dL_law_748 : decode cL_law 748 = .ok (.ireturn, 1) := by decide +kernel
theorem dL_law_749 : decode cL_law 749 = .ok (.aload_n 1, 1) := by decide +kernel
theorem dL_law_750 : decode cL_law 750 = .ok (.aload_n 0, 1) := by decide +kernel
theorem dL_law_751 : decode cL_law 751 = .ok (.iload_n 3, 1) := by decide +kernel
theorem dL_law_752 : decode cL_law 752 = .ok (.iconst 1, 1) := by decide +kernel
theorem dL_law_753 : decode cL_law 753 = .ok (.iadd, 1) := by decide +kernel
theorem dL_law_754 : decode cL_law 754 = .ok (.iaload, 1) := by decide +kernel
theorem dL_law_755 : decode cL_law 755 = .ok (.invokevirtual 95, 3) := by decide +kernel
theorem dL_law_758 : decode cL_law 758 = .ok (.aload_n 2, 1) := by decide +kernel
theorem dL_law_759 : decode cL_law 759 = .ok (.aload_n 0, 1) := by decide +kernel
theorem dL_law_760 : decode cL_law 760 = .ok (.iload_n 3, 1) := by decide +kernel
theorem dL_law_761 : decode cL_law 761 = .ok (.iconst 1, 1) := by decide +kernel
theorem dL_law_762 : decode cL_law 762 = .ok (.iadd, 1) := by decide +kernel
theorem dL_law_763 : decode cL_law 763 = .ok (.iaload, 1) := by decide +kernel
theorem dL_law_764 : decode cL_law 764 = .ok (.invokevirtual 98, 3) := by decide +kernel
theorem dL_law_767 : decode cL_law 767 = .ok (.if_icmp .eq 18, 3) := by decide +kernel
theorem dL_law_770 : decode cL_law 770 = .ok (.iconst 0, 1) := by decide +kernel
theorem dL_law_771 : decode cL_law 771 = .ok (.ireturn, 1) := by decide +kernel
theorem dL_law_772 : decode cL_law 772 = .ok (.aload_n 1, 1) := by decide +kernel
theorem dL_law_773 : decode cL_law 773 = .ok (.invokevirtual 99, 3) := by decide +kernel
theorem dL_law_776 : decode cL_law 776 = .ok (.aload_n 2, 1) := by decide +kernel
theorem dL_law_777 : decode cL_law 777 = .ok (.invokevirtual 102, 3) := by decide +kernel
theorem dL_law_780 : decode cL_law 780 = .ok (.if_icmp .eq 5, 3) := by decide +kernel
theorem dL_law_783 : decode cL_law 783 = .ok (.iconst 0, 1) := by decide +kernel
theorem dL_law_784 : decode cL_law 784 = .ok (.ireturn, 1) := by decide +kernel
theorem dL_law_785 : decode cL_law 785 = .ok (.iinc 3 6, 3) := by decide +kernel
theorem dL_law_788 : decode cL_law 788 = .ok (.goto (-770), 3) := by decide +kernel
theorem dL_law_791 : decode cL_law 791 = .ok (.iconst 1, 1) := by decide +kernel
theorem dL_law_792 : decode cL_law 792 = .ok (.ireturn, 1) := by decide +kernel
theorem dJ9_max_7cf53_0 : decode cJ9_max_7cf53 0 = .ok (.iload_n 0, 1) := by decide +kernel
theorem dJ9_max_7cf53_1 : decode cJ9_max_7cf53 1 = .ok (.iload_n 1, 1) := by decide +kernel
theorem dJ9_max_7cf53_2 : decode cJ9_max_7cf53 2 = .ok (.if_icmp .lt 7, 3) := by decide +kernel
theorem dJ9_max_7cf53_5 : decode cJ9_max_7cf53 5 = .ok (.iload_n 0, 1) := by decide +kernel
theorem dJ9_max_7cf53_6 : decode cJ9_max_7cf53 6 = .ok (.goto 4, 3) := by decide +kernel
theorem dJ9_max_7cf53_9 : decode cJ9_max_7cf53 9 = .ok (.iload_n 1, 1) := by decide +kernel
theorem dJ9_max_7cf53_10 : decode cJ9_max_7cf53 10 = .ok (.ireturn, 1) := by decide +kernel
theorem dJ9_max_f86c9_0 : decode cJ9_max_f86c9 0 = .ok (.lload_n 0, 1) := by decide +kernel
theorem dJ9_max_f86c9_1 : decode cJ9_max_f86c9 1 = .ok (.lload_n 2, 1) := by decide +kernel
theorem dJ9_max_f86c9_2 : decode cJ9_max_f86c9 2 = .ok (.lcmp, 1) := by decide +kernel
theorem dJ9_max_f86c9_3 : decode cJ9_max_f86c9 3 = .ok (.ifCond .lt 7, 3) := by decide +kernel
theorem dJ9_max_f86c9_6 : decode cJ9_max_f86c9 6 = .ok (.lload_n 0, 1) := by decide +kernel
theorem dJ9_max_f86c9_7 : decode cJ9_max_f86c9 7 = .ok (.goto 4, 3) := by decide +kernel
theorem dJ9_max_f86c9_10 : decode cJ9_max_f86c9 10 = .ok (.lload_n 2, 1) := by decide +kernel
theorem dJ9_max_f86c9_11 : decode cJ9_max_f86c9 11 = .ok (.lreturn, 1) := by decide +kernel
theorem dJ9_min_7cf53_0 : decode cJ9_min_7cf53 0 = .ok (.iload_n 0, 1) := by decide +kernel
theorem dJ9_min_7cf53_1 : decode cJ9_min_7cf53 1 = .ok (.iload_n 1, 1) := by decide +kernel
theorem dJ9_min_7cf53_2 : decode cJ9_min_7cf53 2 = .ok (.if_icmp .gt 7, 3) := by decide +kernel
theorem dJ9_min_7cf53_5 : decode cJ9_min_7cf53 5 = .ok (.iload_n 0, 1) := by decide +kernel
theorem dJ9_min_7cf53_6 : decode cJ9_min_7cf53 6 = .ok (.goto 4, 3) := by decide +kernel
theorem dJ9_min_7cf53_9 : decode cJ9_min_7cf53 9 = .ok (.iload_n 1, 1) := by decide +kernel
theorem dJ9_min_7cf53_10 : decode cJ9_min_7cf53 10 = .ok (.ireturn, 1) := by decide +kernel
theorem dJ9_min_f86c9_0 : decode cJ9_min_f86c9 0 = .ok (.lload_n 0, 1) := by decide +kernel
theorem dJ9_min_f86c9_1 : decode cJ9_min_f86c9 1 = .ok (.lload_n 2, 1) := by decide +kernel
theorem dJ9_min_f86c9_2 : decode cJ9_min_f86c9 2 = .ok (.lcmp, 1) := by decide +kernel
theorem dJ9_min_f86c9_3 : decode cJ9_min_f86c9 3 = .ok (.ifCond .gt 7, 3) := by decide +kernel
theorem dJ9_min_f86c9_6 : decode cJ9_min_f86c9 6 = .ok (.lload_n 0, 1) := by decide +kernel
theorem dJ9_min_f86c9_7 : decode cJ9_min_f86c9 7 = .ok (.goto 4, 3) := by decide +kernel
theorem dJ9_min_f86c9_10 : decode cJ9_min_f86c9 10 = .ok (.lload_n 2, 1) := by decide +kernel
theorem dJ9_min_f86c9_11 : decode cJ9_min_f86c9 11 = .ok (.lreturn, 1) := by decide +kernel
theorem dJ0_length_8abf5_0 : decode cJ0_length_8abf5 0 = .ok (.aload_n 0, 1) := by decide +kernel
theorem dJ0_length_8abf5_1 : decode cJ0_length_8abf5 1 = .ok (.getfield 9, 3) := by decide +kernel
theorem dJ0_length_8abf5_4 : decode cJ0_length_8abf5 4 = .ok (.arraylength, 1) := by decide +kernel
theorem dJ0_length_8abf5_5 : decode cJ0_length_8abf5 5 = .ok (.aload_n 0, 1) := by decide +kernel
theorem dJ0_length_8abf5_6 : decode cJ0_length_8abf5 6 = .ok (.invokevirtual 335, 3) := by decide +kernel
theorem dJ0_length_8abf5_9 : decode cJ0_length_8abf5 9 = .ok (.ishr, 1) := by decide +kernel
theorem dJ0_length_8abf5_10 : decode cJ0_length_8abf5 10 = .ok (.ireturn, 1) := by decide +kernel
theorem dJ0_charAt_5068e_0 : decode cJ0_charAt_5068e 0 = .ok (.aload_n 0, 1) := by decide +kernel
theorem dJ0_charAt_5068e_1 : decode cJ0_charAt_5068e 1 = .ok (.invokevirtual 492, 3) := by decide +kernel
theorem dJ0_charAt_5068e_4 : decode cJ0_charAt_5068e 4 = .ok (.ifCond .eq 12, 3) := by decide +kernel
theorem dJ0_charAt_5068e_7 : decode cJ0_charAt_5068e 7 = .ok (.aload_n 0, 1) := by decide +kernel
theorem dJ0_charAt_5068e_8 : decode cJ0_charAt_5068e 8 = .ok (.getfield 9, 3) := by decide +kernel
theorem dJ0_charAt_5068e_11 : decode cJ0_charAt_5068e 11 = .ok (.iload_n 1, 1) := by decide +kernel
theorem dJ0_charAt_5068e_12 : decode cJ0_charAt_5068e 12 = .ok (.invokestatic 495, 3) := by decide +kernel
theorem dJ0_charAt_5068e_15 : decode cJ0_charAt_5068e 15 = .ok (.ireturn, 1) := by decide +kernel
theorem dJ0_charAt_5068e_16 : decode cJ0_charAt_5068e 16 = .ok (.aload_n 0, 1) := by decide +kernel
theorem dJ0_charAt_5068e_17 : decode cJ0_charAt_5068e 17 = .ok (.getfield 9, 3) := by decide +kernel
theorem dJ0_charAt_5068e_20 : decode cJ0_charAt_5068e 20 = .ok (.iload_n 1, 1) := by decide +kernel
theorem dJ0_charAt_5068e_21 : decode cJ0_charAt_5068e 21 = .ok (.invokestatic 498, 3) := by decide +kernel
theorem dJ0_charAt_5068e_24 : decode cJ0_charAt_5068e 24 = .ok (.ireturn, 1) := by decide +kernel
theorem dJ0_coder_7d493_0 : decode cJ0_coder_7d493 0 = .ok (.getstatic 38, 3) := by decide +kernel
theorem dJ0_coder_7d493_3 : decode cJ0_coder_7d493 3 = .ok (.ifCond .eq 10, 3) := by decide +kernel
theorem dJ0_coder_7d493_6 : decode cJ0_coder_7d493 6 = .ok (.aload_n 0, 1) := by decide +kernel
theorem dJ0_coder_7d493_7 : decode cJ0_coder_7d493 7 = .ok (.getfield 15, 3) := by decide +kernel
theorem dJ0_coder_7d493_10 : decode cJ0_coder_7d493 10 = .ok (.goto 4, 3) := by decide +kernel
theorem dJ0_coder_7d493_13 : decode cJ0_coder_7d493 13 = .ok (.iconst 1, 1) := by decide +kernel
theorem dJ0_coder_7d493_14 : decode cJ0_coder_7d493 14 = .ok (.ireturn, 1) := by decide +kernel
theorem dJ0_isLatin1_aae02_0 : decode cJ0_isLatin1_aae02 0 = .ok (.getstatic 38, 3) := by decide +kernel
theorem dJ0_isLatin1_aae02_3 : decode cJ0_isLatin1_aae02 3 = .ok (.ifCond .eq 14, 3) := by decide +kernel
theorem dJ0_isLatin1_aae02_6 : decode cJ0_isLatin1_aae02 6 = .ok (.aload_n 0, 1) := by decide +kernel
theorem dJ0_isLatin1_aae02_7 : decode cJ0_isLatin1_aae02 7 = .ok (.getfield 15, 3) := by decide +kernel
theorem dJ0_isLatin1_aae02_10 : decode cJ0_isLatin1_aae02 10 = .ok (.ifCond .ne 7, 3) := by decide +kernel
theorem dJ0_isLatin1_aae02_13 : decode cJ0_isLatin1_aae02 13 = .ok (.iconst 1, 1) := by decide +kernel
theorem dJ0_isLatin1_aae02_14 : decode cJ0_isLatin1_aae02 14 = .ok (.goto 4, 3) := by decide +kernel
theorem dJ0_isLatin1_aae02_17 : decode cJ0_isLatin1_aae02 17 = .ok (.iconst 0, 1) := by decide +kernel
theorem dJ0_isLatin1_aae02_18 : decode cJ0_isLatin1_aae02 18 = .ok (.ireturn, 1) := by decide +kernel
theorem dJ0_checkIndex_df160_0 : decode cJ0_checkIndex_df160 0 = .ok (.iload_n 0, 1) := by decide +kernel
theorem dJ0_checkIndex_df160_1 : decode cJ0_checkIndex_df160 1 = .ok (.iload_n 1, 1) := by decide +kernel
theorem dJ0_checkIndex_df160_2 : decode cJ0_checkIndex_df160 2 = .ok (.getstatic 1053, 3) := by decide +kernel
theorem dJ0_checkIndex_df160_5 : decode cJ0_checkIndex_df160 5 = .ok (.invokestatic 1059, 3) := by decide +kernel
theorem dJ0_checkIndex_df160_8 : decode cJ0_checkIndex_df160 8 = .ok (.pop, 1) := by decide +kernel
theorem dJ0_checkIndex_df160_9 : decode cJ0_checkIndex_df160 9 = .ok (.return_, 1) := by decide +kernel
theorem dJ1_charAt_3b067_0 : decode cJ1_charAt_3b067 0 = .ok (.iload_n 1, 1) := by decide +kernel
theorem dJ1_charAt_3b067_1 : decode cJ1_charAt_3b067 1 = .ok (.aload_n 0, 1) := by decide +kernel
theorem dJ1_charAt_3b067_2 : decode cJ1_charAt_3b067 2 = .ok (.arraylength, 1) := by decide +kernel
theorem dJ1_charAt_3b067_3 : decode cJ1_charAt_3b067 3 = .ok (.invokestatic 9, 3) := by decide +kernel
theorem dJ1_charAt_3b067_6 : decode cJ1_charAt_3b067 6 = .ok (.aload_n 0, 1) := by decide +kernel
theorem dJ1_charAt_3b067_7 : decode cJ1_charAt_3b067 7 = .ok (.iload_n 1, 1) := by decide +kernel
theorem dJ1_charAt_3b067_8 : decode cJ1_charAt_3b067 8 = .ok (.baload, 1) := by decide +kernel
theorem dJ1_charAt_3b067_9 : decode cJ1_charAt_3b067 9 = .ok (.sipush 255, 3) := by decide +kernel
theorem dJ1_charAt_3b067_12 : decode cJ1_charAt_3b067 12 = .ok (.iand, 1) := by decide +kernel
theorem dJ1_charAt_3b067_13 : decode cJ1_charAt_3b067 13 = .ok (.i2c, 1) := by decide +kernel
theorem dJ1_charAt_3b067_14 : decode cJ1_charAt_3b067 14 = .ok (.ireturn, 1) := by decide +kernel
theorem dJ2_getChar_3b067_0 : decode cJ2_getChar_3b067 0 = .ok (.getstatic 44, 3) := by decide +kernel
theorem dJ2_getChar_3b067_3 : decode cJ2_getChar_3b067 3 = .ok (.ifCond .ne 25, 3) := by decide +kernel
theorem dJ2_getChar_3b067_6 : decode cJ2_getChar_3b067 6 = .ok (.iload_n 1, 1) := by decide +kernel
theorem dJ2_getChar_3b067_7 : decode cJ2_getChar_3b067 7 = .ok (.ifCond .lt 11, 3) := by decide +kernel
theorem dJ2_getChar_3b067_10 : decode cJ2_getChar_3b067 10 = .ok (.iload_n 1, 1) := by decide +kernel
theorem dJ2_getChar_3b067_11 : decode cJ2_getChar_3b067 11 = .ok (.aload_n 0, 1) := by decide +kernel
theorem dJ2_getChar_3b067_12 : decode cJ2_getChar_3b067 12 = .ok (.invokestatic 48, 3) := by decide +kernel
theorem dJ2_getChar_3b067_15 : decode cJ2_getChar_3b067 15 = .ok (.if_icmp .lt 13, 3) := by decide +kernel
theorem dJ2_getChar_3b067_18 : decode cJ2_getChar_3b067 18 = .ok (.new 52, 3) := by decide +kernel
theorem dJ2_getChar_3b067_21 : decode cJ2_getChar_3b067 21 = .ok (.dup, 1) := by decide +kernel
theorem dJ2_getChar_3b067_22 : decode cJ2_getChar_3b067 22 = .ok (.ldc 54, 2) := by decide +kernel
theorem dJ2_getChar_3b067_24 : decode cJ2_getChar_3b067 24 = .ok (.invokespecial 56, 3) := by decide +kernel
theorem dJ2_getChar_3b067_27 : decode cJ2_getChar_3b067 27 = .ok (.athrow, 1) := by decide +kernel
theorem dJ2_getChar_3b067_28 : decode cJ2_getChar_3b067 28 = .ok (.iload_n 1, 1) := by decide +kernel
theorem dJ2_getChar_3b067_29 : decode cJ2_getChar_3b067 29 = .ok (.iconst 1, 1) := by decide +kernel
theorem dJ2_getChar_3b067_30 : decode cJ2_getChar_3b067 30 = .ok (.ishl, 1) := by decide +kernel
theorem dJ2_getChar_3b067_31 : decode cJ2_getChar_3b067 31 = .ok (.istore_n 1, 1) := by decide +kernel
theorem dJ2_getChar_3b067_32 : decode cJ2_getChar_3b067 32 = .ok (.aload_n 0, 1) := by decide +kernel
theorem dJ2_getChar_3b067_33 : decode cJ2_getChar_3b067 33 = .ok (.iload_n 1, 1) := by decide +kernel
theorem dJ2_getChar_3b067_34 : decode cJ2_getChar_3b067 34 = .ok (.iinc 1 1, 3) := by decide +kernel
theorem dJ2_getChar_3b067_37 : decode cJ2_getChar_3b067 37 = .ok (.baload, 1) := by decide +kernel
theorem dJ2_getChar_3b067_38 : decode cJ2_getChar_3b067 38 = .ok (.sipush 255, 3) := by decide +kernel
theorem dJ2_getChar_3b067_41 : decode cJ2_getChar_3b067 41 = .ok (.iand, 1) := by decide +kernel
theorem dJ2_getChar_3b067_42 : decode cJ2_getChar_3b067 42 = .ok (.getstatic 59, 3) := by decide +kernel
theorem dJ2_getChar_3b067_45 : decode cJ2_getChar_3b067 45 = .ok (.ishl, 1) := by decide +kernel
theorem dJ2_getChar_3b067_46 : decode cJ2_getChar_3b067 46 = .ok (.aload_n 0, 1) := by decide +kernel
theorem dJ2_getChar_3b067_47 : decode cJ2_getChar_3b067 47 = .ok (.iload_n 1, 1) := by decide +kernel
theorem dJ2_getChar_3b067_48 : decode cJ2_getChar_3b067 48 = .ok (.baload, 1) := by decide +kernel
theorem dJ2_getChar_3b067_49 : decode cJ2_getChar_3b067 49 = .ok (.sipush 255, 3) := by decide +kernel
theorem dJ2_getChar_3b067_52 : decode cJ2_getChar_3b067 52 = .ok (.iand, 1) := by decide +kernel
theorem dJ2_getChar_3b067_53 : decode cJ2_getChar_3b067 53 = .ok (.getstatic 63, 3) := by decide +kernel
theorem dJ2_getChar_3b067_56 : decode cJ2_getChar_3b067 56 = .ok (.ishl, 1) := by decide +kernel
theorem dJ2_getChar_3b067_57 : decode cJ2_getChar_3b067 57 = .ok (.ior, 1) := by decide +kernel
theorem dJ2_getChar_3b067_58 : decode cJ2_getChar_3b067 58 = .ok (.i2c, 1) := by decide +kernel
theorem dJ2_getChar_3b067_59 : decode cJ2_getChar_3b067 59 = .ok (.ireturn, 1) := by decide +kernel
theorem dJ2_length_9d52b_0 : decode cJ2_length_9d52b 0 = .ok (.aload_n 0, 1) := by decide +kernel
theorem dJ2_length_9d52b_1 : decode cJ2_length_9d52b 1 = .ok (.arraylength, 1) := by decide +kernel
theorem dJ2_length_9d52b_2 : decode cJ2_length_9d52b 2 = .ok (.iconst 1, 1) := by decide +kernel
theorem dJ2_length_9d52b_3 : decode cJ2_length_9d52b 3 = .ok (.ishr, 1) := by decide +kernel
theorem dJ2_length_9d52b_4 : decode cJ2_length_9d52b 4 = .ok (.ireturn, 1) := by decide +kernel
theorem dJ2_charAt_3b067_0 : decode cJ2_charAt_3b067 0 = .ok (.iload_n 1, 1) := by decide +kernel
theorem dJ2_charAt_3b067_1 : decode cJ2_charAt_3b067 1 = .ok (.aload_n 0, 1) := by decide +kernel
theorem dJ2_charAt_3b067_2 : decode cJ2_charAt_3b067 2 = .ok (.invokestatic 67, 3) := by decide +kernel
theorem dJ2_charAt_3b067_5 : decode cJ2_charAt_3b067 5 = .ok (.aload_n 0, 1) := by decide +kernel
theorem dJ2_charAt_3b067_6 : decode cJ2_charAt_3b067 6 = .ok (.iload_n 1, 1) := by decide +kernel
theorem dJ2_charAt_3b067_7 : decode cJ2_charAt_3b067 7 = .ok (.invokestatic 71, 3) := by decide +kernel
theorem dJ2_charAt_3b067_10 : decode cJ2_charAt_3b067 10 = .ok (.ireturn, 1) := by decide +kernel
theorem dJ2_checkIndex_2214a_0 : decode cJ2_checkIndex_2214a 0 = .ok (.iload_n 0, 1) := by decide +kernel
theorem dJ2_checkIndex_2214a_1 : decode cJ2_checkIndex_2214a 1 = .ok (.aload_n 1, 1) := by decide +kernel
theorem dJ2_checkIndex_2214a_2 : decode cJ2_checkIndex_2214a 2 = .ok (.invokestatic 48, 3) := by decide +kernel
theorem dJ2_checkIndex_2214a_5 : decode cJ2_checkIndex_2214a 5 = .ok (.invokestatic 414, 3) := by decide +kernel
theorem dJ2_checkIndex_2214a_8 : decode cJ2_checkIndex_2214a 8 = .ok (.return_, 1) := by decide +kernel
theorem dJ3_checkIndex_8e157_0 : decode cJ3_checkIndex_8e157 0 = .ok (.iload_n 0, 1) := by decide +kernel
theorem dJ3_checkIndex_8e157_1 : decode cJ3_checkIndex_8e157 1 = .ok (.ifCond .lt 8, 3) := by decide +kernel
theorem dJ3_checkIndex_8e157_4 : decode cJ3_checkIndex_8e157 4 = .ok (.iload_n 0, 1) := by decide +kernel
theorem dJ3_checkIndex_8e157_5 : decode cJ3_checkIndex_8e157 5 = .ok (.iload_n 1, 1) := by decide +kernel
theorem dJ3_checkIndex_8e157_6 : decode cJ3_checkIndex_8e157 6 = .ok (.if_icmp .lt 10, 3) := by decide +kernel
theorem dJ3_checkIndex_8e157_9 : decode cJ3_checkIndex_8e157 9 = .ok (.aload_n 2, 1) := by decide +kernel
theorem dJ3_checkIndex_8e157_10 : decode cJ3_checkIndex_8e157 10 = .ok (.iload_n 0, 1) := by decide +kernel
theorem dJ3_checkIndex_8e157_11 : decode cJ3_checkIndex_8e157 11 = .ok (.iload_n 1, 1) := by decide +kernel
theorem dJ3_checkIndex_8e157_12 : decode cJ3_checkIndex_8e157 12 = .ok (.invokestatic 95, 3) := by decide +kernel
theorem dJ3_checkIndex_8e157_15 : decode cJ3_checkIndex_8e157 15 = .ok (.athrow, 1) := by decide +kernel
theorem dJ3_checkIndex_8e157_16 : decode cJ3_checkIndex_8e157 16 = .ok (.iload_n 0, 1) := by decide +kernel
theorem dJ3_checkIndex_8e157_17 : decode cJ3_checkIndex_8e157 17 = .ok (.ireturn, 1) := by decide +kernel
end
section
/-! the typed heap picture: kinds, ints, longs, references by address and place -/
def wAll : List Cond := lw_tbl.filter goodWord
theorem wm {w : Cond} (h : w ∈ lw_tbl) (g : goodWord w = true) : w ∈ wAll := List.mem_filter.mpr ⟨h, g⟩
theorem wgood : ∀ w ∈ wAll, (w.onTables && w.keeps) = true ∨ ∃ ty, w = .arrayClass ty := fun w h => good_of_word (List.mem_filter.mp h).2
abbrev Hp : Type := (Nat → Option (Nat × Nat)) × (Nat → Nat → Int32) × (Nat → Nat → Int64) × (Nat → Nat → Option Nat)
def gk (σ : Hp) (a : Nat) : Option (Nat × Nat) := σ.1 a
def gi (σ : Hp) (a k : Nat) : Int32 := σ.2.1 a k
def gl (σ : Hp) (a k : Nat) : Int64 := σ.2.2.1 a k
def gr (σ : Hp) (a k : Nat) : Option Nat := σ.2.2.2 a k
def up2 {α : Type} (f : Nat → Nat → α) (a k : Nat) (v : α) : Nat → Nat → α := fun b j => if b = a ∧ j = k then v else f b j
def si (σ : Hp) (a k : Nat) (v : Int32) : Hp := (σ.1, up2 σ.2.1 a k v, σ.2.2.1, σ.2.2.2)
def sl (σ : Hp) (a k : Nat) (v : Int64) : Hp := (σ.1, σ.2.1, up2 σ.2.2.1 a k v, σ.2.2.2)
def sr (σ : Hp) (a k : Nat) (v : Option Nat) : Hp := (σ.1, σ.2.1, σ.2.2.1, up2 σ.2.2.2 a k v)
def nw (σ : Hp) (q t n : Nat) : Hp := (va_up σ.1 q (some (t, n)), va_up σ.2.1 q (fun _ => 0), va_up σ.2.2.1 q (fun _ => 0), va_up σ.2.2.2 q (fun _ => none))
theorem up2_eq {α : Type} (f : Nat → Nat → α) (a k : Nat) (v : α) (b j : Nat) : up2 f a k v b j = if b = a ∧ j = k then v else f b j := rfl
theorem gk_si (σ : Hp) (a k : Nat) (v : Int32) (b : Nat) : gk (si σ a k v) b = gk σ b := rfl
theorem gk_sl (σ : Hp) (a k : Nat) (v : Int64) (b : Nat) : gk (sl σ a k v) b = gk σ b := rfl
theorem gk_sr (σ : Hp) (a k : Nat) (v : Option Nat) (b : Nat) : gk (sr σ a k v) b = gk σ b := rfl
theorem gi_si (σ : Hp) (a k : Nat) (v : Int32) (b j : Nat) : gi (si σ a k v) b j = if b = a ∧ j = k then v else gi σ b j := rfl
theorem gi_sl (σ : Hp) (a k : Nat) (v : Int64) (b j : Nat) : gi (sl σ a k v) b j = gi σ b j := rfl
theorem gi_sr (σ : Hp) (a k : Nat) (v : Option Nat) (b j : Nat) : gi (sr σ a k v) b j = gi σ b j := rfl
theorem gl_si (σ : Hp) (a k : Nat) (v : Int32) (b j : Nat) : gl (si σ a k v) b j = gl σ b j := rfl
theorem gl_sl (σ : Hp) (a k : Nat) (v : Int64) (b j : Nat) : gl (sl σ a k v) b j = if b = a ∧ j = k then v else gl σ b j := rfl
theorem gl_sr (σ : Hp) (a k : Nat) (v : Option Nat) (b j : Nat) : gl (sr σ a k v) b j = gl σ b j := rfl
theorem gr_si (σ : Hp) (a k : Nat) (v : Int32) (b j : Nat) : gr (si σ a k v) b j = gr σ b j := rfl
theorem gr_sl (σ : Hp) (a k : Nat) (v : Int64) (b j : Nat) : gr (sl σ a k v) b j = gr σ b j := rfl
theorem gr_sr (σ : Hp) (a k : Nat) (v : Option Nat) (b j : Nat) : gr (sr σ a k v) b j = if b = a ∧ j = k then v else gr σ b j := rfl
theorem gk_nw (σ : Hp) (q t n b : Nat) : gk (nw σ q t n) b = if b = q then some (t, n) else gk σ b := rfl
theorem gi_nw (σ : Hp) (q t n b j : Nat) : gi (nw σ q t n) b j = if b = q then 0 else gi σ b j := by
  show va_up σ.2.1 q (fun _ => 0) b j = _
  unfold va_up
  split <;> rfl
theorem gl_nw (σ : Hp) (q t n b j : Nat) : gl (nw σ q t n) b j = if b = q then 0 else gl σ b j := by
  show va_up σ.2.2.1 q (fun _ => 0) b j = _
  unfold va_up
  split <;> rfl
theorem gr_nw (σ : Hp) (q t n b j : Nat) : gr (nw σ q t n) b j = if b = q then none else gr σ b j := by
  show va_up σ.2.2.2 q (fun _ => none) b j = _
  unfold va_up
  split <;> rfl
/-- field kinds by class: 0 int or boolean, 1 long, 2 reference -/
def ftab : List (List Nat) := [[2, 0], [2, 0, 1], [2, 2, 0, 0], [0, 2], [0, 0, 0, 0, 0, 0], [2, 0], [2, 2, 2, 2, 2, 0, 0], [2, 0], [2, 2, 2, 2, 2, 0, 0, 0, 0, 2, 2, 2, 2], [0, 0, 0, 2, 2, 2, 2, 2, 2, 0, 2, 2, 2, 2, 0, 2, 2, 2, 2, 2, 2, 0, 0, 2, 2, 2, 2, 2, 2, 2, 2, 0, 2, 0, 0, 0, 0, 1, 0, 0, 0, 2, 2, 2, 2, 2, 2, 0, 0, 2, 2, 2, 2, 0, 2]]
def fty (t k : Nat) : Nat := (ftab.getD t []).getD k 0
def ncl (t : Nat) : Nat := (ftab.getD t []).length
def fv (σ : Hp) (t a k : Nat) : Value := match fty t k with
  | 0 => .int (gi σ a k)
  | 1 => .long (gl σ a k)
  | _ => va_rf (gr σ a k)
/-- the classes' numbers and slots, the arrays' classes, the String constants' places -/
abbrev GG : Type := va_G × (Nat → ClassId) × (Nat → Nat) × (Nat → Nat)
def cE (G : GG) (σ : Hp) (a : Nat) (u : Nat × Nat) : va_E :=
  if u.1 < 10 then .inr (u.1, (List.range (ncl u.1)).map (fv σ u.1 a))
  else if u.1 < 12 then .inl (G.2.1 u.1, u.2, .inl (gi σ a))
  else .inl (G.2.1 u.1, u.2, .inr (.inr (.inr (.inr (gr σ a)))))
def cF (G : GG) (σ : Hp) (a : Nat) : va_E := cE G σ a ((gk σ a).getD (0, 0))
def tysG (G : GG) : List (ClassId × FieldType) := [(G.2.1 10, .int), (G.2.1 11, .boolean), (G.2.1 12, .object "PaperRows$Reader"), (G.2.1 13, .object "PaperRows$Row")]
def AN (N0 : Nat) : Nat → Prop := fun q => N0 ≤ q
def HP (G : GG) (N0 : Nat) (σ : Hp) (H : Heap) : Prop := ∃ L : List Nat, (∀ a : Nat, gk σ a ≠ none ↔ a ∈ L) ∧ va_P G.1 vwCl (va_pl L (cF G σ)) H ∧ va_D (AN N0) (va_pl L (cF G σ))
/-! the world that stays: classes, nest mates, String constants, statics -/
def nestW : List (String × Nat × MethodName × String) := [(RX8, 11, yX5_init, RX8), (RX8, 18, yX0_init, RX8), (RX8, 25, yX7_init, RX8), (RX8, 38, yX6_init, RX8), (RX8, 64, yX1_init, RX8), (RX1, 27, yX8_isValue, RX8), (RX3, 9, yX1_init, RX8)]
def strL : List Nat := [1, 2, 4]
def strB : List (List Int32) := [[118], [117, 112], [100, 111, 119, 110]]
def SE (G : GG) (N0 : Nat) (U : State) : Prop := (vk_R RX2 64 "v" (G.2.2.1 0) U ∧ vk_R RX2 74 "up" (G.2.2.1 1) U ∧ vk_R RX2 76 "down" (G.2.2.1 2) U) ∧ vk_S 3 strL strB G.2.2.1 G.2.2.2 (AN N0) U U.heap ∧ va_Z "java/lang/String" "COMPACT_STRINGS" "Z" (.int 1) (AN N0) U U.heap ∧ va_Zq "jdk/internal/util/Preconditions" "SIOOBE_FORMATTER" "Ljava/util/function/BiFunction;" (AN N0) U U.heap
def GE (G : GG) (N0 : Nat) (U : State) : Prop := va_K G.1 vwCl (tysG G) U ∧ (∀ w ∈ nestW, va_Nw (.methodLinkNest w.1 w.2.1 w.2.2.1 w.2.2.2) U) ∧ (va_AO "PaperRows$Row" U ∧ va_AO "PaperRows$Reader" U) ∧ SE G N0 U
theorem GE.step {G : GG} {N0 : Nat} {s U : State} (h : GE G N0 s) (hW : s.WarmedH U.vm) (hq : ∀ a : Nat, a < s.heap.size → ¬ AN N0 a → U.heap[a]? = s.heap[a]?) : GE G N0 U := by
  obtain ⟨h1, h2, ⟨h3, h4⟩, ⟨h5, h6, h7⟩, h8, h9, h10⟩ := h
  exact ⟨va_K.moved hW.alike h1, fun w hw => va_Nw.warmM hW (h2 w hw), ⟨h3.moved hW.alike, h4.moved hW.alike⟩, ⟨h5.warm hW, h6.warm hW, h7.warm hW⟩, (h8.moved hW.alike).kept hq, (va_Z.moved hW.alike h9).kept hq, (h10.moved hW.alike).kept hq⟩
theorem GE.same {G : GG} {N0 : Nat} {u U : State} (hv : u.vm = U.vm) (hh : U.heap = u.heap) (h : GE G N0 u) : GE G N0 U := by
  obtain ⟨h1, h2, ⟨h3, h4⟩, ⟨h5, h6, h7⟩, h8, h9, h10⟩ := h
  have hA : u.vm.Alike U.vm := by rw [hv]; exact Vm.Alike.refl U.vm
  refine ⟨va_K.moved hA h1, fun w hw => va_Nw.same rfl hv (h2 w hw), ⟨h3.moved hA, h4.moved hA⟩, ⟨h5.same hv.symm, h6.same hv.symm, h7.same hv.symm⟩, ?_, ?_, ?_⟩
  · rw [hh]; exact h8.moved hA
  · rw [hh]; exact va_Z.moved hA h9
  · rw [hh]; exact h10.moved hA
section SEM
variable {p : Program} {l : Launch} {e : Env} {R : Room} {s : State} {m : MethodId} {args : Array Value} {below : List Frame} {meth : Method} {c : Code} {Q : State → Prop} {G : GG} {N0 : Nat} {own : String} {cc : ByteArray} {nL : Nat}
/-- what is fixed while a method runs -/
def EX (p : Program) (s : State) (m : MethodId) (args : Array Value) (meth : Method) (c : Code) (G : GG) (N0 : Nat) (own : String) (cc : ByteArray) (nL : Nat) : Prop :=
  p.tables.exec = Jvm.exec ∧ c.code = cc ∧ c.maxLocals = nL ∧ s.vm.findClass own = some m.cls ∧ (∀ w ∈ wAll, w.before args s = true) ∧ meth.locks = false ∧ GE G N0 s ∧ N0 ≤ s.heap.size
/-- the frame at pc, over the heap picture, comes to Q -/
def V (p : Program) (l : Launch) (e : Env) (R : Room) (s : State) (m : MethodId) (args : Array Value) (below : List Frame) (meth : Method) (c : Code) (Q : State → Prop) (G : GG) (N0 nL : Nat) (σ : Hp) (cu su pc : Nat) (lv : List (Nat × Value)) (st : List Value) : Prop :=
  ∀ (H : Heap) (locs : List Loc) (ls : Array Slot), HP G N0 σ H → va_S (AN N0) s.heap H locs → lv_has ls nL lv → W p l e R s m args below meth c H locs cu su Q (F0 m pc ls st)
variable {σ : Hp} {cu su pc : Nat} {lv lv' : List (Nat × Value)} {st : List Value}

theorem V.to {st2 : List Value} {lv2 : List (Nat × Value)} (ps : List Nat) (hl : lv_pick lv ps = lv2) (hs : st = st2) (k : V p l e R s m args below meth c Q G N0 nL σ cu su pc lv2 st2) : V p l e R s m args below meth c Q G N0 nL σ cu su pc lv st := by
  subst hs
  exact fun H locs ls hH hS hL => k H locs ls hH hS (lv_sub hL ps hl)
theorem V.widen {cu2 su2 : Nat} (h1 : cu ≤ cu2) (h2 : su ≤ su2) (k : V p l e R s m args below meth c Q G N0 nL σ cu2 su2 pc lv st) : V p l e R s m args below meth c Q G N0 nL σ cu su pc lv st := fun H locs ls hH hS hL => W.widen h1 h2 (k H locs ls hH hS hL)
theorem V_iconst (X : EX p s m args meth c G N0 own cc nL) {n : Int} {v : Int32} (hd : decode cc pc = .ok (.iconst n, 1)) (hv : Int32.ofInt n = v) (k : V p l e R s m args below meth c Q G N0 nL σ cu su (pc + 1) lv (.int v :: st)) : V p l e R s m args below meth c Q G N0 nL σ cu su pc lv (st) := fun H locs ls hH hS hL => lv_iconst X.1 X.2.1 hd hv (k H locs ls hH hS hL)
theorem V_bipush (X : EX p s m args meth c G N0 own cc nL) {n : Int} {v : Int32} (hd : decode cc pc = .ok (.bipush n, 2)) (hv : (Int8.ofInt n).toInt32 = v) (k : V p l e R s m args below meth c Q G N0 nL σ cu su (pc + 2) lv (.int v :: st)) : V p l e R s m args below meth c Q G N0 nL σ cu su pc lv (st) := fun H locs ls hH hS hL => lv_bipush X.1 X.2.1 hd hv (k H locs ls hH hS hL)
theorem V_sipush (X : EX p s m args meth c G N0 own cc nL) {n : Int} {v : Int32} (hd : decode cc pc = .ok (.sipush n, 3)) (hv : (Int16.ofInt n).toInt32 = v) (k : V p l e R s m args below meth c Q G N0 nL σ cu su (pc + 3) lv (.int v :: st)) : V p l e R s m args below meth c Q G N0 nL σ cu su pc lv (st) := fun H locs ls hH hS hL => lv_sipush X.1 X.2.1 hd hv (k H locs ls hH hS hL)
theorem V_lconst (X : EX p s m args meth c G N0 own cc nL) {n : Fin 2} {v : Int64} (hd : decode cc pc = .ok (.lconst n, 1)) (hv : Int64.ofNat (n : Nat) = v) (k : V p l e R s m args below meth c Q G N0 nL σ cu su (pc + 1) lv (.long v :: st)) : V p l e R s m args below meth c Q G N0 nL σ cu su pc lv (st) := fun H locs ls hH hS hL => lv_lconst X.1 X.2.1 hd hv (k H locs ls hH hS hL)
theorem V_ldc2 (X : EX p s m args meth c G N0 own cc nL) {index : Nat} {v : Int64} (hd : decode cc pc = .ok (.ldc2_w index, 3)) (hw : Cond.constantLong own index v ∈ wAll) (k : V p l e R s m args below meth c Q G N0 nL σ cu su (pc + 3) lv (.long v :: st)) : V p l e R s m args below meth c Q G N0 nL σ cu su pc lv (st) := fun H locs ls hH hS hL => lv_ldc2 X.1 X.2.1 X.2.2.2.1 (X.2.2.2.2.1 _ hw) hd (k H locs ls hH hS hL)
theorem V_null (X : EX p s m args meth c G N0 own cc nL)  (hd : decode cc pc = .ok (.aconst_null, 1)) (k : V p l e R s m args below meth c Q G N0 nL σ cu su (pc + 1) lv (.null :: st)) : V p l e R s m args below meth c Q G N0 nL σ cu su pc lv (st) := fun H locs ls hH hS hL => lv_null X.1 X.2.1 hd (k H locs ls hH hS hL)
theorem V_iload_n (X : EX p s m args meth c G N0 own cc nL) {k4 : Fin 4} {i : Nat} {x : Int32} (hd : decode cc pc = .ok (.iload_n k4, 1)) (hi : (k4 : Nat) = i) (j : Nat) (hj : lv[j]? = some (i, .int x)) (k : V p l e R s m args below meth c Q G N0 nL σ cu su (pc + 1) lv (.int x :: st)) : V p l e R s m args below meth c Q G N0 nL σ cu su pc lv (st) := fun H locs ls hH hS hL => lv_iload_n X.1 X.2.1 hd hi (lv_at hL j hj) (k H locs ls hH hS hL)
theorem V_iload (X : EX p s m args meth c G N0 own cc nL) {i : Nat} {x : Int32} (hd : decode cc pc = .ok (.iload i, 2)) (j : Nat) (hj : lv[j]? = some (i, .int x)) (k : V p l e R s m args below meth c Q G N0 nL σ cu su (pc + 2) lv (.int x :: st)) : V p l e R s m args below meth c Q G N0 nL σ cu su pc lv (st) := fun H locs ls hH hS hL => lv_iload X.1 X.2.1 hd (lv_at hL j hj) (k H locs ls hH hS hL)
theorem V_lload_n (X : EX p s m args meth c G N0 own cc nL) {k4 : Fin 4} {i : Nat} {x : Int64} (hd : decode cc pc = .ok (.lload_n k4, 1)) (hi : (k4 : Nat) = i) (j : Nat) (hj : lv[j]? = some (i, .long x)) (k : V p l e R s m args below meth c Q G N0 nL σ cu su (pc + 1) lv (.long x :: st)) : V p l e R s m args below meth c Q G N0 nL σ cu su pc lv (st) := fun H locs ls hH hS hL => lv_lload_n X.1 X.2.1 hd hi (lv_at hL j hj) (k H locs ls hH hS hL)
theorem V_lload (X : EX p s m args meth c G N0 own cc nL) {i : Nat} {x : Int64} (hd : decode cc pc = .ok (.lload i, 2)) (j : Nat) (hj : lv[j]? = some (i, .long x)) (k : V p l e R s m args below meth c Q G N0 nL σ cu su (pc + 2) lv (.long x :: st)) : V p l e R s m args below meth c Q G N0 nL σ cu su pc lv (st) := fun H locs ls hH hS hL => lv_lload X.1 X.2.1 hd (lv_at hL j hj) (k H locs ls hH hS hL)
theorem V_aload_n (X : EX p s m args meth c G N0 own cc nL) {k4 : Fin 4} {i : Nat} {x : Nat} (hd : decode cc pc = .ok (.aload_n k4, 1)) (hi : (k4 : Nat) = i) (j : Nat) (hj : lv[j]? = some (i, .ref x)) (k : V p l e R s m args below meth c Q G N0 nL σ cu su (pc + 1) lv (.ref x :: st)) : V p l e R s m args below meth c Q G N0 nL σ cu su pc lv (st) := fun H locs ls hH hS hL => lv_aload_n X.1 X.2.1 hd hi (lv_at hL j hj) (k H locs ls hH hS hL)
theorem V_aload (X : EX p s m args meth c G N0 own cc nL) {i : Nat} {x : Nat} (hd : decode cc pc = .ok (.aload i, 2)) (j : Nat) (hj : lv[j]? = some (i, .ref x)) (k : V p l e R s m args below meth c Q G N0 nL σ cu su (pc + 2) lv (.ref x :: st)) : V p l e R s m args below meth c Q G N0 nL σ cu su pc lv (st) := fun H locs ls hH hS hL => lv_aload X.1 X.2.1 hd (lv_at hL j hj) (k H locs ls hH hS hL)
theorem V_aload_nN (X : EX p s m args meth c G N0 own cc nL) {k4 : Fin 4} {i : Nat} (hd : decode cc pc = .ok (.aload_n k4, 1)) (hi : (k4 : Nat) = i) (j : Nat) (hj : lv[j]? = some (i, .null)) (k : V p l e R s m args below meth c Q G N0 nL σ cu su (pc + 1) lv (.null :: st)) : V p l e R s m args below meth c Q G N0 nL σ cu su pc lv (st) := fun H locs ls hH hS hL => lv_aload_nN X.1 X.2.1 hd hi (lv_at hL j hj) (k H locs ls hH hS hL)
theorem V_aloadN (X : EX p s m args meth c G N0 own cc nL) {i : Nat} (hd : decode cc pc = .ok (.aload i, 2)) (j : Nat) (hj : lv[j]? = some (i, .null)) (k : V p l e R s m args below meth c Q G N0 nL σ cu su (pc + 2) lv (.null :: st)) : V p l e R s m args below meth c Q G N0 nL σ cu su pc lv (st) := fun H locs ls hH hS hL => lv_aloadN X.1 X.2.1 hd (lv_at hL j hj) (k H locs ls hH hS hL)
theorem V_aload_nr (X : EX p s m args meth c G N0 own cc nL) {k4 : Fin 4} {i : Nat} {x : Option Nat} (hd : decode cc pc = .ok (.aload_n k4, 1)) (hi : (k4 : Nat) = i) (j : Nat) (hj : lv[j]? = some (i, va_rf x)) (k : V p l e R s m args below meth c Q G N0 nL σ cu su (pc + 1) lv (va_rf x :: st)) : V p l e R s m args below meth c Q G N0 nL σ cu su pc lv (st) := fun H locs ls hH hS hL => by
  cases x with
  | none => exact lv_aload_nN X.1 X.2.1 hd hi (lv_at hL j hj) (k H locs ls hH hS hL)
  | some x => exact lv_aload_n X.1 X.2.1 hd hi (lv_at hL j hj) (k H locs ls hH hS hL)
theorem V_aloadr (X : EX p s m args meth c G N0 own cc nL) {i : Nat} {x : Option Nat} (hd : decode cc pc = .ok (.aload i, 2)) (j : Nat) (hj : lv[j]? = some (i, va_rf x)) (k : V p l e R s m args below meth c Q G N0 nL σ cu su (pc + 2) lv (va_rf x :: st)) : V p l e R s m args below meth c Q G N0 nL σ cu su pc lv (st) := fun H locs ls hH hS hL => by
  cases x with
  | none => exact lv_aloadN X.1 X.2.1 hd (lv_at hL j hj) (k H locs ls hH hS hL)
  | some x => exact lv_aload X.1 X.2.1 hd (lv_at hL j hj) (k H locs ls hH hS hL)
theorem V_istore_n (X : EX p s m args meth c G N0 own cc nL) {k4 : Fin 4} {i : Nat} {x : Int32} (hd : decode cc pc = .ok (.istore_n k4, 1)) (hi : (k4 : Nat) = i) (hn : i < nL) (hl : (i, Value.int x) :: lv.filter (fun q => !(q.1 == i) && !(q.1 + 1 == i && q.2.category == 2)) = lv') (k : V p l e R s m args below meth c Q G N0 nL σ cu su (pc + 1) lv' (st)) : V p l e R s m args below meth c Q G N0 nL σ cu su pc lv (.int x :: st) := fun H locs ls hH hS hL => lv_istore_n X.1 X.2.1 hd hi hL hn hl (fun ls hL => k H locs ls hH hS hL)
theorem V_istore (X : EX p s m args meth c G N0 own cc nL) {i : Nat} {x : Int32} (hd : decode cc pc = .ok (.istore i, 2)) (hn : i < nL) (hl : (i, Value.int x) :: lv.filter (fun q => !(q.1 == i) && !(q.1 + 1 == i && q.2.category == 2)) = lv') (k : V p l e R s m args below meth c Q G N0 nL σ cu su (pc + 2) lv' (st)) : V p l e R s m args below meth c Q G N0 nL σ cu su pc lv (.int x :: st) := fun H locs ls hH hS hL => lv_istore X.1 X.2.1 hd hL hn hl (fun ls hL => k H locs ls hH hS hL)
theorem V_lstore_n (X : EX p s m args meth c G N0 own cc nL) {k4 : Fin 4} {i : Nat} {x : Int64} (hd : decode cc pc = .ok (.lstore_n k4, 1)) (hi : (k4 : Nat) = i) (hn : i + 1 < nL) (hl : (i, Value.long x) :: lv.filter (fun q => !(q.1 == i) && (!(q.1 == i + 1) && !(q.1 + 1 == i && q.2.category == 2))) = lv') (k : V p l e R s m args below meth c Q G N0 nL σ cu su (pc + 1) lv' (st)) : V p l e R s m args below meth c Q G N0 nL σ cu su pc lv (.long x :: st) := fun H locs ls hH hS hL => lv_lstore_n X.1 X.2.1 hd hi hL hn hl (fun ls hL => k H locs ls hH hS hL)
theorem V_lstore (X : EX p s m args meth c G N0 own cc nL) {i : Nat} {x : Int64} (hd : decode cc pc = .ok (.lstore i, 2)) (hn : i + 1 < nL) (hl : (i, Value.long x) :: lv.filter (fun q => !(q.1 == i) && (!(q.1 == i + 1) && !(q.1 + 1 == i && q.2.category == 2))) = lv') (k : V p l e R s m args below meth c Q G N0 nL σ cu su (pc + 2) lv' (st)) : V p l e R s m args below meth c Q G N0 nL σ cu su pc lv (.long x :: st) := fun H locs ls hH hS hL => lv_lstore X.1 X.2.1 hd hL hn hl (fun ls hL => k H locs ls hH hS hL)
theorem V_astore_n (X : EX p s m args meth c G N0 own cc nL) {k4 : Fin 4} {i : Nat} {x : Nat} (hd : decode cc pc = .ok (.astore_n k4, 1)) (hi : (k4 : Nat) = i) (hn : i < nL) (hl : (i, Value.ref x) :: lv.filter (fun q => !(q.1 == i) && !(q.1 + 1 == i && q.2.category == 2)) = lv') (k : V p l e R s m args below meth c Q G N0 nL σ cu su (pc + 1) lv' (st)) : V p l e R s m args below meth c Q G N0 nL σ cu su pc lv (.ref x :: st) := fun H locs ls hH hS hL => lv_astore_n X.1 X.2.1 hd hi hL hn hl (fun ls hL => k H locs ls hH hS hL)
theorem V_astore (X : EX p s m args meth c G N0 own cc nL) {i : Nat} {x : Nat} (hd : decode cc pc = .ok (.astore i, 2)) (hn : i < nL) (hl : (i, Value.ref x) :: lv.filter (fun q => !(q.1 == i) && !(q.1 + 1 == i && q.2.category == 2)) = lv') (k : V p l e R s m args below meth c Q G N0 nL σ cu su (pc + 2) lv' (st)) : V p l e R s m args below meth c Q G N0 nL σ cu su pc lv (.ref x :: st) := fun H locs ls hH hS hL => lv_astore X.1 X.2.1 hd hL hn hl (fun ls hL => k H locs ls hH hS hL)
theorem V_astore_nr (X : EX p s m args meth c G N0 own cc nL) {k4 : Fin 4} {i : Nat} {x : Option Nat} (hd : decode cc pc = .ok (.astore_n k4, 1)) (hi : (k4 : Nat) = i) (hn : i < nL) (hl : (i, va_rf x) :: lv.filter (fun q => !(q.1 == i) && !(q.1 + 1 == i && q.2.category == 2)) = lv') (k : V p l e R s m args below meth c Q G N0 nL σ cu su (pc + 1) lv' (st)) : V p l e R s m args below meth c Q G N0 nL σ cu su pc lv (va_rf x :: st) := fun H locs ls hH hS hL => by
  cases x with
  | none => exact lv_astore_nN X.1 X.2.1 hd hi hL hn hl (fun ls hL => k H locs ls hH hS hL)
  | some x => exact lv_astore_n X.1 X.2.1 hd hi hL hn hl (fun ls hL => k H locs ls hH hS hL)
theorem V_astorer (X : EX p s m args meth c G N0 own cc nL) {i : Nat} {x : Option Nat} (hd : decode cc pc = .ok (.astore i, 2)) (hn : i < nL) (hl : (i, va_rf x) :: lv.filter (fun q => !(q.1 == i) && !(q.1 + 1 == i && q.2.category == 2)) = lv') (k : V p l e R s m args below meth c Q G N0 nL σ cu su (pc + 2) lv' (st)) : V p l e R s m args below meth c Q G N0 nL σ cu su pc lv (va_rf x :: st) := fun H locs ls hH hS hL => by
  cases x with
  | none => exact lv_astoreN X.1 X.2.1 hd hL hn hl (fun ls hL => k H locs ls hH hS hL)
  | some x => exact lv_astore X.1 X.2.1 hd hL hn hl (fun ls hL => k H locs ls hH hS hL)
theorem V_iinc (X : EX p s m args meth c G N0 own cc nL) {i : Nat} {n : Int} {x v : Int32} (hd : decode cc pc = .ok (.iinc i n, 3)) (j : Nat) (hj : lv[j]? = some (i, .int x)) (hv : x + Int32.ofInt n = v) (hn : i < nL) (hl : (i, Value.int v) :: lv.filter (fun q => !(q.1 == i) && !(q.1 + 1 == i && q.2.category == 2)) = lv') (k : V p l e R s m args below meth c Q G N0 nL σ cu su (pc + 3) lv' (st)) : V p l e R s m args below meth c Q G N0 nL σ cu su pc lv (st) := fun H locs ls hH hS hL => lv_iinc X.1 X.2.1 hd hL hj hv hn hl (fun ls hL => k H locs ls hH hS hL)
theorem V_iadd (X : EX p s m args meth c G N0 own cc nL) {x y : Int32} (hd : decode cc pc = .ok (.iadd, 1)) (k : V p l e R s m args below meth c Q G N0 nL σ cu su (pc + 1) lv (.int (x + y) :: st)) : V p l e R s m args below meth c Q G N0 nL σ cu su pc lv (.int y :: .int x :: st) := fun H locs ls hH hS hL => lv_iadd X.1 X.2.1 hd (k H locs ls hH hS hL)
theorem V_isub (X : EX p s m args meth c G N0 own cc nL) {x y : Int32} (hd : decode cc pc = .ok (.isub, 1)) (k : V p l e R s m args below meth c Q G N0 nL σ cu su (pc + 1) lv (.int (x - y) :: st)) : V p l e R s m args below meth c Q G N0 nL σ cu su pc lv (.int y :: .int x :: st) := fun H locs ls hH hS hL => lv_isub X.1 X.2.1 hd (k H locs ls hH hS hL)
theorem V_imul (X : EX p s m args meth c G N0 own cc nL) {x y : Int32} (hd : decode cc pc = .ok (.imul, 1)) (k : V p l e R s m args below meth c Q G N0 nL σ cu su (pc + 1) lv (.int (x * y) :: st)) : V p l e R s m args below meth c Q G N0 nL σ cu su pc lv (.int y :: .int x :: st) := fun H locs ls hH hS hL => lv_imul X.1 X.2.1 hd (k H locs ls hH hS hL)
theorem V_iand (X : EX p s m args meth c G N0 own cc nL) {x y : Int32} (hd : decode cc pc = .ok (.iand, 1)) (k : V p l e R s m args below meth c Q G N0 nL σ cu su (pc + 1) lv (.int (x &&& y) :: st)) : V p l e R s m args below meth c Q G N0 nL σ cu su pc lv (.int y :: .int x :: st) := fun H locs ls hH hS hL => lv_iand X.1 X.2.1 hd (k H locs ls hH hS hL)
theorem V_ior (X : EX p s m args meth c G N0 own cc nL) {x y : Int32} (hd : decode cc pc = .ok (.ior, 1)) (k : V p l e R s m args below meth c Q G N0 nL σ cu su (pc + 1) lv (.int (x ||| y) :: st)) : V p l e R s m args below meth c Q G N0 nL σ cu su pc lv (.int y :: .int x :: st) := fun H locs ls hH hS hL => lv_ior X.1 X.2.1 hd (k H locs ls hH hS hL)
theorem V_ladd (X : EX p s m args meth c G N0 own cc nL) {x y : Int64} (hd : decode cc pc = .ok (.ladd, 1)) (k : V p l e R s m args below meth c Q G N0 nL σ cu su (pc + 1) lv (.long (x + y) :: st)) : V p l e R s m args below meth c Q G N0 nL σ cu su pc lv (.long y :: .long x :: st) := fun H locs ls hH hS hL => lv_ladd X.1 X.2.1 hd (k H locs ls hH hS hL)
theorem V_lsub (X : EX p s m args meth c G N0 own cc nL) {x y : Int64} (hd : decode cc pc = .ok (.lsub, 1)) (k : V p l e R s m args below meth c Q G N0 nL σ cu su (pc + 1) lv (.long (x - y) :: st)) : V p l e R s m args below meth c Q G N0 nL σ cu su pc lv (.long y :: .long x :: st) := fun H locs ls hH hS hL => lv_lsub X.1 X.2.1 hd (k H locs ls hH hS hL)
theorem V_lmul (X : EX p s m args meth c G N0 own cc nL) {x y : Int64} (hd : decode cc pc = .ok (.lmul, 1)) (k : V p l e R s m args below meth c Q G N0 nL σ cu su (pc + 1) lv (.long (x * y) :: st)) : V p l e R s m args below meth c Q G N0 nL σ cu su pc lv (.long y :: .long x :: st) := fun H locs ls hH hS hL => lv_lmul X.1 X.2.1 hd (k H locs ls hH hS hL)
theorem V_land (X : EX p s m args meth c G N0 own cc nL) {x y : Int64} (hd : decode cc pc = .ok (.land, 1)) (k : V p l e R s m args below meth c Q G N0 nL σ cu su (pc + 1) lv (.long (x &&& y) :: st)) : V p l e R s m args below meth c Q G N0 nL σ cu su pc lv (.long y :: .long x :: st) := fun H locs ls hH hS hL => lv_land X.1 X.2.1 hd (k H locs ls hH hS hL)
theorem V_lor (X : EX p s m args meth c G N0 own cc nL) {x y : Int64} (hd : decode cc pc = .ok (.lor, 1)) (k : V p l e R s m args below meth c Q G N0 nL σ cu su (pc + 1) lv (.long (x ||| y) :: st)) : V p l e R s m args below meth c Q G N0 nL σ cu su pc lv (.long y :: .long x :: st) := fun H locs ls hH hS hL => lv_lor X.1 X.2.1 hd (k H locs ls hH hS hL)
theorem V_ishl (X : EX p s m args meth c G N0 own cc nL) {x y : Int32} (hd : decode cc pc = .ok (.ishl, 1)) (k : V p l e R s m args below meth c Q G N0 nL σ cu su (pc + 1) lv (.int (x <<< (y &&& 31)) :: st)) : V p l e R s m args below meth c Q G N0 nL σ cu su pc lv (.int y :: .int x :: st) := fun H locs ls hH hS hL => lv_ishl X.1 X.2.1 hd (k H locs ls hH hS hL)
theorem V_ishr (X : EX p s m args meth c G N0 own cc nL) {x y : Int32} (hd : decode cc pc = .ok (.ishr, 1)) (k : V p l e R s m args below meth c Q G N0 nL σ cu su (pc + 1) lv (.int (x >>> (y &&& 31)) :: st)) : V p l e R s m args below meth c Q G N0 nL σ cu su pc lv (.int y :: .int x :: st) := fun H locs ls hH hS hL => lv_ishr X.1 X.2.1 hd (k H locs ls hH hS hL)
theorem V_iushr (X : EX p s m args meth c G N0 own cc nL) {x y : Int32} (hd : decode cc pc = .ok (.iushr, 1)) (k : V p l e R s m args below meth c Q G N0 nL σ cu su (pc + 1) lv (.int ((x.toUInt32 >>> (y.toUInt32 &&& Int32.toUInt32 31)).toInt32) :: st)) : V p l e R s m args below meth c Q G N0 nL σ cu su pc lv (.int y :: .int x :: st) := fun H locs ls hH hS hL => lv_iushr X.1 X.2.1 hd rfl (k H locs ls hH hS hL)
theorem V_lshl (X : EX p s m args meth c G N0 own cc nL) {x : Int64} {y : Int32} (hd : decode cc pc = .ok (.lshl, 1)) (k : V p l e R s m args below meth c Q G N0 nL σ cu su (pc + 1) lv (.long (x <<< (y.toInt64 &&& 63)) :: st)) : V p l e R s m args below meth c Q G N0 nL σ cu su pc lv (.int y :: .long x :: st) := fun H locs ls hH hS hL => lv_lshl X.1 X.2.1 hd rfl (k H locs ls hH hS hL)
theorem V_i2l (X : EX p s m args meth c G N0 own cc nL) {x : Int32} (hd : decode cc pc = .ok (.i2l, 1)) (k : V p l e R s m args below meth c Q G N0 nL σ cu su (pc + 1) lv (.long x.toInt64 :: st)) : V p l e R s m args below meth c Q G N0 nL σ cu su pc lv (.int x :: st) := fun H locs ls hH hS hL => lv_i2l X.1 X.2.1 hd rfl (k H locs ls hH hS hL)
theorem V_l2i (X : EX p s m args meth c G N0 own cc nL) {x : Int64} (hd : decode cc pc = .ok (.l2i, 1)) (k : V p l e R s m args below meth c Q G N0 nL σ cu su (pc + 1) lv (.int x.toInt32 :: st)) : V p l e R s m args below meth c Q G N0 nL σ cu su pc lv (.long x :: st) := fun H locs ls hH hS hL => lv_l2i X.1 X.2.1 hd rfl (k H locs ls hH hS hL)
theorem V_lcmp (X : EX p s m args meth c G N0 own cc nL) {x y : Int64} (hd : decode cc pc = .ok (.lcmp, 1)) (k : V p l e R s m args below meth c Q G N0 nL σ cu su (pc + 1) lv (.int (lg_cmp x y) :: st)) : V p l e R s m args below meth c Q G N0 nL σ cu su pc lv (.long y :: .long x :: st) := fun H locs ls hH hS hL => W.lcmp X.1 X.2.1 hd (k H locs ls hH hS hL)
theorem V_dup (X : EX p s m args meth c G N0 own cc nL) {x : Value} (hd : decode cc pc = .ok (.dup, 1)) (hx : x.category = 1) (k : V p l e R s m args below meth c Q G N0 nL σ cu su (pc + 1) lv (x :: x :: st)) : V p l e R s m args below meth c Q G N0 nL σ cu su pc lv (x :: st) := fun H locs ls hH hS hL => lv_dup X.1 X.2.1 hd hx (k H locs ls hH hS hL)
theorem V_pop (X : EX p s m args meth c G N0 own cc nL) {x : Value} (hd : decode cc pc = .ok (.pop, 1)) (hx : x.category = 1) (k : V p l e R s m args below meth c Q G N0 nL σ cu su (pc + 1) lv (st)) : V p l e R s m args below meth c Q G N0 nL σ cu su pc lv (x :: st) := fun H locs ls hH hS hL => lv_pop X.1 X.2.1 hd hx (k H locs ls hH hS hL)
theorem V_if_eq (X : EX p s m args meth c G N0 own cc nL) {x : Int32} {off : Int} {tgt : Nat} (hd : decode cc pc = .ok (.ifCond .eq off, 3)) (ht : (pc : Int) + off = (tgt : Int)) (kt : (x = 0) → V p l e R s m args below meth c Q G N0 nL σ cu su tgt lv st) (kf : ¬ (x = 0) → V p l e R s m args below meth c Q G N0 nL σ cu su (pc + 3) lv st) : V p l e R s m args below meth c Q G N0 nL σ cu su pc lv (.int x :: st) := fun H locs ls hH hS hL => lv_if_eq X.1 X.2.1 hd ht (fun h => kt h H locs ls hH hS hL) (fun h => kf h H locs ls hH hS hL)
theorem V_if_ne (X : EX p s m args meth c G N0 own cc nL) {x : Int32} {off : Int} {tgt : Nat} (hd : decode cc pc = .ok (.ifCond .ne off, 3)) (ht : (pc : Int) + off = (tgt : Int)) (kt : (¬ x = 0) → V p l e R s m args below meth c Q G N0 nL σ cu su tgt lv st) (kf : (x = 0) → V p l e R s m args below meth c Q G N0 nL σ cu su (pc + 3) lv st) : V p l e R s m args below meth c Q G N0 nL σ cu su pc lv (.int x :: st) := fun H locs ls hH hS hL => lv_if_ne X.1 X.2.1 hd ht (fun h => kt h H locs ls hH hS hL) (fun h => kf h H locs ls hH hS hL)
theorem V_if_lt (X : EX p s m args meth c G N0 own cc nL) {x : Int32} {off : Int} {tgt : Nat} (hd : decode cc pc = .ok (.ifCond .lt off, 3)) (ht : (pc : Int) + off = (tgt : Int)) (kt : (x < 0) → V p l e R s m args below meth c Q G N0 nL σ cu su tgt lv st) (kf : ¬ (x < 0) → V p l e R s m args below meth c Q G N0 nL σ cu su (pc + 3) lv st) : V p l e R s m args below meth c Q G N0 nL σ cu su pc lv (.int x :: st) := fun H locs ls hH hS hL => lv_if_lt X.1 X.2.1 hd ht (fun h => kt h H locs ls hH hS hL) (fun h => kf h H locs ls hH hS hL)
theorem V_if_ge (X : EX p s m args meth c G N0 own cc nL) {x : Int32} {off : Int} {tgt : Nat} (hd : decode cc pc = .ok (.ifCond .ge off, 3)) (ht : (pc : Int) + off = (tgt : Int)) (kt : (0 ≤ x) → V p l e R s m args below meth c Q G N0 nL σ cu su tgt lv st) (kf : ¬ (0 ≤ x) → V p l e R s m args below meth c Q G N0 nL σ cu su (pc + 3) lv st) : V p l e R s m args below meth c Q G N0 nL σ cu su pc lv (.int x :: st) := fun H locs ls hH hS hL => lv_if_ge X.1 X.2.1 hd ht (fun h => kt h H locs ls hH hS hL) (fun h => kf h H locs ls hH hS hL)
theorem V_if_gt (X : EX p s m args meth c G N0 own cc nL) {x : Int32} {off : Int} {tgt : Nat} (hd : decode cc pc = .ok (.ifCond .gt off, 3)) (ht : (pc : Int) + off = (tgt : Int)) (kt : (0 < x) → V p l e R s m args below meth c Q G N0 nL σ cu su tgt lv st) (kf : ¬ (0 < x) → V p l e R s m args below meth c Q G N0 nL σ cu su (pc + 3) lv st) : V p l e R s m args below meth c Q G N0 nL σ cu su pc lv (.int x :: st) := fun H locs ls hH hS hL => lv_if_gt X.1 X.2.1 hd ht (fun h => kt h H locs ls hH hS hL) (fun h => kf h H locs ls hH hS hL)
theorem V_if_le (X : EX p s m args meth c G N0 own cc nL) {x : Int32} {off : Int} {tgt : Nat} (hd : decode cc pc = .ok (.ifCond .le off, 3)) (ht : (pc : Int) + off = (tgt : Int)) (kt : (x ≤ 0) → V p l e R s m args below meth c Q G N0 nL σ cu su tgt lv st) (kf : ¬ (x ≤ 0) → V p l e R s m args below meth c Q G N0 nL σ cu su (pc + 3) lv st) : V p l e R s m args below meth c Q G N0 nL σ cu su pc lv (.int x :: st) := fun H locs ls hH hS hL => lv_if_le X.1 X.2.1 hd ht (fun h => kt h H locs ls hH hS hL) (fun h => kf h H locs ls hH hS hL)
theorem V_icmp_eq (X : EX p s m args meth c G N0 own cc nL) {x y : Int32} {off : Int} {tgt : Nat} (hd : decode cc pc = .ok (.if_icmp .eq off, 3)) (ht : (pc : Int) + off = (tgt : Int)) (kt : (x = y) → V p l e R s m args below meth c Q G N0 nL σ cu su tgt lv st) (kf : ¬ (x = y) → V p l e R s m args below meth c Q G N0 nL σ cu su (pc + 3) lv st) : V p l e R s m args below meth c Q G N0 nL σ cu su pc lv (.int y :: .int x :: st) := fun H locs ls hH hS hL => lv_icmp_eq X.1 X.2.1 hd ht (fun h => kt h H locs ls hH hS hL) (fun h => kf h H locs ls hH hS hL)
theorem V_icmp_ne (X : EX p s m args meth c G N0 own cc nL) {x y : Int32} {off : Int} {tgt : Nat} (hd : decode cc pc = .ok (.if_icmp .ne off, 3)) (ht : (pc : Int) + off = (tgt : Int)) (kt : (¬ x = y) → V p l e R s m args below meth c Q G N0 nL σ cu su tgt lv st) (kf : (x = y) → V p l e R s m args below meth c Q G N0 nL σ cu su (pc + 3) lv st) : V p l e R s m args below meth c Q G N0 nL σ cu su pc lv (.int y :: .int x :: st) := fun H locs ls hH hS hL => lv_icmp_ne X.1 X.2.1 hd ht (fun h => kt h H locs ls hH hS hL) (fun h => kf h H locs ls hH hS hL)
theorem V_icmp_lt (X : EX p s m args meth c G N0 own cc nL) {x y : Int32} {off : Int} {tgt : Nat} (hd : decode cc pc = .ok (.if_icmp .lt off, 3)) (ht : (pc : Int) + off = (tgt : Int)) (kt : (x < y) → V p l e R s m args below meth c Q G N0 nL σ cu su tgt lv st) (kf : ¬ (x < y) → V p l e R s m args below meth c Q G N0 nL σ cu su (pc + 3) lv st) : V p l e R s m args below meth c Q G N0 nL σ cu su pc lv (.int y :: .int x :: st) := fun H locs ls hH hS hL => lv_icmp_lt X.1 X.2.1 hd ht (fun h => kt h H locs ls hH hS hL) (fun h => kf h H locs ls hH hS hL)
theorem V_icmp_ge (X : EX p s m args meth c G N0 own cc nL) {x y : Int32} {off : Int} {tgt : Nat} (hd : decode cc pc = .ok (.if_icmp .ge off, 3)) (ht : (pc : Int) + off = (tgt : Int)) (kt : (y ≤ x) → V p l e R s m args below meth c Q G N0 nL σ cu su tgt lv st) (kf : ¬ (y ≤ x) → V p l e R s m args below meth c Q G N0 nL σ cu su (pc + 3) lv st) : V p l e R s m args below meth c Q G N0 nL σ cu su pc lv (.int y :: .int x :: st) := fun H locs ls hH hS hL => lv_icmp_ge X.1 X.2.1 hd ht (fun h => kt h H locs ls hH hS hL) (fun h => kf h H locs ls hH hS hL)
theorem V_icmp_gt (X : EX p s m args meth c G N0 own cc nL) {x y : Int32} {off : Int} {tgt : Nat} (hd : decode cc pc = .ok (.if_icmp .gt off, 3)) (ht : (pc : Int) + off = (tgt : Int)) (kt : (y < x) → V p l e R s m args below meth c Q G N0 nL σ cu su tgt lv st) (kf : ¬ (y < x) → V p l e R s m args below meth c Q G N0 nL σ cu su (pc + 3) lv st) : V p l e R s m args below meth c Q G N0 nL σ cu su pc lv (.int y :: .int x :: st) := fun H locs ls hH hS hL => lv_icmp_gt X.1 X.2.1 hd ht (fun h => kt h H locs ls hH hS hL) (fun h => kf h H locs ls hH hS hL)
theorem V_icmp_le (X : EX p s m args meth c G N0 own cc nL) {x y : Int32} {off : Int} {tgt : Nat} (hd : decode cc pc = .ok (.if_icmp .le off, 3)) (ht : (pc : Int) + off = (tgt : Int)) (kt : (x ≤ y) → V p l e R s m args below meth c Q G N0 nL σ cu su tgt lv st) (kf : ¬ (x ≤ y) → V p l e R s m args below meth c Q G N0 nL σ cu su (pc + 3) lv st) : V p l e R s m args below meth c Q G N0 nL σ cu su pc lv (.int y :: .int x :: st) := fun H locs ls hH hS hL => lv_icmp_le X.1 X.2.1 hd ht (fun h => kt h H locs ls hH hS hL) (fun h => kf h H locs ls hH hS hL)
theorem V_goto (X : EX p s m args meth c G N0 own cc nL) {off : Int} {tgt : Nat} (hd : decode cc pc = .ok (.goto off, 3)) (ht : (pc : Int) + off = (tgt : Int)) (k : V p l e R s m args below meth c Q G N0 nL σ cu su tgt lv st) : V p l e R s m args below meth c Q G N0 nL σ cu su pc lv st := fun H locs ls hH hS hL => lv_goto X.1 X.2.1 hd ht (k H locs ls hH hS hL)
theorem V_tabIn (X : EX p s m args meth c G N0 own cc nL) {dflt lo hi : Int} {offs : Array Int} {len : Nat} {x : Int32} {off : Int} {tgt : Nat} (hd : decode cc pc = .ok (.tableswitch dflt lo hi offs, len)) (h1 : ¬ x.toInt < lo) (h2 : ¬ hi < x.toInt) (ho : offs[(x.toInt - lo).toNat]? = some off) (ht : (pc : Int) + off = (tgt : Int)) (k : V p l e R s m args below meth c Q G N0 nL σ cu su tgt lv st) : V p l e R s m args below meth c Q G N0 nL σ cu su pc lv (.int x :: st) := fun H locs ls hH hS hL => lv_tableIn X.1 X.2.1 hd h1 h2 ho ht (k H locs ls hH hS hL)
theorem V_tabOut (X : EX p s m args meth c G N0 own cc nL) {dflt lo hi : Int} {offs : Array Int} {len : Nat} {x : Int32} {tgt : Nat} (hd : decode cc pc = .ok (.tableswitch dflt lo hi offs, len)) (h : x.toInt < lo ∨ hi < x.toInt) (ht : (pc : Int) + dflt = (tgt : Int)) (k : V p l e R s m args below meth c Q G N0 nL σ cu su tgt lv st) : V p l e R s m args below meth c Q G N0 nL σ cu su pc lv (.int x :: st) := fun H locs ls hH hS hL => lv_tableOut X.1 X.2.1 hd h ht (k H locs ls hH hS hL)
theorem V_ifnull (X : EX p s m args meth c G N0 own cc nL) {x : Option Nat} {off : Int} {tgt : Nat} (hd : decode cc pc = .ok (.ifnull off, 3)) (ht : (pc : Int) + off = (tgt : Int)) (kt : x = none → V p l e R s m args below meth c Q G N0 nL σ cu su tgt lv st) (kf : ∀ a, x = some a → V p l e R s m args below meth c Q G N0 nL σ cu su (pc + 3) lv st) : V p l e R s m args below meth c Q G N0 nL σ cu su pc lv (va_rf x :: st) := fun H locs ls hH hS hL => by
  cases x with
  | none => exact lv_ifnullN X.1 X.2.1 hd ht (kt rfl H locs ls hH hS hL)
  | some a => exact lv_ifnull X.1 X.2.1 hd (kf a rfl H locs ls hH hS hL)
theorem V_ifnonnull (X : EX p s m args meth c G N0 own cc nL) {x : Option Nat} {off : Int} {tgt : Nat} (hd : decode cc pc = .ok (.ifnonnull off, 3)) (ht : (pc : Int) + off = (tgt : Int)) (kt : ∀ a, x = some a → V p l e R s m args below meth c Q G N0 nL σ cu su tgt lv st) (kf : x = none → V p l e R s m args below meth c Q G N0 nL σ cu su (pc + 3) lv st) : V p l e R s m args below meth c Q G N0 nL σ cu su pc lv (va_rf x :: st) := fun H locs ls hH hS hL => by
  cases x with
  | none => exact lv_ifnonnullN X.1 X.2.1 hd (kf rfl H locs ls hH hS hL)
  | some a => exact lv_ifnonnull X.1 X.2.1 hd ht (kt a rfl H locs ls hH hS hL)
end SEM
end
section
theorem cF_of {G : GG} {σ : Hp} {a : Nat} {u : Nat × Nat} (h : gk σ a = some u) : cF G σ a = cE G σ a u := by simp [cF, h]
theorem cF_same {G : GG} {σ σ' : Hp} {b : Nat} (h1 : gk σ' b = gk σ b) (h2 : gi σ' b = gi σ b) (h3 : gl σ' b = gl σ b) (h4 : gr σ' b = gr σ b) : cF G σ' b = cF G σ b := by
  have h5 : ∀ t, fv σ' t b = fv σ t b := fun t => by
    funext k
    simp only [fv, h2, h3, h4]
  simp only [cF, cE, h1, h2, h4, h5]
theorem cE_obj {G : GG} {σ : Hp} {a t n : Nat} (ht : t < 10) : cE G σ a (t, n) = .inr (t, (List.range (ncl t)).map (fv σ t a)) := by
  show (if t < 10 then _ else _) = _
  rw [if_pos ht]
theorem cE_ia {G : GG} {σ : Hp} {a t n : Nat} (h1 : ¬ t < 10) (h2 : t < 12) : cE G σ a (t, n) = .inl (G.2.1 t, n, .inl (gi σ a)) := by
  show (if t < 10 then _ else if t < 12 then _ else _) = _
  rw [if_neg h1, if_pos h2]
theorem cE_qa {G : GG} {σ : Hp} {a t n : Nat} (h2 : ¬ t < 12) : cE G σ a (t, n) = .inl (G.2.1 t, n, .inr (.inr (.inr (.inr (gr σ a))))) := by
  show (if t < 10 then _ else if t < 12 then _ else _) = _
  rw [if_neg (by omega), if_neg h2]
theorem map_set_range {f g : Nat → Value} {N k : Nat} {v : Value} (hv : g k = v) (ho : ∀ j, j ≠ k → g j = f j) : ((List.range N).map f).set k v = (List.range N).map g := by
  apply List.ext_getElem?
  intro j
  by_cases hj : j = k
  · subst hj
    by_cases hN : j < N
    · rw [List.getElem?_set_self (by simpa using hN)]
      simp [List.getElem?_range hN, hv]
    · rw [List.getElem?_eq_none (by simp; omega), List.getElem?_eq_none (by simp; omega)]
  · rw [List.getElem?_set_ne (Ne.symm hj)]
    by_cases hN : j < N
    · simp [List.getElem?_range hN, ho j hj]
    · rw [List.getElem?_eq_none (by simp; omega), List.getElem?_eq_none (by simp; omega)]
theorem HP.at {G : GG} {N0 : Nat} {σ : Hp} {H : Heap} {L : List Nat} (hdom : ∀ a : Nat, gk σ a ≠ none ↔ a ∈ L) {a : Nat} {u : Nat × Nat} (h : gk σ a = some u) : ∃ k : Nat, (va_pl L (cF G σ))[k]? = some (a, cE G σ a u) ∧ (va_pl L (cF G σ))[k]? = some (a, cF G σ a) ∧ a ∈ L := by
  have hm : a ∈ L := (hdom a).mp (by rw [h]; exact fun q => by cases q)
  obtain ⟨k, hk⟩ := va_pl_get (X := []) (f := cF G σ) hm
  exact ⟨k, by rw [← cF_of h]; exact hk, hk, hm⟩
/-- a heap picture with one cell changed -/
theorem HP.put {G : GG} {N0 : Nat} {σ σ' : Hp} {H : Heap} {L : List Nat} {a k : Nat} {e : va_E} (hdom : ∀ a : Nat, gk σ a ≠ none ↔ a ∈ L) (hD0 : va_D (AN N0) (va_pl L (cF G σ))) (hm : a ∈ L) (hk : (va_pl L (cF G σ))[k]? = some (a, cF G σ a))
    (hP : va_P G.1 vwCl ((va_pl L (cF G σ)).set k (a, e)) H) (hD : va_D (AN N0) ((va_pl L (cF G σ)).set k (a, e))) (hkd : ∀ b, gk σ' b = gk σ b) (he : cF G σ' a = e) (ho : ∀ b, b ≠ a → gi σ' b = gi σ b ∧ gl σ' b = gl σ b ∧ gr σ' b = gr σ b) : HP G N0 σ' H := by
  have hs : (va_pl L (cF G σ)).set k (a, e) = va_pl L (va_up (cF G σ) a e) := va_pl_set (X := []) hD0 hm hk
  have hq : va_pl L (va_up (cF G σ) a e) = va_pl L (cF G σ') := va_pl_congr fun b => by
    by_cases hb : b = a
    · subst hb
      rw [va_up_self, he]
    · rw [va_up_ne _ _ hb]
      obtain ⟨h2, h3, h4⟩ := ho b hb
      exact (cF_same (hkd b) h2 h3 h4).symm
  rw [hs, hq] at hP hD
  exact ⟨L, fun b => by rw [hkd b]; exact hdom b, hP, hD⟩
theorem up2_ne {α : Type} (f : Nat → Nat → α) {a b : Nat} (k : Nat) (v : α) (h : b ≠ a) : up2 f a k v b = f b := by
  funext j
  simp [up2, h]
theorem si_ne (σ : Hp) {a b : Nat} (k : Nat) (v : Int32) (h : b ≠ a) : gi (si σ a k v) b = gi σ b ∧ gl (si σ a k v) b = gl σ b ∧ gr (si σ a k v) b = gr σ b := ⟨up2_ne _ _ _ h, rfl, rfl⟩
theorem sl_ne (σ : Hp) {a b : Nat} (k : Nat) (v : Int64) (h : b ≠ a) : gi (sl σ a k v) b = gi σ b ∧ gl (sl σ a k v) b = gl σ b ∧ gr (sl σ a k v) b = gr σ b := ⟨rfl, up2_ne _ _ _ h, rfl⟩
theorem sr_ne (σ : Hp) {a b : Nat} (k : Nat) (v : Option Nat) (h : b ≠ a) : gi (sr σ a k v) b = gi σ b ∧ gl (sr σ a k v) b = gl σ b ∧ gr (sr σ a k v) b = gr σ b := ⟨rfl, rfl, up2_ne _ _ _ h⟩
/-- a field by its place in a class file -/
def FP (own : String) (index t k : Nat) (ty : FieldType) (fin : Bool) : Prop := ∃ (r : vw_C) (ty0 : Nat → FieldType), vwCl[t]? = some r ∧ k < r.2.2 ∧ k < ncl t ∧ t < 10 ∧ (∀ w ∈ u_ws r.1 r.2.1 r.2.2, w ∈ wAll) ∧ Cond.fieldLink own index (r.2.1 k).1 (r.2.1 k).2.1 (r.2.1 k).2.2.1 ∈ wAll ∧
  (∀ j, j < r.2.2 → parseFieldDescriptor (r.2.1 j).2.2.1 = some (ty0 j)) ∧ (∀ a, a < r.2.2 → ∀ b, b < r.2.2 → a ≠ b → (r.2.1 a).2.1 ≠ (r.2.1 b).2.1) ∧ (r.2.1 k).2.2.2 = fin ∧ ty0 k = ty
/-- a class that is made -/
def dv (t k : Nat) : Value := match fty t k with
  | 0 => .int 0
  | 1 => .long 0
  | _ => .null
def NP (own : String) (index t : Nat) : Prop := ∃ (r : vw_C) (ty0 : Nat → FieldType), vwCl[t]? = some r ∧ t < 10 ∧ r.2.2 = ncl t ∧ (∀ w ∈ u_ws r.1 r.2.1 r.2.2, w ∈ wAll) ∧ Cond.classLink own index r.1 ∈ wAll ∧ Cond.instantiable r.1 r.2.2 ∈ wAll ∧ Cond.initialized r.1 ∈ wAll ∧
  (∀ j, j < r.2.2 → parseFieldDescriptor (r.2.1 j).2.2.1 = some (ty0 j)) ∧ (∀ j, j < r.2.2 → defaultValue (ty0 j) = vp_V ((List.range (ncl t)).map (dv t)) j)
section MEM
variable {p : Program} {l : Launch} {e : Env} {R : Room} {s : State} {m : MethodId} {args : Array Value} {below : List Frame} {meth : Method} {c : Code} {Q : State → Prop} {G : GG} {N0 : Nat} {own : String} {cc : ByteArray} {nL : Nat}
variable {σ : Hp} {cu su pc : Nat} {lv lv' : List (Nat × Value)} {st : List Value}
theorem V_get (X : EX p s m args meth c G N0 own cc nL) {index t k n a : Nat} {ty : FieldType} {fin : Bool} (hf : FP own index t k ty fin) (hkd : gk σ a = some (t, n)) (hd : decode cc pc = .ok (.getfield index, 3)) (kk : V p l e R s m args below meth c Q G N0 nL σ cu su (pc + 3) lv (fv σ t a k :: st)) : V p l e R s m args below meth c Q G N0 nL σ cu su pc lv (.ref a :: st) := by
  intro H locs ls hH hS hL
  obtain ⟨L, hdom, hP, hD⟩ := id hH
  obtain ⟨r, ty0, hc, hkN, hkn, ht, hin, hlk, hty, hnm, hfin, he⟩ := hf
  obtain ⟨q, hq, -, hm⟩ := HP.at (N0 := N0) (H := H) (G := G) hdom hkd
  rw [cE_obj ht] at hq
  exact va_get (D := G.1) X.1 X.2.1 X.2.2.2.2.1 hin X.2.2.2.1 X.2.2.2.2.2.2.1.1 hP q hq hc k hkN (X.2.2.2.2.1 _ hlk) (fun _ h => h) (by simp [List.getElem?_range hkn]) hd (kk H locs ls hH hS hL)
theorem V_geti (X : EX p s m args meth c G N0 own cc nL) {index t k n a : Nat} {ty : FieldType} {fin : Bool} (hf : FP own index t k ty fin) (h0 : fty t k = 0) (hkd : gk σ a = some (t, n)) (hd : decode cc pc = .ok (.getfield index, 3)) (kk : V p l e R s m args below meth c Q G N0 nL σ cu su (pc + 3) lv (.int (gi σ a k) :: st)) : V p l e R s m args below meth c Q G N0 nL σ cu su pc lv (.ref a :: st) :=
  V_get X hf hkd hd (by rw [show fv σ t a k = .int (gi σ a k) by simp [fv, h0]]; exact kk)
theorem V_getl (X : EX p s m args meth c G N0 own cc nL) {index t k n a : Nat} {ty : FieldType} {fin : Bool} (hf : FP own index t k ty fin) (h0 : fty t k = 1) (hkd : gk σ a = some (t, n)) (hd : decode cc pc = .ok (.getfield index, 3)) (kk : V p l e R s m args below meth c Q G N0 nL σ cu su (pc + 3) lv (.long (gl σ a k) :: st)) : V p l e R s m args below meth c Q G N0 nL σ cu su pc lv (.ref a :: st) :=
  V_get X hf hkd hd (by rw [show fv σ t a k = .long (gl σ a k) by simp [fv, h0]]; exact kk)
theorem V_getr (X : EX p s m args meth c G N0 own cc nL) {index t k n a : Nat} {ty : FieldType} {fin : Bool} (hf : FP own index t k ty fin) (h0 : fty t k = 2) (hkd : gk σ a = some (t, n)) (hd : decode cc pc = .ok (.getfield index, 3)) (kk : V p l e R s m args below meth c Q G N0 nL σ cu su (pc + 3) lv (va_rf (gr σ a k) :: st)) : V p l e R s m args below meth c Q G N0 nL σ cu su pc lv (.ref a :: st) :=
  V_get X hf hkd hd (by rw [show fv σ t a k = va_rf (gr σ a k) by simp [fv, h0]]; exact kk)
theorem V_put (X : EX p s m args meth c G N0 own cc nL) {σ' : Hp} {index t k n a : Nat} {v : Value} {ty : FieldType} {fin : Bool} (hf : FP own index t k ty fin) (hinit : fin = true → meth.name = "<init>" ∧ (vwCl[t]?).map (fun r => (r.2.1 k).1) = some own) (hkd : gk σ a = some (t, n)) (hn : narrow ty v = v) (hfit : fits ty v = true) (hkd' : ∀ b, gk σ' b = gk σ b) (hv : fv σ' t a k = v) (hj : ∀ j, j ≠ k → fv σ' t a j = fv σ t a j) (ho : ∀ b, b ≠ a → gi σ' b = gi σ b ∧ gl σ' b = gl σ b ∧ gr σ' b = gr σ b) (hd : decode cc pc = .ok (.putfield index, 3)) (kk : V p l e R s m args below meth c Q G N0 nL σ' cu su (pc + 3) lv st) : V p l e R s m args below meth c Q G N0 nL σ cu su pc lv (v :: .ref a :: st) := by
  intro H locs ls hH hS hL
  obtain ⟨L, hdom, hP, hD⟩ := id hH
  obtain ⟨r, ty0, hc, hkN, hkn, ht, hin, hlk, hty, hnm, hfin, he⟩ := hf
  obtain ⟨q, hq, hq2, hm⟩ := HP.at (N0 := N0) (H := H) (G := G) hdom hkd
  rw [cE_obj ht] at hq
  subst he
  have hfin' : ∀ (H1 : Heap) (locs1 : List Loc), va_P G.1 vwCl ((va_pl L (cF G σ)).set q (a, .inr (t, ((List.range (ncl t)).map (fv σ t a)).set k v))) H1 → va_D (AN N0) ((va_pl L (cF G σ)).set q (a, .inr (t, ((List.range (ncl t)).map (fv σ t a)).set k v))) → va_S (AN N0) s.heap H1 locs1 → W p l e R s m args below meth c H1 locs1 cu su Q (F0 m (pc + 3) ls st) := by
    intro H1 locs1 hP1 hD1 hS1
    refine kk H1 locs1 ls (HP.put hdom hD hm hq2 hP1 hD1 hkd' ?_ ho) hS1 hL
    rw [cF_of (show gk σ' a = some (t, n) by rw [hkd' a]; exact hkd), cE_obj ht, map_set_range hv hj]
  cases fin with
  | false => exact va_put (D := G.1) X.1 X.2.1 X.2.2.2.2.1 hin ty0 hty hnm X.2.2.2.1 X.2.2.2.2.2.2.1.1 hP hD hS q hq hc k hkN (X.2.2.2.2.1 _ hlk) (fun _ h => h) hfin (hty k hkN) hn hfit (by simpa using hkn) hd hfin'
  | true => exact va_putF (D := G.1) X.1 X.2.1 X.2.2.2.2.1 hin ty0 hty hnm X.2.2.2.1 X.2.2.2.2.2.2.1.1 hP hD hS q hq hc k hkN (X.2.2.2.2.1 _ hlk) (fun _ h => h) hfin (hinit rfl).1 (by have := (hinit rfl).2; rw [hc] at this; exact Option.some.inj this) (hty k hkN) hn hfit (by simpa using hkn) hd hfin'
theorem V_puti (X : EX p s m args meth c G N0 own cc nL) {index t k n a : Nat} {v : Int32} {ty : FieldType} {fin : Bool} (hf : FP own index t k ty fin) (hinit : fin = true → meth.name = "<init>" ∧ (vwCl[t]?).map (fun r => (r.2.1 k).1) = some own) (h0 : fty t k = 0) (hkd : gk σ a = some (t, n)) (hz : ty = .int ∨ ty = .boolean ∧ (v = 0 ∨ v = 1)) (hd : decode cc pc = .ok (.putfield index, 3)) (kk : V p l e R s m args below meth c Q G N0 nL (si σ a k v) cu su (pc + 3) lv st) : V p l e R s m args below meth c Q G N0 nL σ cu su pc lv (.int v :: .ref a :: st) := by
  refine V_put (σ' := si σ a k v) X hf hinit hkd ?_ ?_ (fun _ => rfl) (by simp [fv, h0, gi_si]) (fun j hj => by simp [fv, gi_si, gl_si, gr_si, hj]) (fun b hb => si_ne σ k v hb) hd kk
  · rcases hz with rfl | ⟨rfl, rfl | rfl⟩ <;> rfl
  · rcases hz with rfl | ⟨rfl, rfl | rfl⟩ <;> first | rfl | decide
theorem V_putl (X : EX p s m args meth c G N0 own cc nL) {index t k n a : Nat} {v : Int64} {fin : Bool} (hf : FP own index t k .long fin) (hinit : fin = true → meth.name = "<init>" ∧ (vwCl[t]?).map (fun r => (r.2.1 k).1) = some own) (h0 : fty t k = 1) (hkd : gk σ a = some (t, n)) (hd : decode cc pc = .ok (.putfield index, 3)) (kk : V p l e R s m args below meth c Q G N0 nL (sl σ a k v) cu su (pc + 3) lv st) : V p l e R s m args below meth c Q G N0 nL σ cu su pc lv (.long v :: .ref a :: st) :=
  V_put (σ' := sl σ a k v) X hf hinit hkd rfl rfl (fun _ => rfl) (by simp [fv, h0, gl_sl]) (fun j hj => by simp [fv, gi_sl, gl_sl, gr_sl, hj]) (fun b hb => sl_ne σ k v hb) hd kk
theorem V_putr (X : EX p s m args meth c G N0 own cc nL) {index t k n a : Nat} {v : Option Nat} {ty : FieldType} {fin : Bool} (hf : FP own index t k ty fin) (hinit : fin = true → meth.name = "<init>" ∧ (vwCl[t]?).map (fun r => (r.2.1 k).1) = some own) (h0 : fty t k = 2) (hkd : gk σ a = some (t, n)) (hty : (∃ C, ty = .object C) ∨ ∃ C, ty = .array C) (hd : decode cc pc = .ok (.putfield index, 3)) (kk : V p l e R s m args below meth c Q G N0 nL (sr σ a k v) cu su (pc + 3) lv st) : V p l e R s m args below meth c Q G N0 nL σ cu su pc lv (va_rf v :: .ref a :: st) := by
  refine V_put (σ' := sr σ a k v) X hf hinit hkd ?_ ?_ (fun _ => rfl) (by simp [fv, h0, gr_sr]) (fun j hj => by simp [fv, gi_sr, gl_sr, gr_sr, hj]) (fun b hb => sr_ne σ k v hb) hd kk
  · cases v <;> rcases hty with ⟨C, rfl⟩ | ⟨C, rfl⟩ <;> rfl
  · cases v <;> rcases hty with ⟨C, rfl⟩ | ⟨C, rfl⟩ <;> rfl
theorem V_iald (X : EX p s m args meth c G N0 own cc nL) {n a : Nat} {i : Int32} (hkd : gk σ a = some (10, n)) (hin : vp_in i n) (hd : decode cc pc = .ok (.iaload, 1)) (kk : V p l e R s m args below meth c Q G N0 nL σ cu su (pc + 1) lv (.int (gi σ a i.toNatClampNeg) :: st)) : V p l e R s m args below meth c Q G N0 nL σ cu su pc lv (.int i :: .ref a :: st) := by
  intro H locs ls hH hS hL
  obtain ⟨L, hdom, hP, hD⟩ := id hH
  obtain ⟨q, hq, -, hm⟩ := HP.at (N0 := N0) (H := H) (G := G) hdom hkd
  rw [cE_ia (by decide) (by decide)] at hq
  exact va_iald (D := G.1) X.1 X.2.1 X.2.2.2.2.2.2.1.1 hP q 0 hq rfl hin hd (kk H locs ls hH hS hL)
theorem V_zald (X : EX p s m args meth c G N0 own cc nL) {n a : Nat} {i : Int32} (hkd : gk σ a = some (11, n)) (hin : vp_in i n) (hd : decode cc pc = .ok (.baload, 1)) (kk : V p l e R s m args below meth c Q G N0 nL σ cu su (pc + 1) lv (.int (gi σ a i.toNatClampNeg) :: st)) : V p l e R s m args below meth c Q G N0 nL σ cu su pc lv (.int i :: .ref a :: st) := by
  intro H locs ls hH hS hL
  obtain ⟨L, hdom, hP, hD⟩ := id hH
  obtain ⟨q, hq, -, hm⟩ := HP.at (N0 := N0) (H := H) (G := G) hdom hkd
  rw [cE_ia (by decide) (by decide)] at hq
  exact va_zald (D := G.1) X.1 X.2.1 X.2.2.2.2.2.2.1.1 hP q 1 hq rfl hin hd (kk H locs ls hH hS hL)
theorem V_aald (X : EX p s m args meth c G N0 own cc nL) {t n a : Nat} {i : Int32} (ht : t = 12 ∨ t = 13) (hkd : gk σ a = some (t, n)) (hin : vp_in i n) (hd : decode cc pc = .ok (.aaload, 1)) (kk : V p l e R s m args below meth c Q G N0 nL σ cu su (pc + 1) lv (va_rf (gr σ a i.toNatClampNeg) :: st)) : V p l e R s m args below meth c Q G N0 nL σ cu su pc lv (.int i :: .ref a :: st) := by
  intro H locs ls hH hS hL
  obtain ⟨L, hdom, hP, hD⟩ := id hH
  obtain ⟨q, hq, -, hm⟩ := HP.at (N0 := N0) (H := H) (G := G) hdom hkd
  rw [cE_qa (by rcases ht with rfl | rfl <;> decide)] at hq
  rcases ht with rfl | rfl
  · exact va_aldq (D := G.1) X.1 X.2.1 X.2.2.2.2.2.2.1.1 hP q 2 hq rfl hin hd (kk H locs ls hH hS hL)
  · exact va_aldq (D := G.1) X.1 X.2.1 X.2.2.2.2.2.2.1.1 hP q 3 hq rfl hin hd (kk H locs ls hH hS hL)
theorem si_upd (σ : Hp) (a k : Nat) (v : Int32) : gi (si σ a k v) a = upd (gi σ a) k v := by
  funext j
  show up2 σ.2.1 a k v a j = _
  simp [up2, upd]
  rfl
theorem sr_upd (σ : Hp) (a k : Nat) (v : Option Nat) : gr (sr σ a k v) a = va_up (gr σ a) k v := by
  funext j
  show up2 σ.2.2.2 a k v a j = _
  simp [up2, va_up]
  rfl
theorem V_iast (X : EX p s m args meth c G N0 own cc nL) {n a : Nat} {i x : Int32} (hkd : gk σ a = some (10, n)) (hin : vp_in i n) (hd : decode cc pc = .ok (.iastore, 1)) (kk : V p l e R s m args below meth c Q G N0 nL (si σ a i.toNatClampNeg x) cu su (pc + 1) lv st) : V p l e R s m args below meth c Q G N0 nL σ cu su pc lv (.int x :: .int i :: .ref a :: st) := by
  intro H locs ls hH hS hL
  obtain ⟨L, hdom, hP, hD⟩ := id hH
  obtain ⟨q, hq, hq2, hm⟩ := HP.at (N0 := N0) (H := H) (G := G) hdom hkd
  rw [cE_ia (by decide) (by decide)] at hq
  refine va_iast (D := G.1) X.1 X.2.1 X.2.2.2.2.2.2.1.1 hP hD hS q 0 hq rfl hin hd fun H1 locs1 hP1 hD1 hS1 => kk H1 locs1 ls (HP.put hdom hD hm hq2 hP1 hD1 (fun _ => rfl) ?_ (fun b hb => si_ne σ _ x hb)) hS1 hL
  rw [cF_of (show gk (si σ a i.toNatClampNeg x) a = some (10, n) from hkd), cE_ia (by decide) (by decide), si_upd]
theorem V_zast (X : EX p s m args meth c G N0 own cc nL) {n a : Nat} {i x : Int32} (hkd : gk σ a = some (11, n)) (hin : vp_in i n) (hx : x = 0 ∨ x = 1) (hd : decode cc pc = .ok (.bastore, 1)) (kk : V p l e R s m args below meth c Q G N0 nL (si σ a i.toNatClampNeg x) cu su (pc + 1) lv st) : V p l e R s m args below meth c Q G N0 nL σ cu su pc lv (.int x :: .int i :: .ref a :: st) := by
  intro H locs ls hH hS hL
  obtain ⟨L, hdom, hP, hD⟩ := id hH
  obtain ⟨q, hq, hq2, hm⟩ := HP.at (N0 := N0) (H := H) (G := G) hdom hkd
  rw [cE_ia (by decide) (by decide)] at hq
  have hnx : vp_nar .boolean x = x := by rcases hx with rfl | rfl <;> decide
  refine va_zast (D := G.1) X.1 X.2.1 X.2.2.2.2.2.2.1.1 hP hD hS q 1 hq rfl hin hd fun H1 locs1 hP1 hD1 hS1 => kk H1 locs1 ls (HP.put hdom hD hm hq2 hP1 hD1 (fun _ => rfl) ?_ (fun b hb => si_ne σ _ x hb)) hS1 hL
  rw [cF_of (show gk (si σ a i.toNatClampNeg x) a = some (11, n) from hkd), cE_ia (by decide) (by decide), si_upd, hnx]
theorem V_aast (X : EX p s m args meth c G N0 own cc nL) {t tv n a : Nat} {i : Int32} {x : Option Nat} (ht : t = 12 ∧ tv = 3 ∨ t = 13 ∧ tv = 4) (hkd : gk σ a = some (t, n)) (hin : vp_in i n) (hx : ∀ v, x = some v → ∃ z, gk σ v = some (tv, z)) (hd : decode cc pc = .ok (.aastore, 1)) (kk : V p l e R s m args below meth c Q G N0 nL (sr σ a i.toNatClampNeg x) cu su (pc + 1) lv st) : V p l e R s m args below meth c Q G N0 nL σ cu su pc lv (va_rf x :: .int i :: .ref a :: st) := by
  intro H locs ls hH hS hL
  obtain ⟨L, hdom, hP, hD⟩ := id hH
  obtain ⟨q, hq, hq2, hm⟩ := HP.at (N0 := N0) (H := H) (G := G) hdom hkd
  have ht12 : ¬ t < 12 := by rcases ht with ⟨rfl, -⟩ | ⟨rfl, -⟩ <;> decide
  rw [cE_qa ht12] at hq
  have hfin : ∀ (H1 : Heap) (locs1 : List Loc), va_P G.1 vwCl ((va_pl L (cF G σ)).set q (a, .inl (G.2.1 t, n, .inr (.inr (.inr (.inr (va_up (gr σ a) i.toNatClampNeg x))))))) H1 → va_D (AN N0) ((va_pl L (cF G σ)).set q (a, .inl (G.2.1 t, n, .inr (.inr (.inr (.inr (va_up (gr σ a) i.toNatClampNeg x))))))) → va_S (AN N0) s.heap H1 locs1 → W p l e R s m args below meth c H1 locs1 cu su Q (F0 m (pc + 1) ls st) := by
    intro H1 locs1 hP1 hD1 hS1
    refine kk H1 locs1 ls (HP.put hdom hD hm hq2 hP1 hD1 (fun _ => rfl) ?_ (fun b hb => sr_ne σ _ x hb)) hS1 hL
    rw [cF_of (show gk (sr σ a i.toNatClampNeg x) a = some (t, n) from hkd), cE_qa ht12, sr_upd]
  cases x with
  | none =>
    rcases ht with ⟨rfl, rfl⟩ | ⟨rfl, rfl⟩
    · exact va_astqN (D := G.1) X.1 X.2.1 X.2.2.2.2.2.2.1.1 hP hD hS q 2 hq rfl hin hd hfin
    · exact va_astqN (D := G.1) X.1 X.2.1 X.2.2.2.2.2.2.1.1 hP hD hS q 3 hq rfl hin hd hfin
  | some v =>
    obtain ⟨z, hz⟩ := hx v rfl
    obtain ⟨qv, hqv, -, -⟩ := HP.at (N0 := N0) (H := H) (G := G) hdom hz
    rcases ht with ⟨rfl, rfl⟩ | ⟨rfl, rfl⟩
    · rw [cE_obj (by decide)] at hqv
      exact va_astq (D := G.1) X.1 X.2.1 X.2.2.2.2.2.2.1.1 hP hD hS q 2 qv 3 (r := (RX3, TX3, 2)) hq rfl hqv rfl hin hd hfin
    · rw [cE_obj (by decide)] at hqv
      exact va_astq (D := G.1) X.1 X.2.1 X.2.2.2.2.2.2.1.1 hP hD hS q 3 qv 4 (r := (RX4, TX4, 6)) hq rfl hqv rfl hin hd hfin
theorem V_alen (X : EX p s m args meth c G N0 own cc nL) {t n a : Nat} (ht : t = 10 ∨ t = 11 ∨ t = 12 ∨ t = 13) (hkd : gk σ a = some (t, n)) (hd : decode cc pc = .ok (.arraylength, 1)) (kk : V p l e R s m args below meth c Q G N0 nL σ cu su (pc + 1) lv (.int (Int32.ofNat n) :: st)) : V p l e R s m args below meth c Q G N0 nL σ cu su pc lv (.ref a :: st) := by
  intro H locs ls hH hS hL
  obtain ⟨L, hdom, hP, hD⟩ := id hH
  obtain ⟨q, hq, -, hm⟩ := HP.at (N0 := N0) (H := H) (G := G) hdom hkd
  rcases ht with rfl | rfl | rfl | rfl
  · rw [cE_ia (by decide) (by decide)] at hq
    exact va_alen (D := G.1) X.1 X.2.1 X.2.2.2.2.2.2.1.1 hP q 0 hq rfl rfl hd (kk H locs ls hH hS hL)
  · rw [cE_ia (by decide) (by decide)] at hq
    exact va_alen (D := G.1) X.1 X.2.1 X.2.2.2.2.2.2.1.1 hP q 1 hq rfl rfl hd (kk H locs ls hH hS hL)
  · rw [cE_qa (by decide)] at hq
    exact va_alen (D := G.1) X.1 X.2.1 X.2.2.2.2.2.2.1.1 hP q 2 hq rfl rfl hd (kk H locs ls hH hS hL)
  · rw [cE_qa (by decide)] at hq
    exact va_alen (D := G.1) X.1 X.2.1 X.2.2.2.2.2.2.1.1 hP q 3 hq rfl rfl hd (kk H locs ls hH hS hL)
end MEM
end
section
theorem HP.fresh {G : GG} {N0 : Nat} {σ : Hp} {q t n : Nat} {H : Heap} {L : List Nat} {e : va_E} (hdom : ∀ a : Nat, gk σ a ≠ none ↔ a ∈ L) (hP : va_P G.1 vwCl (va_pl L (cF G σ) ++ [(q, e)]) H) (hD : va_D (AN N0) (va_pl L (cF G σ) ++ [(q, e)])) (he : cF G (nw σ q t n) q = e) : gk σ q = none ∧ HP G N0 (nw σ q t n) H := by
  have hq : q ∉ L := fun hm => by
    obtain ⟨k, hk⟩ := va_pl_get (X := []) (f := cF G σ) hm
    have hl : k < (va_pl L (cF G σ)).length := (List.getElem?_eq_some_iff.mp hk).1
    have h1 : (va_pl L (cF G σ) ++ [(q, e)])[k]? = some (q, cF G σ q) := by rw [List.getElem?_append_left hl]; exact hk
    have h2 : (va_pl L (cF G σ) ++ [(q, e)])[(va_pl L (cF G σ)).length]? = some (q, e) := by simp
    have := hD.1 _ _ _ _ h1 h2 rfl
    omega
  have hne : ∀ b, b ∈ L → b ≠ q := fun b hb h => hq (h ▸ hb)
  have hs : va_pl L (cF G σ) ++ [(q, e)] = va_pl (L ++ [q]) (cF G (nw σ q t n)) := by
    rw [va_pl_push hq]
    simp only [va_pl]
    apply List.map_congr_left
    intro b hb
    by_cases hbq : b = q
    · subst hbq
      rw [va_up_self, he]
    · rw [va_up_ne _ _ hbq]
      congr 1
      exact (cF_same (by rw [gk_nw, if_neg hbq]) (by funext j; rw [gi_nw, if_neg hbq]) (by funext j; rw [gl_nw, if_neg hbq]) (by funext j; rw [gr_nw, if_neg hbq])).symm
  rw [hs] at hP hD
  refine ⟨Classical.byContradiction fun h => hq ((hdom q).mp h), L ++ [q], fun b => ?_, hP, hD⟩
  rw [gk_nw, List.mem_append, List.mem_singleton]
  by_cases hbq : b = q
  · simp [hbq]
  · rw [if_neg hbq, hdom b]
    simp [hbq]
theorem ra_eq {s : State} {x y : ClassId} {ty : FieldType} (h1 : va_RA s x ty) (h2 : va_RA s y ty) : x = y := by
  cases ty with
  | object C =>
    obtain ⟨_, _, _, _, _, h1⟩ := h1
    obtain ⟨_, _, _, _, _, h2⟩ := h2
    exact Option.some.inj (h1.symm.trans h2)
  | _ =>
    have h1 : s.vm.findClass _ = some x := h1
    have h2 : s.vm.findClass _ = some y := h2
    exact Option.some.inj (h1.symm.trans h2)
/-- a call's words -/
def CW (own : String) (index : Nat) (y : MethodName) (bytes : ByteArray) (maxL : Nat) (ret : Option FieldType) (n : Nat) : Prop :=
  Cond.methodLink own index y ∈ wAll ∧ Cond.initialized y.cls ∈ wAll ∧ Cond.code y bytes maxL ret ∈ wAll ∧ y.cls ≠ "java/lang/invoke/MethodHandle" ∧ y.cls ≠ "java/lang/invoke/VarHandle" ∧ (parseMethodDescriptor y.desc).map (fun d => d.parameters.length) = some n
/-- a call's words, of a nest mate's private member -/
def CN (own : String) (index : Nat) (y : MethodName) (host : String) (bytes : ByteArray) (maxL : Nat) (ret : Option FieldType) (n : Nat) : Prop :=
  (own, index, y, host) ∈ nestW ∧ Cond.initialized y.cls ∈ wAll ∧ Cond.code y bytes maxL ret ∈ wAll ∧ y.cls ≠ "java/lang/invoke/MethodHandle" ∧ y.cls ≠ "java/lang/invoke/VarHandle" ∧ (parseMethodDescriptor y.desc).map (fun d => d.parameters.length) = some n
theorem goodIn_code {y : MethodName} {bytes : ByteArray} {maxL : Nat} {ret : Option FieldType} (h : Cond.code y bytes maxL ret ∈ wAll) : GoodIn wAll (Cond.code y bytes maxL ret :: wAll) := fun w hw => by
  rcases List.mem_cons.mp hw with rfl | hw
  · exact ⟨h, wgood _ h⟩
  · exact ⟨hw, wgood _ hw⟩
/-- the end of a method: what comes back, and the heap picture behind -/
def QC (G : GG) (N0 : Nat) (post : Option Value → Hp → Prop) : Array Value → State → Outcome → State → Prop := fun _ st oc t => (∃ (v : Option Value) (σ' : Hp), oc = .returned v ∧ post v σ' ∧ HP G N0 σ' t.heap) ∧ va_F (AN N0) st t
def PB (G : GG) (N0 : Nat) (σ : Hp) (U : State) : Prop := N0 ≤ U.heap.size ∧ HP G N0 σ U.heap ∧ GE G N0 U
/-- METHOD y, called with av over the heap picture σ, returns with post; room: fr frames and lo words below it, mc cells of ms slots are new at most -/
def MM (l : Launch) (G : GG) (N0 : Nat) (y : MethodName) (cc : ByteArray) (maxL : Nat) (ret : Option FieldType) (fr lo mc ms : Nat) (av : List Value) (σ : Hp) (post : Option Value → Hp → Prop) : Prop :=
  Met l y (.code y cc maxL ret :: wAll) { frames := fr, cells := mc, slots := ms, locals := lo } (va_Pc av (PB G N0 σ)) (QC G N0 post) mc ms (AN N0)
theorem MM.of {l : Launch} {G : GG} {N0 : Nat} {y : MethodName} {cc : ByteArray} {maxL : Nat} {ret : Option FieldType} {fr lo mc ms : Nat} {av : List Value} {σ : Hp} {post : Option Value → Hp → Prop} (hy : plainName y.cls = true) (hlen : (lg_sl av).length ≤ maxL)
    (body : ∀ (p : Program) (e : Env) (s : State) (m : MethodId) (args : Array Value) (below : List Frame) (meth : Method) (c : Code), EX p s m args meth c G N0 y.cls cc maxL → meth.sig.returnType = ret → meth.name = y.name →
      V p l e { frames := fr, cells := mc, slots := ms, locals := lo } s m args below meth c (MQ below (QC G N0 post) args s mc ms (AN N0)) G N0 maxL σ 0 0 0 (lv_args 0 av) []) : MM l G N0 y cc maxL ret fr lo mc ms av σ post := by
  refine Met.ofW (cc := cc) (maxL := maxL) (ret := ret) hy rfl ?_
  intro p e s m args below meth c s₁ B hml hv
  obtain ⟨rfl, hsz, hH, hG⟩ := hv
  have hts := atoms_spec (ws := .code y cc maxL ret :: wAll) B.pre
  have hX : EX p s m av.toArray meth c G N0 y.cls cc maxL := ⟨B.exec, B.bytes, hml, findClass_of_methodNamed B.named, fun w h => hts w (List.mem_cons_of_mem _ h), B.notSynchronized, hG, hsz⟩
  have hV := body p e s m av.toArray below meth c hX B.returns (name_of_methodNamed B.named B.method).1
  have hl := lv_entry av (n := maxL) hlen
  rw [lg_entry_eq]
  exact hV s.heap [] _ hH va_S.rf hl
section CALL
variable {p : Program} {l : Launch} {e : Env} {R : Room} {s : State} {m : MethodId} {args : Array Value} {below : List Frame} {meth : Method} {c : Code} {Q : State → Prop} {G : GG} {N0 : Nat} {own : String} {cc : ByteArray} {nL : Nat}
variable {σ : Hp} {cu su pc : Nat} {lv lv' : List (Nat × Value)} {st : List Value}
theorem V_new (X : EX p s m args meth c G N0 own cc nL) {index t : Nat} (hf : NP own index t) (hcells : cu + 1 ≤ R.cells) (hslots : su + ncl t ≤ R.slots) (hd : decode cc pc = .ok (.new index, 3)) (kk : ∀ q : Nat, gk σ q = none → V p l e R s m args below meth c Q G N0 nL (nw σ q t 0) (cu + 1) (su + ncl t) (pc + 3) lv (.ref q :: st)) : V p l e R s m args below meth c Q G N0 nL σ cu su pc lv st := by
  intro H locs ls hH hS hL
  obtain ⟨L, hdom, hP, hD⟩ := id hH
  obtain ⟨r, ty0, hc, ht, hN, hin, h1, h2, h3, hty, hdef⟩ := hf
  have hw := X.2.2.2.2.1
  refine va_new (D := G.1) (ci := t) (fs := (List.range (ncl t)).map (dv t)) X.1 X.2.1 hw hin ty0 hty X.2.2.2.1 (hw _ h1) (hw _ h2) (hw _ h3) X.2.2.2.2.2.2.1.1 hP hD hS (fun q hq => Nat.le_trans X.2.2.2.2.2.2.2 hq) hc hdef hcells (by rw [hN]; exact hslots) hd (fun q H1 hP1 hD1 hS1 => ?_)
  obtain ⟨hq, hH1⟩ := HP.fresh (t := t) (n := 0) hdom hP1 hD1 (by
    rw [cF_of (show gk (nw σ q t 0) q = some (t, 0) by rw [gk_nw, if_pos rfl]), cE_obj ht]
    congr 2
    apply List.map_congr_left
    intro k _
    simp only [fv, dv, gi_nw, gl_nw, gr_nw]
    split <;> first | rfl | simp_all [va_rf])
  rw [hN]
  exact kk q hq H1 locs ls hH1 hS1 hL
theorem V_newi (X : EX p s m args meth c G N0 own cc nL) {v : Int32} {N : Nat} (hw1 : Cond.arrayClass .int ∈ wAll) (hn : ¬ v < 0) (hN : v.toNatClampNeg = N) (hb : N ≤ 100000) (hcells : cu + 1 ≤ R.cells) (hslots : su + N ≤ R.slots) (hd : decode cc pc = .ok (.newarray .int, 2)) (kk : ∀ q : Nat, gk σ q = none → V p l e R s m args below meth c Q G N0 nL (nw σ q 10 N) (cu + 1) (su + N) (pc + 2) lv (.ref q :: st)) : V p l e R s m args below meth c Q G N0 nL σ cu su pc lv (.int v :: st) := by
  intro H locs ls hH hS hL
  obtain ⟨L, hdom, hP, hD⟩ := id hH
  have hw := X.2.2.2.2.1
  have hK := X.2.2.2.2.2.2.1.1
  refine va_newa (D := G.1) (atype := .int) X.1 X.2.1 (hw _ hw1) rfl hK hP hD hS (fun q hq => Nat.le_trans X.2.2.2.2.2.2.2 hq) (a0 := (N, .inl (fun _ => 0))) (fun cA => rfl) hn hN (by show N * 4 ≤ _; omega) hcells hslots hd (fun q cA H1 hK1 hP1 hD1 hS1 => ?_)
  have hcA : cA = G.2.1 10 := ra_eq (hK1.2 4 (cA, .int) rfl).2 (hK.2 0 (G.2.1 10, .int) rfl).2
  subst hcA
  obtain ⟨hq, hH1⟩ := HP.fresh (t := 10) (n := N) hdom hP1 hD1 (by
    rw [cF_of (show gk (nw σ q 10 N) q = some (10, N) by rw [gk_nw, if_pos rfl]), cE_ia (by decide) (by decide)]
    have : gi (nw σ q 10 N) q = fun _ => 0 := by funext j; rw [gi_nw, if_pos rfl]
    rw [this])
  exact kk q hq H1 locs ls hH1 hS1 hL
theorem V_newz (X : EX p s m args meth c G N0 own cc nL) {v : Int32} {N : Nat} (hw1 : Cond.arrayClass .boolean ∈ wAll) (hn : ¬ v < 0) (hN : v.toNatClampNeg = N) (hb : N ≤ 100000) (hcells : cu + 1 ≤ R.cells) (hslots : su + N ≤ R.slots) (hd : decode cc pc = .ok (.newarray .boolean, 2)) (kk : ∀ q : Nat, gk σ q = none → V p l e R s m args below meth c Q G N0 nL (nw σ q 11 N) (cu + 1) (su + N) (pc + 2) lv (.ref q :: st)) : V p l e R s m args below meth c Q G N0 nL σ cu su pc lv (.int v :: st) := by
  intro H locs ls hH hS hL
  obtain ⟨L, hdom, hP, hD⟩ := id hH
  have hw := X.2.2.2.2.1
  have hK := X.2.2.2.2.2.2.1.1
  refine va_newa (D := G.1) (atype := .boolean) X.1 X.2.1 (hw _ hw1) rfl hK hP hD hS (fun q hq => Nat.le_trans X.2.2.2.2.2.2.2 hq) (a0 := (N, .inl (fun _ => 0))) (fun cA => rfl) hn hN (by show N * 1 ≤ _; omega) hcells hslots hd (fun q cA H1 hK1 hP1 hD1 hS1 => ?_)
  have hcA : cA = G.2.1 11 := ra_eq (hK1.2 4 (cA, .boolean) rfl).2 (hK.2 1 (G.2.1 11, .boolean) rfl).2
  subst hcA
  obtain ⟨hq, hH1⟩ := HP.fresh (t := 11) (n := N) hdom hP1 hD1 (by
    rw [cF_of (show gk (nw σ q 11 N) q = some (11, N) by rw [gk_nw, if_pos rfl]), cE_ia (by decide) (by decide)]
    have : gi (nw σ q 11 N) q = fun _ => 0 := by funext j; rw [gi_nw, if_pos rfl]
    rw [this])
  exact kk q hq H1 locs ls hH1 hS1 hL
theorem V_newq (X : EX p s m args meth c G N0 own cc nL) {v : Int32} {N t index : Nat} {C : String} (ht : t = 12 ∧ C = "PaperRows$Reader" ∨ t = 13 ∧ C = "PaperRows$Row") (hlk : Cond.classLink own index C ∈ wAll) (hn : ¬ v < 0) (hN : v.toNatClampNeg = N) (hb : N ≤ 100000) (hcells : cu + 1 ≤ R.cells) (hslots : su + N ≤ R.slots) (hd : decode cc pc = .ok (.anewarray index, 3)) (kk : ∀ q : Nat, gk σ q = none → V p l e R s m args below meth c Q G N0 nL (nw σ q t N) (cu + 1) (su + N) (pc + 3) lv (.ref q :: st)) : V p l e R s m args below meth c Q G N0 nL σ cu su pc lv (.int v :: st) := by
  intro H locs ls hH hS hL
  obtain ⟨L, hdom, hP, hD⟩ := id hH
  have hw := X.2.2.2.2.1
  have hK := X.2.2.2.2.2.2.1.1
  have hO : va_AO C s := by rcases ht with ⟨-, rfl⟩ | ⟨-, rfl⟩; exact X.2.2.2.2.2.2.1.2.2.1.2; exact X.2.2.2.2.2.2.1.2.2.1.1
  refine va_newq (D := G.1) X.1 X.2.1 X.2.2.2.1 (hw _ hlk) hO hK hP hD hS (fun q hq => Nat.le_trans X.2.2.2.2.2.2.2 hq) hn hN (by omega) hcells hslots hd (fun q cA H1 hK1 hP1 hD1 hS1 => ?_)
  have hcA : cA = G.2.1 t := by
    rcases ht with ⟨rfl, rfl⟩ | ⟨rfl, rfl⟩
    · exact ra_eq (hK1.2 4 (cA, .object "PaperRows$Reader") rfl).2 (hK.2 2 (G.2.1 12, .object "PaperRows$Reader") rfl).2
    · exact ra_eq (hK1.2 4 (cA, .object "PaperRows$Row") rfl).2 (hK.2 3 (G.2.1 13, .object "PaperRows$Row") rfl).2
  subst hcA
  obtain ⟨hq, hH1⟩ := HP.fresh (t := t) (n := N) hdom hP1 hD1 (by
    rw [cF_of (show gk (nw σ q t N) q = some (t, N) by rw [gk_nw, if_pos rfl]), cE_qa (by rcases ht with ⟨rfl, -⟩ | ⟨rfl, -⟩ <;> decide)]
    have : gr (nw σ q t N) q = fun _ => none := by funext j; rw [gr_nw, if_pos rfl]
    rw [this])
  exact kk q hq H1 locs ls hH1 hS1 hL
/-- what a call needs of the frame -/
theorem pre_call (X : EX p s m args meth c G N0 own cc nL) {H : Heap} {locs : List Loc} (hH : HP G N0 σ H) (hS : va_S (AN N0) s.heap H locs) : ∀ U : State, U.heap = H → s.WarmedH U.vm → PB G N0 σ U := fun U hU hW => by
  refine ⟨by rw [hU]; exact Nat.le_trans X.2.2.2.2.2.2.2 hS.1, by rw [hU]; exact hH, GE.step X.2.2.2.2.2.2.1 hW fun a h1 h2 => ?_⟩
  rw [hU]
  exact hS.2.1 a h1 h2
theorem blind_PB {av : List Value} : FrameBlind (va_Pc av (PB G N0 σ)) := fun a U g mk q => ⟨q.1, q.2.1, q.2.2.1, GE.same (u := U) rfl rfl q.2.2.2⟩
theorem V_back (X : EX p s m args meth c G N0 own cc nL) {mc ms : Nat} {a : Array Value} {st0 : List Value} {post : Option Value → Hp → Prop} {H : Heap} {locs : List Loc} {ls : Array Slot} (hS : va_S (AN N0) s.heap H locs) (hL : lv_has ls nL lv) (hr : va_Run p l e R s m args below meth c H locs cu su mc ms (F0 m pc ls st0) st (QC G N0 post a) (AN N0))
    (kk : ∀ (v : Option Value) (σ' : Hp), post v σ' → V p l e R s m args below meth c Q G N0 nL σ' (cu + mc) (su + ms) (pc + 3) lv (v.toList ++ st)) : W p l e R s m args below meth c H locs cu su Q (F0 m pc ls st0) := by
  intro T hT X0
  obtain ⟨v0, st₀, t, T', L, h0, X', hL2, e1, e2, ⟨⟨v, σ', hv, hp, hb⟩, hz, hk⟩, stp⟩ := hr T hT X0
  cases hv
  rw [h0] at hz hk
  obtain ⟨t2, a1, b1⟩ := kk _ σ' hp T'.heap (locs ++ L) ls (by rw [e1]; exact hb) ⟨Nat.le_trans hS.1 (by rw [e1]; exact hz), fun q h1 h2 => by rw [e1, hk q (Nat.lt_of_lt_of_le h1 hS.1) h2]; exact hS.2.1 q h1 h2, fun q hq => by
      rcases List.mem_append.mp hq with h | h
      · exact hS.2.2 q h
      · exact hL2 q h⟩ hL T' rfl X'
  exact ⟨t2, stp t2 a1, b1⟩
theorem V_callV (X : EX p s m args meth c G N0 own cc nL) {index maxL fr lo mc ms n b t z : Nat} {y : MethodName} {bytes : ByteArray} {ret : Option FieldType} {As stk : List Value} {post : Option Value → Hp → Prop} (hw : CW own index y bytes maxL ret n) (hinst : Cond.instanceMethod y ∈ wAll) (hsel : Cond.selects y.cls y y ∈ lw_tbl) (hsg : goodWord (Cond.selects y.cls y y) = true)
    (hM : MM l G N0 y bytes maxL ret fr lo mc ms (.ref b :: As) σ post) (hkd : gk σ b = some (t, z)) (ht : t < 10) (hcls : (vwCl[t]?).map (fun r => r.1) = some y.cls) (hn : As.length = n) (hR : fr + 1 ≤ R.frames ∧ 8 + (maxL + 11) + lo ≤ R.locals) (hcat : (st.map fun v => v.category).sum ≤ 8) (hf : cu + mc ≤ R.cells ∧ su + ms ≤ R.slots) (hstk : stk = As.reverse ++ .ref b :: st) (hd : decode cc pc = .ok (.invokevirtual index, 3))
    (kk : ∀ (v : Option Value) (σ' : Hp), post v σ' → V p l e R s m args below meth c Q G N0 nL σ' (cu + mc) (su + ms) (pc + 3) lv (v.toList ++ st)) : V p l e R s m args below meth c Q G N0 nL σ cu su pc lv stk := by
  intro H locs ls hH hS hL
  obtain ⟨L, hdom, hP, hD⟩ := id hH
  obtain ⟨q, hq, hq2, hm⟩ := HP.at (N0 := N0) (H := H) (G := G) hdom hkd
  rw [cE_obj ht] at hq
  obtain ⟨h1, h2, h3, h4, h5, h6⟩ := hw
  have hts := X.2.2.2.2.1
  obtain ⟨r, hr1, hr2⟩ := Option.map_eq_some_iff.mp hcls
  refine V_back X hS hL (va_runV (C := y.cls) (As := As) (b := b) ⟨X.1, X.2.1, X.2.2.1, X.2.2.2.1, hts⟩ hM ⟨callB_of n hts (goodIn_code h3) rfl rfl rfl (hts _ h2) (hts _ h1) ⟨h4, h5, h6⟩ hR, hts _ hinst, hts _ (wm hsel hsg)⟩ ⟨blind_PB, ?_, fun U hU hW => ⟨rfl, pre_call X hH hS U hU hW⟩⟩ rfl hn hL.1 hstk (lv_room hcat) hd hf) kk
  have := va_recv X.2.2.2.2.2.2.1.1 hP hr1 hq
  rw [hr2] at this
  exact this
theorem V_callS (X : EX p s m args meth c G N0 own cc nL) {index maxL fr lo mc ms n : Nat} {y : MethodName} {bytes : ByteArray} {ret : Option FieldType} {As stk : List Value} {post : Option Value → Hp → Prop} (hw : CW own index y bytes maxL ret n) (hstat : Cond.static y ∈ wAll)
    (hM : MM l G N0 y bytes maxL ret fr lo mc ms As σ post) (hn : As.length = n) (hR : fr + 1 ≤ R.frames ∧ 8 + (maxL + 11) + lo ≤ R.locals) (hcat : (st.map fun v => v.category).sum ≤ 8) (hf : cu + mc ≤ R.cells ∧ su + ms ≤ R.slots) (hstk : stk = As.reverse ++ st) (hd : decode cc pc = .ok (.invokestatic index, 3))
    (kk : ∀ (v : Option Value) (σ' : Hp), post v σ' → V p l e R s m args below meth c Q G N0 nL σ' (cu + mc) (su + ms) (pc + 3) lv (v.toList ++ st)) : V p l e R s m args below meth c Q G N0 nL σ cu su pc lv stk := by
  intro H locs ls hH hS hL
  obtain ⟨h1, h2, h3, h4, h5, h6⟩ := hw
  have hts := X.2.2.2.2.1
  exact V_back X hS hL (va_runS (As := As) ⟨X.1, X.2.1, X.2.2.1, X.2.2.2.1, hts⟩ hM ⟨callB_of n hts (goodIn_code h3) rfl rfl rfl (hts _ h2) (hts _ h1) ⟨h4, h5, h6⟩ hR, hts _ hstat⟩ ⟨blind_PB, fun U hU hW => ⟨rfl, pre_call X hH hS U hU hW⟩⟩ rfl hn hL.1 hstk (lv_room hcat) hd hf) kk
theorem V_callI (X : EX p s m args meth c G N0 own cc nL) {index maxL fr lo mc ms n b : Nat} {y : MethodName} {bytes : ByteArray} {As stk : List Value} {post : Option Value → Hp → Prop} (hw : CW own index y bytes maxL none n) (hinst : Cond.instanceMethod y ∈ wAll) (hy1 : y.name = "<init>")
    (hM : MM l G N0 y bytes maxL none fr lo mc ms (.ref b :: As) σ post) (hn : As.length = n) (hR : fr + 1 ≤ R.frames ∧ 8 + (maxL + 11) + lo ≤ R.locals) (hcat : (st.map fun v => v.category).sum ≤ 8) (hf : cu + mc ≤ R.cells ∧ su + ms ≤ R.slots) (hstk : stk = As.reverse ++ .ref b :: st) (hd : decode cc pc = .ok (.invokespecial index, 3))
    (kk : ∀ (v : Option Value) (σ' : Hp), post v σ' → V p l e R s m args below meth c Q G N0 nL σ' (cu + mc) (su + ms) (pc + 3) lv (v.toList ++ st)) : V p l e R s m args below meth c Q G N0 nL σ cu su pc lv stk := by
  intro H locs ls hH hS hL
  obtain ⟨h1, h2, h3, h4, h5, h6⟩ := hw
  have hts := X.2.2.2.2.1
  exact V_back X hS hL (va_runI (As := As) (b := b) ⟨X.1, X.2.1, X.2.2.1, X.2.2.2.1, hts⟩ hM ⟨callB_of n hts (goodIn_code h3) rfl rfl rfl (hts _ h2) (hts _ h1) ⟨h4, h5, h6⟩ hR, hy1, hts _ hinst⟩ ⟨blind_PB, fun U hU hW => ⟨rfl, pre_call X hH hS U hU hW⟩⟩ rfl hn hL.1 hstk (lv_room hcat) hd hf) kk
theorem V_callIN (X : EX p s m args meth c G N0 own cc nL) {index maxL fr lo mc ms n b : Nat} {y : MethodName} {host : String} {bytes : ByteArray} {As stk : List Value} {post : Option Value → Hp → Prop} (hw : CN own index y host bytes maxL none n) (hinst : Cond.instanceMethod y ∈ wAll) (hy1 : y.name = "<init>")
    (hM : MM l G N0 y bytes maxL none fr lo mc ms (.ref b :: As) σ post) (hn : As.length = n) (hR : fr + 1 ≤ R.frames ∧ 8 + (maxL + 11) + lo ≤ R.locals) (hcat : (st.map fun v => v.category).sum ≤ 8) (hf : cu + mc ≤ R.cells ∧ su + ms ≤ R.slots) (hstk : stk = As.reverse ++ .ref b :: st) (hd : decode cc pc = .ok (.invokespecial index, 3))
    (kk : ∀ (v : Option Value) (σ' : Hp), post v σ' → V p l e R s m args below meth c Q G N0 nL σ' (cu + mc) (su + ms) (pc + 3) lv (v.toList ++ st)) : V p l e R s m args below meth c Q G N0 nL σ cu su pc lv stk := by
  intro H locs ls hH hS hL
  obtain ⟨h1, h2, h3, h4, h5, h6⟩ := hw
  have hts := X.2.2.2.2.1
  exact V_back X hS hL (va_runIN (As := As) (b := b) ⟨X.1, X.2.1, X.2.2.1, X.2.2.2.1, hts⟩ hM ⟨va_cnB n hts (goodIn_code h3) rfl rfl rfl (X.2.2.2.2.2.2.1.2.1 _ h1) (hts _ h2) ⟨h4, h5, h6⟩ hR, hy1, hts _ hinst⟩ ⟨blind_PB, fun U hU hW => ⟨rfl, pre_call X hH hS U hU hW⟩⟩ rfl hn hL.1 hstk (lv_room hcat) hd hf) kk
theorem V_callSN (X : EX p s m args meth c G N0 own cc nL) {index maxL fr lo mc ms n : Nat} {y : MethodName} {host : String} {bytes : ByteArray} {ret : Option FieldType} {As stk : List Value} {post : Option Value → Hp → Prop} (hw : CN own index y host bytes maxL ret n) (hstat : Cond.static y ∈ wAll)
    (hM : MM l G N0 y bytes maxL ret fr lo mc ms As σ post) (hn : As.length = n) (hR : fr + 1 ≤ R.frames ∧ 8 + (maxL + 11) + lo ≤ R.locals) (hcat : (st.map fun v => v.category).sum ≤ 8) (hf : cu + mc ≤ R.cells ∧ su + ms ≤ R.slots) (hstk : stk = As.reverse ++ st) (hd : decode cc pc = .ok (.invokestatic index, 3))
    (kk : ∀ (v : Option Value) (σ' : Hp), post v σ' → V p l e R s m args below meth c Q G N0 nL σ' (cu + mc) (su + ms) (pc + 3) lv (v.toList ++ st)) : V p l e R s m args below meth c Q G N0 nL σ cu su pc lv stk := by
  intro H locs ls hH hS hL
  obtain ⟨h1, h2, h3, h4, h5, h6⟩ := hw
  have hts := X.2.2.2.2.1
  exact V_back X hS hL (va_runSN (As := As) ⟨X.1, X.2.1, X.2.2.1, X.2.2.2.1, hts⟩ hM ⟨va_cnB n hts (goodIn_code h3) rfl rfl rfl (X.2.2.2.2.2.2.1.2.1 _ h1) (hts _ h2) ⟨h4, h5, h6⟩ hR, hts _ hstat, trivial⟩ ⟨blind_PB, fun U hU hW => ⟨rfl, pre_call X hH hS U hU hW⟩⟩ rfl hn hL.1 hstk (lv_room hcat) hd hf) kk
theorem V_objInit (X : EX p s m args meth c G N0 own cc nL) {index a : Nat} (h1 : Cond.methodLink own index objectInit ∈ wAll) (h2 : Cond.instanceMethod objectInit ∈ wAll) (h3 : Cond.code objectInit ⟨#[0xb1]⟩ 1 none ∈ wAll) (hcat : (st.map fun v => v.category).sum ≤ 8) (hR : 1 ≤ R.frames ∧ 20 ≤ R.locals) (hd : decode cc pc = .ok (.invokespecial index, 3)) (kk : V p l e R s m args below meth c Q G N0 nL σ cu su (pc + 3) lv st) : V p l e R s m args below meth c Q G N0 nL σ cu su pc lv (.ref a :: st) := fun H locs ls hH hS hL => by
  have hts := X.2.2.2.2.1
  refine W.objInit X.1 X.2.1 X.2.2.2.1 (hts _ h1) (hts _ h2) (hts _ h3) rfl (by rw [X.2.2.1]; exact hL.1) rfl hd hR.1 ?_ (kk H locs ls hH hS hL)
  have := lv_room (m := m) (pc := pc) (ls := ls) (rest := .ref a :: st) hcat
  omega
theorem qc_end {post : Option Value → Hp → Prop} {v : Option Value} {H : Heap} {locs : List Loc} (hp : post v σ) (hH : HP G N0 σ H) (hS : va_S (AN N0) s.heap H locs) : ∀ t : State, t.heap = H → s.WarmedH t.vm → QC G N0 post args s (.returned v) t := fun t ht _ => ⟨⟨v, σ, rfl, hp, by rw [ht]; exact hH⟩, hS.F ht⟩
theorem V_iret (X : EX p s m args meth c G N0 own cc nL) {mc ms : Nat} {v : Int32} {ty : FieldType} {post : Option Value → Hp → Prop} (hr : meth.sig.returnType = some ty) (hz : ty = .int ∨ ty = .boolean ∧ (v = 0 ∨ v = 1)) (hc : cu ≤ mc) (hs : su ≤ ms) (hd : decode cc pc = .ok (.ireturn, 1)) (hp : post (some (.int v)) σ) : V p l e R s m args below meth c (MQ below (QC G N0 post) args s mc ms (AN N0)) G N0 nL σ cu su pc lv [.int v] := fun H locs ls hH hS hL =>
  W.widen hc hs (W.zret X.1 X.2.1 hr (by rcases hz with rfl | ⟨rfl, rfl | rfl⟩ <;> rfl) (qc_end hp hH hS) hS.2.2 hd X.2.2.2.2.2.1)
theorem V_lret (X : EX p s m args meth c G N0 own cc nL) {mc ms : Nat} {v : Int64} {post : Option Value → Hp → Prop} (hr : meth.sig.returnType = some .long) (hc : cu ≤ mc) (hs : su ≤ ms) (hd : decode cc pc = .ok (.lreturn, 1)) (hp : post (some (.long v)) σ) : V p l e R s m args below meth c (MQ below (QC G N0 post) args s mc ms (AN N0)) G N0 nL σ cu su pc lv [.long v] := fun H locs ls hH hS hL =>
  W.widen hc hs (W.lret X.1 X.2.1 hr (qc_end hp hH hS) hS.2.2 hd X.2.2.2.2.2.1)
theorem V_aret (X : EX p s m args meth c G N0 own cc nL) {mc ms : Nat} {v : Option Nat} {rt : FieldType} {post : Option Value → Hp → Prop} (hr : meth.sig.returnType = some rt) (hrt : (∃ n, rt = .object n) ∨ ∃ t, rt = .array t) (hc : cu ≤ mc) (hs : su ≤ ms) (hd : decode cc pc = .ok (.areturn, 1)) (hp : post (some (va_rf v)) σ) : V p l e R s m args below meth c (MQ below (QC G N0 post) args s mc ms (AN N0)) G N0 nL σ cu su pc lv [va_rf v] := fun H locs ls hH hS hL =>
  W.widen hc hs (W.aret X.1 X.2.1 hr hrt (by cases v with | none => exact Or.inl rfl | some a => exact Or.inr ⟨a, rfl⟩) (qc_end hp hH hS) hS.2.2 hd X.2.2.2.2.2.1)
theorem V_vret (X : EX p s m args meth c G N0 own cc nL) {mc ms : Nat} {post : Option Value → Hp → Prop} (hr : meth.sig.returnType = none) (hc : cu ≤ mc) (hs : su ≤ ms) (hd : decode cc pc = .ok (.return_, 1)) (hp : post none σ) : V p l e R s m args below meth c (MQ below (QC G N0 post) args s mc ms (AN N0)) G N0 nL σ cu su pc lv [] := fun H locs ls hH hS hL =>
  W.widen hc hs (W.vret X.1 X.2.1 hr (qc_end hp hH hS) hS.2.2 hd X.2.2.2.2.2.1)
end CALL
end
section
def lfp0 (F : (Hp → Prop) → Hp → Prop)  (σ : Hp) : Prop := ∀ I : Hp → Prop, (∀  τ, F I  τ → I  τ) → I  σ
theorem lfp0_use {F : (Hp → Prop) → Hp → Prop}  {σ : Hp} (I : Hp → Prop) (h : lfp0 F  σ) (hI : ∀  τ, F I  τ → I  τ) : I  σ := h I hI
def lfp1 {T0 : Type} (F : (T0 → Hp → Prop) → T0 → Hp → Prop) (v0 : T0) (σ : Hp) : Prop := ∀ I : T0 → Hp → Prop, (∀ w0 τ, F I w0 τ → I w0 τ) → I v0 σ
theorem lfp1_use {T0 : Type} {F : (T0 → Hp → Prop) → T0 → Hp → Prop} {v0 : T0} {σ : Hp} (I : T0 → Hp → Prop) (h : lfp1 F v0 σ) (hI : ∀ w0 τ, F I w0 τ → I w0 τ) : I v0 σ := h I hI
def lfp2 {T0 T1 : Type} (F : (T0 → T1 → Hp → Prop) → T0 → T1 → Hp → Prop) (v0 : T0) (v1 : T1) (σ : Hp) : Prop := ∀ I : T0 → T1 → Hp → Prop, (∀ w0 w1 τ, F I w0 w1 τ → I w0 w1 τ) → I v0 v1 σ
theorem lfp2_use {T0 T1 : Type} {F : (T0 → T1 → Hp → Prop) → T0 → T1 → Hp → Prop} {v0 : T0} {v1 : T1} {σ : Hp} (I : T0 → T1 → Hp → Prop) (h : lfp2 F v0 v1 σ) (hI : ∀ w0 w1 τ, F I w0 w1 τ → I w0 w1 τ) : I v0 v1 σ := h I hI
def lfp3 {T0 T1 T2 : Type} (F : (T0 → T1 → T2 → Hp → Prop) → T0 → T1 → T2 → Hp → Prop) (v0 : T0) (v1 : T1) (v2 : T2) (σ : Hp) : Prop := ∀ I : T0 → T1 → T2 → Hp → Prop, (∀ w0 w1 w2 τ, F I w0 w1 w2 τ → I w0 w1 w2 τ) → I v0 v1 v2 σ
theorem lfp3_use {T0 T1 T2 : Type} {F : (T0 → T1 → T2 → Hp → Prop) → T0 → T1 → T2 → Hp → Prop} {v0 : T0} {v1 : T1} {v2 : T2} {σ : Hp} (I : T0 → T1 → T2 → Hp → Prop) (h : lfp3 F v0 v1 v2 σ) (hI : ∀ w0 w1 w2 τ, F I w0 w1 w2 τ → I w0 w1 w2 τ) : I v0 v1 v2 σ := h I hI
def lfp4 {T0 T1 T2 T3 : Type} (F : (T0 → T1 → T2 → T3 → Hp → Prop) → T0 → T1 → T2 → T3 → Hp → Prop) (v0 : T0) (v1 : T1) (v2 : T2) (v3 : T3) (σ : Hp) : Prop := ∀ I : T0 → T1 → T2 → T3 → Hp → Prop, (∀ w0 w1 w2 w3 τ, F I w0 w1 w2 w3 τ → I w0 w1 w2 w3 τ) → I v0 v1 v2 v3 σ
theorem lfp4_use {T0 T1 T2 T3 : Type} {F : (T0 → T1 → T2 → T3 → Hp → Prop) → T0 → T1 → T2 → T3 → Hp → Prop} {v0 : T0} {v1 : T1} {v2 : T2} {v3 : T3} {σ : Hp} (I : T0 → T1 → T2 → T3 → Hp → Prop) (h : lfp4 F v0 v1 v2 v3 σ) (hI : ∀ w0 w1 w2 w3 τ, F I w0 w1 w2 w3 τ → I w0 w1 w2 w3 τ) : I v0 v1 v2 v3 σ := h I hI
def lfp5 {T0 T1 T2 T3 T4 : Type} (F : (T0 → T1 → T2 → T3 → T4 → Hp → Prop) → T0 → T1 → T2 → T3 → T4 → Hp → Prop) (v0 : T0) (v1 : T1) (v2 : T2) (v3 : T3) (v4 : T4) (σ : Hp) : Prop := ∀ I : T0 → T1 → T2 → T3 → T4 → Hp → Prop, (∀ w0 w1 w2 w3 w4 τ, F I w0 w1 w2 w3 w4 τ → I w0 w1 w2 w3 w4 τ) → I v0 v1 v2 v3 v4 σ
theorem lfp5_use {T0 T1 T2 T3 T4 : Type} {F : (T0 → T1 → T2 → T3 → T4 → Hp → Prop) → T0 → T1 → T2 → T3 → T4 → Hp → Prop} {v0 : T0} {v1 : T1} {v2 : T2} {v3 : T3} {v4 : T4} {σ : Hp} (I : T0 → T1 → T2 → T3 → T4 → Hp → Prop) (h : lfp5 F v0 v1 v2 v3 v4 σ) (hI : ∀ w0 w1 w2 w3 w4 τ, F I w0 w1 w2 w3 w4 τ → I w0 w1 w2 w3 w4 τ) : I v0 v1 v2 v3 v4 σ := h I hI
def lfp6 {T0 T1 T2 T3 T4 T5 : Type} (F : (T0 → T1 → T2 → T3 → T4 → T5 → Hp → Prop) → T0 → T1 → T2 → T3 → T4 → T5 → Hp → Prop) (v0 : T0) (v1 : T1) (v2 : T2) (v3 : T3) (v4 : T4) (v5 : T5) (σ : Hp) : Prop := ∀ I : T0 → T1 → T2 → T3 → T4 → T5 → Hp → Prop, (∀ w0 w1 w2 w3 w4 w5 τ, F I w0 w1 w2 w3 w4 w5 τ → I w0 w1 w2 w3 w4 w5 τ) → I v0 v1 v2 v3 v4 v5 σ
theorem lfp6_use {T0 T1 T2 T3 T4 T5 : Type} {F : (T0 → T1 → T2 → T3 → T4 → T5 → Hp → Prop) → T0 → T1 → T2 → T3 → T4 → T5 → Hp → Prop} {v0 : T0} {v1 : T1} {v2 : T2} {v3 : T3} {v4 : T4} {v5 : T5} {σ : Hp} (I : T0 → T1 → T2 → T3 → T4 → T5 → Hp → Prop) (h : lfp6 F v0 v1 v2 v3 v4 v5 σ) (hI : ∀ w0 w1 w2 w3 w4 w5 τ, F I w0 w1 w2 w3 w4 w5 τ → I w0 w1 w2 w3 w4 w5 τ) : I v0 v1 v2 v3 v4 v5 σ := h I hI
def lfp7 {T0 T1 T2 T3 T4 T5 T6 : Type} (F : (T0 → T1 → T2 → T3 → T4 → T5 → T6 → Hp → Prop) → T0 → T1 → T2 → T3 → T4 → T5 → T6 → Hp → Prop) (v0 : T0) (v1 : T1) (v2 : T2) (v3 : T3) (v4 : T4) (v5 : T5) (v6 : T6) (σ : Hp) : Prop := ∀ I : T0 → T1 → T2 → T3 → T4 → T5 → T6 → Hp → Prop, (∀ w0 w1 w2 w3 w4 w5 w6 τ, F I w0 w1 w2 w3 w4 w5 w6 τ → I w0 w1 w2 w3 w4 w5 w6 τ) → I v0 v1 v2 v3 v4 v5 v6 σ
theorem lfp7_use {T0 T1 T2 T3 T4 T5 T6 : Type} {F : (T0 → T1 → T2 → T3 → T4 → T5 → T6 → Hp → Prop) → T0 → T1 → T2 → T3 → T4 → T5 → T6 → Hp → Prop} {v0 : T0} {v1 : T1} {v2 : T2} {v3 : T3} {v4 : T4} {v5 : T5} {v6 : T6} {σ : Hp} (I : T0 → T1 → T2 → T3 → T4 → T5 → T6 → Hp → Prop) (h : lfp7 F v0 v1 v2 v3 v4 v5 v6 σ) (hI : ∀ w0 w1 w2 w3 w4 w5 w6 τ, F I w0 w1 w2 w3 w4 w5 w6 τ → I w0 w1 w2 w3 w4 w5 w6 τ) : I v0 v1 v2 v3 v4 v5 v6 σ := h I hI
theorem vcat (x : Option Nat) : (va_rf x).category = 1 := by cases x <;> rfl
theorem gk_keep {σ : Hp} {q t n a : Nat} {u : Nat × Nat} (hq : gk σ q = none) (h : gk σ a = some u) : gk (nw σ q t n) a = some u := by
  rw [gk_nw, if_neg]
  · exact h
  · intro e
    rw [e, hq] at h
    cases h
theorem gk_new {σ : Hp} {q t n : Nat} : gk (nw σ q t n) q = some (t, n) := by rw [gk_nw, if_pos rfl]
theorem wps {ws : List Cond} (ps : List Nat) (hp : ws = ps.filterMap (fun i => lw_tbl[i]?)) (h : ws.all goodWord = true) : ∀ w ∈ ws, w ∈ wAll := by
  intro w hw
  have h1 := List.all_eq_true.mp h w hw
  rw [hp] at hw
  obtain ⟨i, -, hi⟩ := List.mem_filterMap.mp hw
  exact wm (List.mem_of_getElem? hi) h1
theorem wmi {w : Cond} (i : Nat) (h : lw_tbl[i]? = some w) (g : goodWord w = true) : w ∈ wAll := wm (List.mem_of_getElem? h) g
section AUX
variable {p : Program} {l : Launch} {e : Env} {R : Room} {s : State} {m : MethodId} {args : Array Value} {below : List Frame} {meth : Method} {c : Code} {Q : State → Prop} {G : GG} {N0 : Nat} {own : String} {cc : ByteArray} {nL : Nat}
variable {σ : Hp} {cu su pc : Nat} {lv lv' : List (Nat × Value)} {st : List Value}
theorem V_dr0 {x : Option Nat} {b : Nat} (h : x = some b) (k : V p l e R s m args below meth c Q G N0 nL σ cu su pc lv (.ref b :: st)) : V p l e R s m args below meth c Q G N0 nL σ cu su pc lv (va_rf x :: st) := by
  subst h
  exact k
theorem V_dr1 {v0 : Value} {x : Option Nat} {b : Nat} (h : x = some b) (k : V p l e R s m args below meth c Q G N0 nL σ cu su pc lv (v0 :: .ref b :: st)) : V p l e R s m args below meth c Q G N0 nL σ cu su pc lv (v0 :: va_rf x :: st) := by
  subst h
  exact k
theorem V_dr2 {v0 v1 : Value} {x : Option Nat} {b : Nat} (h : x = some b) (k : V p l e R s m args below meth c Q G N0 nL σ cu su pc lv (v0 :: v1 :: .ref b :: st)) : V p l e R s m args below meth c Q G N0 nL σ cu su pc lv (v0 :: v1 :: va_rf x :: st) := by
  subst h
  exact k
theorem V_dr3 {v0 v1 v2 : Value} {x : Option Nat} {b : Nat} (h : x = some b) (k : V p l e R s m args below meth c Q G N0 nL σ cu su pc lv (v0 :: v1 :: v2 :: .ref b :: st)) : V p l e R s m args below meth c Q G N0 nL σ cu su pc lv (v0 :: v1 :: v2 :: va_rf x :: st) := by
  subst h
  exact k
theorem V_dr4 {v0 v1 v2 v3 : Value} {x : Option Nat} {b : Nat} (h : x = some b) (k : V p l e R s m args below meth c Q G N0 nL σ cu su pc lv (v0 :: v1 :: v2 :: v3 :: .ref b :: st)) : V p l e R s m args below meth c Q G N0 nL σ cu su pc lv (v0 :: v1 :: v2 :: v3 :: va_rf x :: st) := by
  subst h
  exact k
theorem V_dr5 {v0 v1 v2 v3 v4 : Value} {x : Option Nat} {b : Nat} (h : x = some b) (k : V p l e R s m args below meth c Q G N0 nL σ cu su pc lv (v0 :: v1 :: v2 :: v3 :: v4 :: .ref b :: st)) : V p l e R s m args below meth c Q G N0 nL σ cu su pc lv (v0 :: v1 :: v2 :: v3 :: v4 :: va_rf x :: st) := by
  subst h
  exact k
theorem V_dr6 {v0 v1 v2 v3 v4 v5 : Value} {x : Option Nat} {b : Nat} (h : x = some b) (k : V p l e R s m args below meth c Q G N0 nL σ cu su pc lv (v0 :: v1 :: v2 :: v3 :: v4 :: v5 :: .ref b :: st)) : V p l e R s m args below meth c Q G N0 nL σ cu su pc lv (v0 :: v1 :: v2 :: v3 :: v4 :: v5 :: va_rf x :: st) := by
  subst h
  exact k
theorem V_dr7 {v0 v1 v2 v3 v4 v5 v6 : Value} {x : Option Nat} {b : Nat} (h : x = some b) (k : V p l e R s m args below meth c Q G N0 nL σ cu su pc lv (v0 :: v1 :: v2 :: v3 :: v4 :: v5 :: v6 :: .ref b :: st)) : V p l e R s m args below meth c Q G N0 nL σ cu su pc lv (v0 :: v1 :: v2 :: v3 :: v4 :: v5 :: v6 :: va_rf x :: st) := by
  subst h
  exact k
/-- what comes back: an int, a reference or null, nothing -/
def pI (P : Int32 → Hp → Prop) : Option Value → Hp → Prop := fun v σ => ∃ r, v = some (.int r) ∧ P r σ
def pR (P : Option Nat → Hp → Prop) : Option Value → Hp → Prop := fun v σ => ∃ r, v = some (va_rf r) ∧ P r σ
def pV (P : Hp → Prop) : Option Value → Hp → Prop := fun v σ => v = none ∧ P σ
theorem V_callV_i (X : EX p s m args meth c G N0 own cc nL) {index maxL fr lo mc ms n b t z : Nat} {y : MethodName} {bytes : ByteArray} {ret : Option FieldType} (As : List Value) {stk : List Value} {P : Int32 → Hp → Prop} (hw : CW own index y bytes maxL ret n) (hinst : Cond.instanceMethod y ∈ wAll) (hsel : Cond.selects y.cls y y ∈ lw_tbl) (hsg : goodWord (Cond.selects y.cls y y) = true) (hM : MM l G N0 y bytes maxL ret fr lo mc ms (.ref b :: As) σ (pI P)) (hkd : gk σ b = some (t, z)) (ht : t < 10) (hcls : (vwCl[t]?).map (fun r => r.1) = some y.cls) (hn : As.length = n) (hR : fr + 1 ≤ R.frames ∧ 8 + (maxL + 11) + lo ≤ R.locals) (hcat : (st.map fun v => v.category).sum ≤ 8) (hf : cu + mc ≤ R.cells ∧ su + ms ≤ R.slots) (hstk : stk = As.reverse ++ .ref b :: st) (hd : decode cc pc = .ok (.invokevirtual index, 3)) (kk : ∀ (r : Int32) (σ' : Hp), P r σ' → V p l e R s m args below meth c Q G N0 nL σ' (cu + mc) (su + ms) (pc + 3) lv (.int r :: st)) : V p l e R s m args below meth c Q G N0 nL σ cu su pc lv stk :=
  V_callV X hw hinst hsel hsg hM hkd ht hcls hn hR hcat hf hstk hd fun v σ' hv => by
  obtain ⟨r, rfl, hp⟩ := hv
  exact kk r σ' hp
theorem V_callS_i (X : EX p s m args meth c G N0 own cc nL) {index maxL fr lo mc ms n : Nat} {y : MethodName} {bytes : ByteArray} {ret : Option FieldType} (As : List Value) {stk : List Value} {P : Int32 → Hp → Prop} (hw : CW own index y bytes maxL ret n) (hstat : Cond.static y ∈ wAll) (hM : MM l G N0 y bytes maxL ret fr lo mc ms As σ (pI P)) (hn : As.length = n) (hR : fr + 1 ≤ R.frames ∧ 8 + (maxL + 11) + lo ≤ R.locals) (hcat : (st.map fun v => v.category).sum ≤ 8) (hf : cu + mc ≤ R.cells ∧ su + ms ≤ R.slots) (hstk : stk = As.reverse ++ st) (hd : decode cc pc = .ok (.invokestatic index, 3)) (kk : ∀ (r : Int32) (σ' : Hp), P r σ' → V p l e R s m args below meth c Q G N0 nL σ' (cu + mc) (su + ms) (pc + 3) lv (.int r :: st)) : V p l e R s m args below meth c Q G N0 nL σ cu su pc lv stk :=
  V_callS X hw hstat hM hn hR hcat hf hstk hd fun v σ' hv => by
  obtain ⟨r, rfl, hp⟩ := hv
  exact kk r σ' hp
theorem V_callSN_i (X : EX p s m args meth c G N0 own cc nL) {index maxL fr lo mc ms n : Nat} {y : MethodName} {host : String} {bytes : ByteArray} {ret : Option FieldType} (As : List Value) {stk : List Value} {P : Int32 → Hp → Prop} (hw : CN own index y host bytes maxL ret n) (hstat : Cond.static y ∈ wAll) (hM : MM l G N0 y bytes maxL ret fr lo mc ms As σ (pI P)) (hn : As.length = n) (hR : fr + 1 ≤ R.frames ∧ 8 + (maxL + 11) + lo ≤ R.locals) (hcat : (st.map fun v => v.category).sum ≤ 8) (hf : cu + mc ≤ R.cells ∧ su + ms ≤ R.slots) (hstk : stk = As.reverse ++ st) (hd : decode cc pc = .ok (.invokestatic index, 3)) (kk : ∀ (r : Int32) (σ' : Hp), P r σ' → V p l e R s m args below meth c Q G N0 nL σ' (cu + mc) (su + ms) (pc + 3) lv (.int r :: st)) : V p l e R s m args below meth c Q G N0 nL σ cu su pc lv stk :=
  V_callSN X hw hstat hM hn hR hcat hf hstk hd fun v σ' hv => by
  obtain ⟨r, rfl, hp⟩ := hv
  exact kk r σ' hp
theorem V_callV_r (X : EX p s m args meth c G N0 own cc nL) {index maxL fr lo mc ms n b t z : Nat} {y : MethodName} {bytes : ByteArray} {ret : Option FieldType} (As : List Value) {stk : List Value} {P : Option Nat → Hp → Prop} (hw : CW own index y bytes maxL ret n) (hinst : Cond.instanceMethod y ∈ wAll) (hsel : Cond.selects y.cls y y ∈ lw_tbl) (hsg : goodWord (Cond.selects y.cls y y) = true) (hM : MM l G N0 y bytes maxL ret fr lo mc ms (.ref b :: As) σ (pR P)) (hkd : gk σ b = some (t, z)) (ht : t < 10) (hcls : (vwCl[t]?).map (fun r => r.1) = some y.cls) (hn : As.length = n) (hR : fr + 1 ≤ R.frames ∧ 8 + (maxL + 11) + lo ≤ R.locals) (hcat : (st.map fun v => v.category).sum ≤ 8) (hf : cu + mc ≤ R.cells ∧ su + ms ≤ R.slots) (hstk : stk = As.reverse ++ .ref b :: st) (hd : decode cc pc = .ok (.invokevirtual index, 3)) (kk : ∀ (r : Option Nat) (σ' : Hp), P r σ' → V p l e R s m args below meth c Q G N0 nL σ' (cu + mc) (su + ms) (pc + 3) lv (va_rf r :: st)) : V p l e R s m args below meth c Q G N0 nL σ cu su pc lv stk :=
  V_callV X hw hinst hsel hsg hM hkd ht hcls hn hR hcat hf hstk hd fun v σ' hv => by
  obtain ⟨r, rfl, hp⟩ := hv
  exact kk r σ' hp
theorem V_callS_r (X : EX p s m args meth c G N0 own cc nL) {index maxL fr lo mc ms n : Nat} {y : MethodName} {bytes : ByteArray} {ret : Option FieldType} (As : List Value) {stk : List Value} {P : Option Nat → Hp → Prop} (hw : CW own index y bytes maxL ret n) (hstat : Cond.static y ∈ wAll) (hM : MM l G N0 y bytes maxL ret fr lo mc ms As σ (pR P)) (hn : As.length = n) (hR : fr + 1 ≤ R.frames ∧ 8 + (maxL + 11) + lo ≤ R.locals) (hcat : (st.map fun v => v.category).sum ≤ 8) (hf : cu + mc ≤ R.cells ∧ su + ms ≤ R.slots) (hstk : stk = As.reverse ++ st) (hd : decode cc pc = .ok (.invokestatic index, 3)) (kk : ∀ (r : Option Nat) (σ' : Hp), P r σ' → V p l e R s m args below meth c Q G N0 nL σ' (cu + mc) (su + ms) (pc + 3) lv (va_rf r :: st)) : V p l e R s m args below meth c Q G N0 nL σ cu su pc lv stk :=
  V_callS X hw hstat hM hn hR hcat hf hstk hd fun v σ' hv => by
  obtain ⟨r, rfl, hp⟩ := hv
  exact kk r σ' hp
theorem V_callSN_r (X : EX p s m args meth c G N0 own cc nL) {index maxL fr lo mc ms n : Nat} {y : MethodName} {host : String} {bytes : ByteArray} {ret : Option FieldType} (As : List Value) {stk : List Value} {P : Option Nat → Hp → Prop} (hw : CN own index y host bytes maxL ret n) (hstat : Cond.static y ∈ wAll) (hM : MM l G N0 y bytes maxL ret fr lo mc ms As σ (pR P)) (hn : As.length = n) (hR : fr + 1 ≤ R.frames ∧ 8 + (maxL + 11) + lo ≤ R.locals) (hcat : (st.map fun v => v.category).sum ≤ 8) (hf : cu + mc ≤ R.cells ∧ su + ms ≤ R.slots) (hstk : stk = As.reverse ++ st) (hd : decode cc pc = .ok (.invokestatic index, 3)) (kk : ∀ (r : Option Nat) (σ' : Hp), P r σ' → V p l e R s m args below meth c Q G N0 nL σ' (cu + mc) (su + ms) (pc + 3) lv (va_rf r :: st)) : V p l e R s m args below meth c Q G N0 nL σ cu su pc lv stk :=
  V_callSN X hw hstat hM hn hR hcat hf hstk hd fun v σ' hv => by
  obtain ⟨r, rfl, hp⟩ := hv
  exact kk r σ' hp
theorem V_callV_v (X : EX p s m args meth c G N0 own cc nL) {index maxL fr lo mc ms n b t z : Nat} {y : MethodName} {bytes : ByteArray} {ret : Option FieldType} (As : List Value) {stk : List Value} {P : Hp → Prop} (hw : CW own index y bytes maxL ret n) (hinst : Cond.instanceMethod y ∈ wAll) (hsel : Cond.selects y.cls y y ∈ lw_tbl) (hsg : goodWord (Cond.selects y.cls y y) = true) (hM : MM l G N0 y bytes maxL ret fr lo mc ms (.ref b :: As) σ (pV P)) (hkd : gk σ b = some (t, z)) (ht : t < 10) (hcls : (vwCl[t]?).map (fun r => r.1) = some y.cls) (hn : As.length = n) (hR : fr + 1 ≤ R.frames ∧ 8 + (maxL + 11) + lo ≤ R.locals) (hcat : (st.map fun v => v.category).sum ≤ 8) (hf : cu + mc ≤ R.cells ∧ su + ms ≤ R.slots) (hstk : stk = As.reverse ++ .ref b :: st) (hd : decode cc pc = .ok (.invokevirtual index, 3)) (kk : ∀ σ' : Hp, P σ' → V p l e R s m args below meth c Q G N0 nL σ' (cu + mc) (su + ms) (pc + 3) lv st) : V p l e R s m args below meth c Q G N0 nL σ cu su pc lv stk :=
  V_callV X hw hinst hsel hsg hM hkd ht hcls hn hR hcat hf hstk hd fun v σ' hv => by
  obtain ⟨rfl, hp⟩ := hv
  exact kk σ' hp
theorem V_callS_v (X : EX p s m args meth c G N0 own cc nL) {index maxL fr lo mc ms n : Nat} {y : MethodName} {bytes : ByteArray} {ret : Option FieldType} (As : List Value) {stk : List Value} {P : Hp → Prop} (hw : CW own index y bytes maxL ret n) (hstat : Cond.static y ∈ wAll) (hM : MM l G N0 y bytes maxL ret fr lo mc ms As σ (pV P)) (hn : As.length = n) (hR : fr + 1 ≤ R.frames ∧ 8 + (maxL + 11) + lo ≤ R.locals) (hcat : (st.map fun v => v.category).sum ≤ 8) (hf : cu + mc ≤ R.cells ∧ su + ms ≤ R.slots) (hstk : stk = As.reverse ++ st) (hd : decode cc pc = .ok (.invokestatic index, 3)) (kk : ∀ σ' : Hp, P σ' → V p l e R s m args below meth c Q G N0 nL σ' (cu + mc) (su + ms) (pc + 3) lv st) : V p l e R s m args below meth c Q G N0 nL σ cu su pc lv stk :=
  V_callS X hw hstat hM hn hR hcat hf hstk hd fun v σ' hv => by
  obtain ⟨rfl, hp⟩ := hv
  exact kk σ' hp
theorem V_callSN_v (X : EX p s m args meth c G N0 own cc nL) {index maxL fr lo mc ms n : Nat} {y : MethodName} {host : String} {bytes : ByteArray} {ret : Option FieldType} (As : List Value) {stk : List Value} {P : Hp → Prop} (hw : CN own index y host bytes maxL ret n) (hstat : Cond.static y ∈ wAll) (hM : MM l G N0 y bytes maxL ret fr lo mc ms As σ (pV P)) (hn : As.length = n) (hR : fr + 1 ≤ R.frames ∧ 8 + (maxL + 11) + lo ≤ R.locals) (hcat : (st.map fun v => v.category).sum ≤ 8) (hf : cu + mc ≤ R.cells ∧ su + ms ≤ R.slots) (hstk : stk = As.reverse ++ st) (hd : decode cc pc = .ok (.invokestatic index, 3)) (kk : ∀ σ' : Hp, P σ' → V p l e R s m args below meth c Q G N0 nL σ' (cu + mc) (su + ms) (pc + 3) lv st) : V p l e R s m args below meth c Q G N0 nL σ cu su pc lv stk :=
  V_callSN X hw hstat hM hn hR hcat hf hstk hd fun v σ' hv => by
  obtain ⟨rfl, hp⟩ := hv
  exact kk σ' hp
theorem V_callI_v (X : EX p s m args meth c G N0 own cc nL) {index maxL fr lo mc ms n b : Nat} {y : MethodName} {bytes : ByteArray} (As : List Value) {stk : List Value} {P : Hp → Prop} (hw : CW own index y bytes maxL none n) (hinst : Cond.instanceMethod y ∈ wAll) (hy1 : y.name = "<init>") (hM : MM l G N0 y bytes maxL none fr lo mc ms (.ref b :: As) σ (pV P)) (hn : As.length = n) (hR : fr + 1 ≤ R.frames ∧ 8 + (maxL + 11) + lo ≤ R.locals) (hcat : (st.map fun v => v.category).sum ≤ 8) (hf : cu + mc ≤ R.cells ∧ su + ms ≤ R.slots) (hstk : stk = As.reverse ++ .ref b :: st) (hd : decode cc pc = .ok (.invokespecial index, 3)) (kk : ∀ σ' : Hp, P σ' → V p l e R s m args below meth c Q G N0 nL σ' (cu + mc) (su + ms) (pc + 3) lv st) : V p l e R s m args below meth c Q G N0 nL σ cu su pc lv stk :=
  V_callI X hw hinst hy1 hM hn hR hcat hf hstk hd fun v σ' hv => by
  obtain ⟨rfl, hp⟩ := hv
  exact kk σ' hp
theorem V_callIN_v (X : EX p s m args meth c G N0 own cc nL) {index maxL fr lo mc ms n b : Nat} {y : MethodName} {bytes : ByteArray} (As : List Value) {stk : List Value} {P : Hp → Prop} {host : String} (hw : CN own index y host bytes maxL none n) (hinst : Cond.instanceMethod y ∈ wAll) (hy1 : y.name = "<init>") (hM : MM l G N0 y bytes maxL none fr lo mc ms (.ref b :: As) σ (pV P)) (hn : As.length = n) (hR : fr + 1 ≤ R.frames ∧ 8 + (maxL + 11) + lo ≤ R.locals) (hcat : (st.map fun v => v.category).sum ≤ 8) (hf : cu + mc ≤ R.cells ∧ su + ms ≤ R.slots) (hstk : stk = As.reverse ++ .ref b :: st) (hd : decode cc pc = .ok (.invokespecial index, 3)) (kk : ∀ σ' : Hp, P σ' → V p l e R s m args below meth c Q G N0 nL σ' (cu + mc) (su + ms) (pc + 3) lv st) : V p l e R s m args below meth c Q G N0 nL σ cu su pc lv stk :=
  V_callIN X hw hinst hy1 hM hn hR hcat hf hstk hd fun v σ' hv => by
  obtain ⟨rfl, hp⟩ := hv
  exact kk σ' hp
theorem V_mmax (X : EX p s m args meth c G N0 own cc nL) {index : Nat} {x y : Int32} (h1 : Cond.methodLink own index Lib.Math.max.name ∈ wAll) (h2 : Cond.static Lib.Math.max.name ∈ wAll) (h3 : Cond.initialized "java/lang/Math" ∈ wAll) (h4 : Cond.code Lib.Math.max.name Lib.Math.max.code 2 (some .int) ∈ wAll) (hcat : (st.map fun v => v.category).sum ≤ 8) (hR : 1 ≤ R.frames ∧ 25 ≤ R.locals) (hf : cu ≤ R.cells ∧ su ≤ R.slots) (hd : decode cc pc = .ok (.invokestatic index, 3)) (k : V p l e R s m args below meth c Q G N0 nL σ cu su (pc + 3) lv (.int (if x < y then y else x) :: st)) : V p l e R s m args below meth c Q G N0 nL σ cu su pc lv (.int y :: .int x :: st) := fun H locs ls hH hS hL =>
  va_mmax X.1 X.2.1 (by rw [X.2.2.1]; exact hL.1.symm) X.2.2.2.1 (X.2.2.2.2.1 _ h1) (X.2.2.2.2.1 _ h2) (X.2.2.2.2.1 _ h3) (X.2.2.2.2.1 _ h4) hR.1 (by omega) hf.1 hf.2 hd (k H locs ls hH hS hL)
theorem V_mmin (X : EX p s m args meth c G N0 own cc nL) {index : Nat} {x y : Int32} (h1 : Cond.methodLink own index Lib.Math.min.name ∈ wAll) (h2 : Cond.static Lib.Math.min.name ∈ wAll) (h3 : Cond.initialized "java/lang/Math" ∈ wAll) (h4 : Cond.code Lib.Math.min.name Lib.Math.min.code 2 (some .int) ∈ wAll) (hcat : (st.map fun v => v.category).sum ≤ 8) (hR : 1 ≤ R.frames ∧ 25 ≤ R.locals) (hf : cu ≤ R.cells ∧ su ≤ R.slots) (hd : decode cc pc = .ok (.invokestatic index, 3)) (k : V p l e R s m args below meth c Q G N0 nL σ cu su (pc + 3) lv (.int (if y < x then y else x) :: st)) : V p l e R s m args below meth c Q G N0 nL σ cu su pc lv (.int y :: .int x :: st) := fun H locs ls hH hS hL =>
  va_mmin X.1 X.2.1 (by rw [X.2.2.1]; exact hL.1.symm) X.2.2.2.1 (X.2.2.2.2.1 _ h1) (X.2.2.2.2.1 _ h2) (X.2.2.2.2.1 _ h3) (X.2.2.2.2.1 _ h4) hR.1 (by omega) hf.1 hf.2 hd (k H locs ls hH hS hL)
theorem V_mmaxl (X : EX p s m args meth c G N0 own cc nL) {index : Nat} {x y : Int64} (h1 : Cond.methodLink own index Lib.MathLoose.max_long.x ∈ wAll) (h2 : Cond.static Lib.MathLoose.max_long.x ∈ wAll) (h3 : Cond.initialized "java/lang/Math" ∈ wAll) (h4 : Cond.code Lib.MathLoose.max_long.x Lib.MathLoose.max_long.code 4 (some .long) ∈ wAll) (hcat : (st.map fun v => v.category).sum ≤ 8) (hR : 1 ≤ R.frames ∧ 25 ≤ R.locals) (hf : cu ≤ R.cells ∧ su ≤ R.slots) (hd : decode cc pc = .ok (.invokestatic index, 3)) (k : V p l e R s m args below meth c Q G N0 nL σ cu su (pc + 3) lv (.long (if y < x then x else y) :: st)) : V p l e R s m args below meth c Q G N0 nL σ cu su pc lv (.long y :: .long x :: st) := fun H locs ls hH hS hL =>
  va_mmax_long X.1 X.2.1 (by rw [X.2.2.1]; exact hL.1.symm) X.2.2.2.1 (X.2.2.2.2.1 _ h1) (X.2.2.2.2.1 _ h2) (X.2.2.2.2.1 _ h3) (X.2.2.2.2.1 _ h4) hR.1 (by omega) hf.1 hf.2 hd (k H locs ls hH hS hL)
theorem V_mminl (X : EX p s m args meth c G N0 own cc nL) {index : Nat} {x y : Int64} (h1 : Cond.methodLink own index Lib.MathLoose.min_long.x ∈ wAll) (h2 : Cond.static Lib.MathLoose.min_long.x ∈ wAll) (h3 : Cond.initialized "java/lang/Math" ∈ wAll) (h4 : Cond.code Lib.MathLoose.min_long.x Lib.MathLoose.min_long.code 4 (some .long) ∈ wAll) (hcat : (st.map fun v => v.category).sum ≤ 8) (hR : 1 ≤ R.frames ∧ 25 ≤ R.locals) (hf : cu ≤ R.cells ∧ su ≤ R.slots) (hd : decode cc pc = .ok (.invokestatic index, 3)) (k : V p l e R s m args below meth c Q G N0 nL σ cu su (pc + 3) lv (.long (if y < x then y else x) :: st)) : V p l e R s m args below meth c Q G N0 nL σ cu su pc lv (.long y :: .long x :: st) := fun H locs ls hH hS hL =>
  va_mmin_long X.1 X.2.1 (by rw [X.2.2.1]; exact hL.1.symm) X.2.2.2.1 (X.2.2.2.2.1 _ h1) (X.2.2.2.2.1 _ h2) (X.2.2.2.2.1 _ h3) (X.2.2.2.2.1 _ h4) hR.1 (by omega) hf.1 hf.2 hd (k H locs ls hH hS hL)
theorem V_ldcS (X : EX p s m args meth c G N0 own cc nL) {index i : Nat} {tx : String} (hi : vk_R own index tx (G.2.2.1 i) s) (hd : decode cc pc = .ok (.ldc index, 2)) (k : V p l e R s m args below meth c Q G N0 nL σ cu su (pc + 2) lv (.ref (G.2.2.1 i) :: st)) : V p l e R s m args below meth c Q G N0 nL σ cu su pc lv st := fun H locs ls hH hS hL => va_ldcS X.1 X.2.1 X.2.2.2.1 hi hd (k H locs ls hH hS hL)
end AUX
end
section
section STR
variable {p : Program} {l : Launch} {e : Env} {R : Room} {s : State} {m : MethodId} {args : Array Value} {below : List Frame} {meth : Method} {c : Code} {Q : State → Prop} {G : GG} {N0 : Nat} {own : String} {cc : ByteArray} {nL : Nat}
variable {σ : Hp} {cu su pc : Nat} {lv lv' : List (Nat × Value)} {st : List Value}
theorem V_strlen (X : EX p s m args meth c G N0 own cc nL) {index w : Nat} (hw : w < 3) (hl : Cond.methodLink own index yJ0_length_8abf5 ∈ wAll) (hcat : (st.map fun v => v.category).sum ≤ 8) (hR : 8 ≤ R.frames ∧ 300 ≤ R.locals) (hf : cu ≤ R.cells ∧ su ≤ R.slots) (hd : decode cc pc = .ok (.invokevirtual index, 3)) (k : V p l e R s m args below meth c Q G N0 nL σ cu su (pc + 3) lv (.int (nI (strL.getD w 0)) :: st)) : V p l e R s m args below meth c Q G N0 nL σ cu su pc lv (.ref (G.2.2.1 w) :: st) := by
  sorry
theorem V_strchr (X : EX p s m args meth c G N0 own cc nL) {index w : Nat} {j : Int32} (hw : w < 3) (hj : vp_in j (strL.getD w 0)) (hl : Cond.methodLink own index yJ0_charAt_5068e ∈ wAll) (hcat : (st.map fun v => v.category).sum ≤ 8) (hR : 8 ≤ R.frames ∧ 300 ≤ R.locals) (hf : cu ≤ R.cells ∧ su ≤ R.slots) (hd : decode cc pc = .ok (.invokevirtual index, 3)) (k : V p l e R s m args below meth c Q G N0 nL σ cu su (pc + 3) lv (.int ((strB.getD w []).getD j.toNatClampNeg 0) :: st)) : V p l e R s m args below meth c Q G N0 nL σ cu su pc lv (.int j :: .ref (G.2.2.1 w) :: st) := by
  sorry
end STR
end
section
theorem hin0 : ∀ w ∈ u_ws RX0 TX0 2, w ∈ wAll := wps [88, 90] (by decide +kernel) (by decide +kernel)
theorem hin1 : ∀ w ∈ u_ws RX1 TX1 3, w ∈ wAll := wps [146, 148, 150] (by decide +kernel) (by decide +kernel)
theorem hin2 : ∀ w ∈ u_ws RX2 TX2 4, w ∈ wAll := wps [360, 362, 364, 366] (by decide +kernel) (by decide +kernel)
theorem hin3 : ∀ w ∈ u_ws RX3 TX3 2, w ∈ wAll := wps [596, 598] (by decide +kernel) (by decide +kernel)
theorem hin4 : ∀ w ∈ u_ws RX4 TX4 6, w ∈ wAll := wps [251, 253, 255, 257, 259, 261] (by decide +kernel) (by decide +kernel)
theorem hin5 : ∀ w ∈ u_ws RX5 TX5 2, w ∈ wAll := wps [74, 76] (by decide +kernel) (by decide +kernel)
theorem hin6 : ∀ w ∈ u_ws RX6 TX6 7, w ∈ wAll := wps [122, 124, 126, 128, 130, 132, 134] (by decide +kernel) (by decide +kernel)
theorem hin7 : ∀ w ∈ u_ws RX7 TX7 2, w ∈ wAll := wps [101, 103] (by decide +kernel) (by decide +kernel)
theorem hin8 : ∀ w ∈ u_ws RX8 TX8 13, w ∈ wAll := wps [166, 168, 170, 172, 174, 176, 178, 180, 182, 184, 186, 188, 190] (by decide +kernel) (by decide +kernel)
theorem hin9 : ∀ w ∈ u_ws RX9 TX9 55, w ∈ wAll := wps [748, 750, 752, 754, 756, 758, 760, 762, 764, 766, 768, 770, 772, 774, 776, 778, 780, 782, 784, 786, 788, 790, 792, 794, 796, 798, 800, 802, 804, 806, 808, 810, 812, 814, 816, 818, 820, 822, 824, 826, 828, 830, 832, 834, 836, 838, 840, 842, 844, 846, 848, 850, 852, 854, 856] (by decide +kernel) (by decide +kernel)
theorem ka_int : Cond.arrayClass .int ∈ wAll := wmi 106 (by decide +kernel) (by decide +kernel)
theorem ka_boolean : Cond.arrayClass .boolean ∈ wAll := wmi 859 (by decide +kernel) (by decide +kernel)
theorem ko_inst : Cond.instanceMethod objectInit ∈ wAll := wmi 62 (by decide +kernel) (by decide +kernel)
theorem ko_code : Cond.code objectInit ⟨#[0xb1]⟩ 1 none ∈ wAll := wmi 63 (by decide +kernel) (by decide +kernel)
theorem km_ini : Cond.initialized "java/lang/Math" ∈ wAll := wmi 49 (by decide +kernel) (by decide +kernel)
theorem km_max_s : Cond.static Lib.Math.max.name ∈ wAll := wmi 273 (by decide +kernel) (by decide +kernel)
theorem km_max_c : Cond.code Lib.Math.max.name Lib.Math.max.code 2 (some .int) ∈ wAll := wmi 274 (by decide +kernel) (by decide +kernel)
theorem km_min_s : Cond.static Lib.Math.min.name ∈ wAll := wmi 339 (by decide +kernel) (by decide +kernel)
theorem km_min_c : Cond.code Lib.Math.min.name Lib.Math.min.code 2 (some .int) ∈ wAll := wmi 340 (by decide +kernel) (by decide +kernel)
theorem km_maxl_s : Cond.static Lib.MathLoose.max_long.x ∈ wAll := wmi 579 (by decide +kernel) (by decide +kernel)
theorem km_maxl_c : Cond.code Lib.MathLoose.max_long.x Lib.MathLoose.max_long.code 4 (some .long) ∈ wAll := wmi 580 (by decide +kernel) (by decide +kernel)
theorem km_minl_s : Cond.static Lib.MathLoose.min_long.x ∈ wAll := wmi 576 (by decide +kernel) (by decide +kernel)
theorem km_minl_c : Cond.code Lib.MathLoose.min_long.x Lib.MathLoose.min_long.code 4 (some .long) ∈ wAll := wmi 577 (by decide +kernel) (by decide +kernel)
theorem kq_RX0_9 : Cond.classLink RX0 9 "PaperRows$Row" ∈ wAll := wmi 85 (by decide +kernel) (by decide +kernel)
theorem kq_RX5_9 : Cond.classLink RX5 9 "PaperRows$Row" ∈ wAll := wmi 70 (by decide +kernel) (by decide +kernel)
theorem kq_RX8_30 : Cond.classLink RX8 30 "PaperRows$Reader" ∈ wAll := wmi 107 (by decide +kernel) (by decide +kernel)
theorem kk_RX9_143 : Cond.constantLong RX9 143 (-1000) ∈ wAll := wmi 871 (by decide +kernel) (by decide +kernel)
theorem kk_RX9_145 : Cond.constantLong RX9 145 (1000) ∈ wAll := wmi 872 (by decide +kernel) (by decide +kernel)
theorem kk_RX9_147 : Cond.constantLong RX9 147 (3) ∈ wAll := wmi 864 (by decide +kernel) (by decide +kernel)
theorem kk_RX9_189 : Cond.constantLong RX9 189 (32) ∈ wAll := wmi 931 (by decide +kernel) (by decide +kernel)
theorem kk_RX9_191 : Cond.constantLong RX9 191 (96) ∈ wAll := wmi 932 (by decide +kernel) (by decide +kernel)
theorem kk_RX9_193 : Cond.constantLong RX9 193 (-1) ∈ wAll := wmi 933 (by decide +kernel) (by decide +kernel)
theorem kk_RX9_195 : Cond.constantLong RX9 195 (10) ∈ wAll := wmi 934 (by decide +kernel) (by decide +kernel)
theorem kk_RX9_197 : Cond.constantLong RX9 197 (48) ∈ wAll := wmi 935 (by decide +kernel) (by decide +kernel)
theorem kk_RX9_206 : Cond.constantLong RX9 206 (4) ∈ wAll := wmi 940 (by decide +kernel) (by decide +kernel)
theorem kk_RX9_258 : Cond.constantLong RX9 258 (100) ∈ wAll := wmi 989 (by decide +kernel) (by decide +kernel)
theorem kk_RX9_260 : Cond.constantLong RX9 260 (599) ∈ wAll := wmi 990 (by decide +kernel) (by decide +kernel)
theorem kf_RX0_11 : FP RX0 11 0 0 (.array (.object "PaperRows$Row")) true := ⟨(RX0, TX0, 2), tyX0, rfl, by decide, by decide, by decide, hin0, wmi 86 (by decide +kernel) (by decide +kernel), tyX0_ok, nmX0, rfl, rfl⟩
theorem kf_RX0_17 : FP RX0 17 0 1 (.int) false := ⟨(RX0, TX0, 2), tyX0, rfl, by decide, by decide, by decide, hin0, wmi 87 (by decide +kernel) (by decide +kernel), tyX0_ok, nmX0, rfl, rfl⟩
theorem kf_RX1_15 : FP RX1 15 1 1 (.int) false := ⟨(RX1, TX1, 3), tyX1, rfl, by decide, by decide, by decide, hin1, wmi 144 (by decide +kernel) (by decide +kernel), tyX1_ok, nmX1, rfl, rfl⟩
theorem kf_RX1_19 : FP RX1 19 1 2 (.long) false := ⟨(RX1, TX1, 3), tyX1, rfl, by decide, by decide, by decide, hin1, wmi 145 (by decide +kernel) (by decide +kernel), tyX1_ok, nmX1, rfl, rfl⟩
theorem kf_RX1_46 : FP RX1 46 4 1 (.int) true := ⟨(RX4, TX4, 6), tyX4, rfl, by decide, by decide, by decide, hin4, wmi 240 (by decide +kernel) (by decide +kernel), tyX4_ok, nmX4, rfl, rfl⟩
theorem kf_RX1_64 : FP RX1 64 4 0 (.int) true := ⟨(RX4, TX4, 6), tyX4, rfl, by decide, by decide, by decide, hin4, wmi 236 (by decide +kernel) (by decide +kernel), tyX4_ok, nmX4, rfl, rfl⟩
theorem kf_RX1_81 : FP RX1 81 4 2 (.int) true := ⟨(RX4, TX4, 6), tyX4, rfl, by decide, by decide, by decide, hin4, wmi 243 (by decide +kernel) (by decide +kernel), tyX4_ok, nmX4, rfl, rfl⟩
theorem kf_RX1_9 : FP RX1 9 1 0 (.array .int) true := ⟨(RX1, TX1, 3), tyX1, rfl, by decide, by decide, by decide, hin1, wmi 143 (by decide +kernel) (by decide +kernel), tyX1_ok, nmX1, rfl, rfl⟩
theorem kf_RX2_15 : FP RX2 15 2 3 (.int) false := ⟨(RX2, TX2, 4), tyX2, rfl, by decide, by decide, by decide, hin2, wmi 359 (by decide +kernel) (by decide +kernel), tyX2_ok, nmX2, rfl, rfl⟩
theorem kf_RX2_18 : FP RX2 18 2 0 (.object "PaperRows$Tape") true := ⟨(RX2, TX2, 4), tyX2, rfl, by decide, by decide, by decide, hin2, wmi 356 (by decide +kernel) (by decide +kernel), tyX2_ok, nmX2, rfl, rfl⟩
theorem kf_RX2_22 : FP RX2 22 2 1 (.object "PaperRows$Shape") true := ⟨(RX2, TX2, 4), tyX2, rfl, by decide, by decide, by decide, hin2, wmi 357 (by decide +kernel) (by decide +kernel), tyX2_ok, nmX2, rfl, rfl⟩
theorem kf_RX2_9 : FP RX2 9 2 2 (.int) false := ⟨(RX2, TX2, 4), tyX2, rfl, by decide, by decide, by decide, hin2, wmi 358 (by decide +kernel) (by decide +kernel), tyX2_ok, nmX2, rfl, rfl⟩
theorem kf_RX3_10 : FP RX3 10 3 1 (.object "PaperRows$Paper") true := ⟨(RX3, TX3, 2), tyX3, rfl, by decide, by decide, by decide, hin3, wmi 594 (by decide +kernel) (by decide +kernel), tyX3_ok, nmX3, rfl, rfl⟩
theorem kf_RX3_16 : FP RX3 16 3 0 (.int) true := ⟨(RX3, TX3, 2), tyX3, rfl, by decide, by decide, by decide, hin3, wmi 592 (by decide +kernel) (by decide +kernel), tyX3_ok, nmX3, rfl, rfl⟩
theorem kf_RX4_13 : FP RX4 13 4 1 (.int) true := ⟨(RX4, TX4, 6), tyX4, rfl, by decide, by decide, by decide, hin4, wmi 238 (by decide +kernel) (by decide +kernel), tyX4_ok, nmX4, rfl, rfl⟩
theorem kf_RX4_16 : FP RX4 16 4 2 (.int) true := ⟨(RX4, TX4, 6), tyX4, rfl, by decide, by decide, by decide, hin4, wmi 241 (by decide +kernel) (by decide +kernel), tyX4_ok, nmX4, rfl, rfl⟩
theorem kf_RX4_19 : FP RX4 19 4 3 (.int) true := ⟨(RX4, TX4, 6), tyX4, rfl, by decide, by decide, by decide, hin4, wmi 244 (by decide +kernel) (by decide +kernel), tyX4_ok, nmX4, rfl, rfl⟩
theorem kf_RX4_22 : FP RX4 22 4 4 (.int) true := ⟨(RX4, TX4, 6), tyX4, rfl, by decide, by decide, by decide, hin4, wmi 246 (by decide +kernel) (by decide +kernel), tyX4_ok, nmX4, rfl, rfl⟩
theorem kf_RX4_25 : FP RX4 25 4 5 (.boolean) true := ⟨(RX4, TX4, 6), tyX4, rfl, by decide, by decide, by decide, hin4, wmi 248 (by decide +kernel) (by decide +kernel), tyX4_ok, nmX4, rfl, rfl⟩
theorem kf_RX4_7 : FP RX4 7 4 0 (.int) true := ⟨(RX4, TX4, 6), tyX4, rfl, by decide, by decide, by decide, hin4, wmi 234 (by decide +kernel) (by decide +kernel), tyX4_ok, nmX4, rfl, rfl⟩
theorem kf_RX5_11 : FP RX5 11 5 0 (.array (.object "PaperRows$Row")) true := ⟨(RX5, TX5, 2), tyX5, rfl, by decide, by decide, by decide, hin5, wmi 72 (by decide +kernel) (by decide +kernel), tyX5_ok, nmX5, rfl, rfl⟩
theorem kf_RX5_17 : FP RX5 17 5 1 (.int) false := ⟨(RX5, TX5, 2), tyX5, rfl, by decide, by decide, by decide, hin5, wmi 73 (by decide +kernel) (by decide +kernel), tyX5_ok, nmX5, rfl, rfl⟩
theorem kf_RX5_25 : FP RX5 25 4 5 (.boolean) true := ⟨(RX4, TX4, 6), tyX4, rfl, by decide, by decide, by decide, hin4, wmi 249 (by decide +kernel) (by decide +kernel), tyX4_ok, nmX4, rfl, rfl⟩
theorem kf_RX5_32 : FP RX5 32 4 0 (.int) true := ⟨(RX4, TX4, 6), tyX4, rfl, by decide, by decide, by decide, hin4, wmi 235 (by decide +kernel) (by decide +kernel), tyX4_ok, nmX4, rfl, rfl⟩
theorem kf_RX6_15 : FP RX6 15 6 1 (.array .int) true := ⟨(RX6, TX6, 7), tyX6, rfl, by decide, by decide, by decide, hin6, wmi 116 (by decide +kernel) (by decide +kernel), tyX6_ok, nmX6, rfl, rfl⟩
theorem kf_RX6_18 : FP RX6 18 6 2 (.array .int) true := ⟨(RX6, TX6, 7), tyX6, rfl, by decide, by decide, by decide, hin6, wmi 117 (by decide +kernel) (by decide +kernel), tyX6_ok, nmX6, rfl, rfl⟩
theorem kf_RX6_21 : FP RX6 21 6 3 (.array .int) true := ⟨(RX6, TX6, 7), tyX6, rfl, by decide, by decide, by decide, hin6, wmi 118 (by decide +kernel) (by decide +kernel), tyX6_ok, nmX6, rfl, rfl⟩
theorem kf_RX6_24 : FP RX6 24 6 4 (.array .int) true := ⟨(RX6, TX6, 7), tyX6, rfl, by decide, by decide, by decide, hin6, wmi 119 (by decide +kernel) (by decide +kernel), tyX6_ok, nmX6, rfl, rfl⟩
theorem kf_RX6_27 : FP RX6 27 6 5 (.int) false := ⟨(RX6, TX6, 7), tyX6, rfl, by decide, by decide, by decide, hin6, wmi 120 (by decide +kernel) (by decide +kernel), tyX6_ok, nmX6, rfl, rfl⟩
theorem kf_RX6_31 : FP RX6 31 6 6 (.int) false := ⟨(RX6, TX6, 7), tyX6, rfl, by decide, by decide, by decide, hin6, wmi 121 (by decide +kernel) (by decide +kernel), tyX6_ok, nmX6, rfl, rfl⟩
theorem kf_RX6_9 : FP RX6 9 6 0 (.array .int) true := ⟨(RX6, TX6, 7), tyX6, rfl, by decide, by decide, by decide, hin6, wmi 115 (by decide +kernel) (by decide +kernel), tyX6_ok, nmX6, rfl, rfl⟩
theorem kf_RX7_15 : FP RX7 15 7 1 (.int) false := ⟨(RX7, TX7, 2), tyX7, rfl, by decide, by decide, by decide, hin7, wmi 100 (by decide +kernel) (by decide +kernel), tyX7_ok, nmX7, rfl, rfl⟩
theorem kf_RX7_9 : FP RX7 9 7 0 (.array .int) true := ⟨(RX7, TX7, 2), tyX7, rfl, by decide, by decide, by decide, hin7, wmi 99 (by decide +kernel) (by decide +kernel), tyX7_ok, nmX7, rfl, rfl⟩
theorem kf_RX8_111 : FP RX8 111 4 2 (.int) true := ⟨(RX4, TX4, 6), tyX4, rfl, by decide, by decide, by decide, hin4, wmi 242 (by decide +kernel) (by decide +kernel), tyX4_ok, nmX4, rfl, rfl⟩
theorem kf_RX8_12 : FP RX8 12 8 0 (.object "PaperRows$Rows") true := ⟨(RX8, TX8, 13), tyX8, rfl, by decide, by decide, by decide, hin8, wmi 153 (by decide +kernel) (by decide +kernel), tyX8_ok, nmX8, rfl, rfl⟩
theorem kf_RX8_125 : FP RX8 125 4 1 (.int) true := ⟨(RX4, TX4, 6), tyX4, rfl, by decide, by decide, by decide, hin4, wmi 239 (by decide +kernel) (by decide +kernel), tyX4_ok, nmX4, rfl, rfl⟩
theorem kf_RX8_128 : FP RX8 128 4 3 (.int) true := ⟨(RX4, TX4, 6), tyX4, rfl, by decide, by decide, by decide, hin4, wmi 245 (by decide +kernel) (by decide +kernel), tyX4_ok, nmX4, rfl, rfl⟩
theorem kf_RX8_131 : FP RX8 131 4 4 (.int) true := ⟨(RX4, TX4, 6), tyX4, rfl, by decide, by decide, by decide, hin4, wmi 247 (by decide +kernel) (by decide +kernel), tyX4_ok, nmX4, rfl, rfl⟩
theorem kf_RX8_134 : FP RX8 134 4 5 (.boolean) true := ⟨(RX4, TX4, 6), tyX4, rfl, by decide, by decide, by decide, hin4, wmi 250 (by decide +kernel) (by decide +kernel), tyX4_ok, nmX4, rfl, rfl⟩
theorem kf_RX8_183 : FP RX8 183 3 0 (.int) true := ⟨(RX3, TX3, 2), tyX3, rfl, by decide, by decide, by decide, hin3, wmi 593 (by decide +kernel) (by decide +kernel), tyX3_ok, nmX3, rfl, rfl⟩
theorem kf_RX8_186 : FP RX8 186 3 1 (.object "PaperRows$Paper") true := ⟨(RX3, TX3, 2), tyX3, rfl, by decide, by decide, by decide, hin3, wmi 595 (by decide +kernel) (by decide +kernel), tyX3_ok, nmX3, rfl, rfl⟩
theorem kf_RX8_19 : FP RX8 19 8 1 (.object "PaperRows$History") true := ⟨(RX8, TX8, 13), tyX8, rfl, by decide, by decide, by decide, hin8, wmi 154 (by decide +kernel) (by decide +kernel), tyX8_ok, nmX8, rfl, rfl⟩
theorem kf_RX8_211 : FP RX8 211 4 0 (.int) true := ⟨(RX4, TX4, 6), tyX4, rfl, by decide, by decide, by decide, hin4, wmi 237 (by decide +kernel) (by decide +kernel), tyX4_ok, nmX4, rfl, rfl⟩
theorem kf_RX8_26 : FP RX8 26 8 2 (.object "PaperRows$Tape") true := ⟨(RX8, TX8, 13), tyX8, rfl, by decide, by decide, by decide, hin8, wmi 155 (by decide +kernel) (by decide +kernel), tyX8_ok, nmX8, rfl, rfl⟩
theorem kf_RX8_32 : FP RX8 32 8 3 (.array (.object "PaperRows$Reader")) true := ⟨(RX8, TX8, 13), tyX8, rfl, by decide, by decide, by decide, hin8, wmi 156 (by decide +kernel) (by decide +kernel), tyX8_ok, nmX8, rfl, rfl⟩
theorem kf_RX8_39 : FP RX8 39 8 4 (.object "PaperRows$Shape") false := ⟨(RX8, TX8, 13), tyX8, rfl, by decide, by decide, by decide, hin8, wmi 157 (by decide +kernel) (by decide +kernel), tyX8_ok, nmX8, rfl, rfl⟩
theorem kf_RX8_43 : FP RX8 43 8 5 (.int) false := ⟨(RX8, TX8, 13), tyX8, rfl, by decide, by decide, by decide, hin8, wmi 158 (by decide +kernel) (by decide +kernel), tyX8_ok, nmX8, rfl, rfl⟩
theorem kf_RX8_47 : FP RX8 47 8 6 (.int) false := ⟨(RX8, TX8, 13), tyX8, rfl, by decide, by decide, by decide, hin8, wmi 159 (by decide +kernel) (by decide +kernel), tyX8_ok, nmX8, rfl, rfl⟩
theorem kf_RX8_50 : FP RX8 50 8 7 (.int) false := ⟨(RX8, TX8, 13), tyX8, rfl, by decide, by decide, by decide, hin8, wmi 160 (by decide +kernel) (by decide +kernel), tyX8_ok, nmX8, rfl, rfl⟩
theorem kf_RX8_53 : FP RX8 53 8 8 (.int) false := ⟨(RX8, TX8, 13), tyX8, rfl, by decide, by decide, by decide, hin8, wmi 161 (by decide +kernel) (by decide +kernel), tyX8_ok, nmX8, rfl, rfl⟩
theorem kf_RX8_56 : FP RX8 56 8 9 (.object "PaperRows$Shape") false := ⟨(RX8, TX8, 13), tyX8, rfl, by decide, by decide, by decide, hin8, wmi 162 (by decide +kernel) (by decide +kernel), tyX8_ok, nmX8, rfl, rfl⟩
theorem kf_RX8_59 : FP RX8 59 8 10 (.object "PaperRows$Rows") true := ⟨(RX8, TX8, 13), tyX8, rfl, by decide, by decide, by decide, hin8, wmi 163 (by decide +kernel) (by decide +kernel), tyX8_ok, nmX8, rfl, rfl⟩
theorem kf_RX8_65 : FP RX8 65 8 11 (.object "PaperRows$Paper") true := ⟨(RX8, TX8, 13), tyX8, rfl, by decide, by decide, by decide, hin8, wmi 164 (by decide +kernel) (by decide +kernel), tyX8_ok, nmX8, rfl, rfl⟩
theorem kf_RX8_69 : FP RX8 69 8 12 (.object "PaperRows$Paper") true := ⟨(RX8, TX8, 13), tyX8, rfl, by decide, by decide, by decide, hin8, wmi 165 (by decide +kernel) (by decide +kernel), tyX8_ok, nmX8, rfl, rfl⟩
theorem kf_RX9_102 : FP RX9 102 9 45 (.array .int) true := ⟨(RX9, TX9, 55), tyX9, rfl, by decide, by decide, by decide, hin9, wmi 738 (by decide +kernel) (by decide +kernel), tyX9_ok, nmX9, rfl, rfl⟩
theorem kf_RX9_105 : FP RX9 105 9 46 (.array .int) true := ⟨(RX9, TX9, 55), tyX9, rfl, by decide, by decide, by decide, hin9, wmi 739 (by decide +kernel) (by decide +kernel), tyX9_ok, nmX9, rfl, rfl⟩
theorem kf_RX9_108 : FP RX9 108 9 49 (.array .int) true := ⟨(RX9, TX9, 55), tyX9, rfl, by decide, by decide, by decide, hin9, wmi 742 (by decide +kernel) (by decide +kernel), tyX9_ok, nmX9, rfl, rfl⟩
theorem kf_RX9_111 : FP RX9 111 9 50 (.array .int) true := ⟨(RX9, TX9, 55), tyX9, rfl, by decide, by decide, by decide, hin9, wmi 743 (by decide +kernel) (by decide +kernel), tyX9_ok, nmX9, rfl, rfl⟩
theorem kf_RX9_114 : FP RX9 114 9 51 (.array .int) true := ⟨(RX9, TX9, 55), tyX9, rfl, by decide, by decide, by decide, hin9, wmi 744 (by decide +kernel) (by decide +kernel), tyX9_ok, nmX9, rfl, rfl⟩
theorem kf_RX9_117 : FP RX9 117 9 52 (.array .int) true := ⟨(RX9, TX9, 55), tyX9, rfl, by decide, by decide, by decide, hin9, wmi 745 (by decide +kernel) (by decide +kernel), tyX9_ok, nmX9, rfl, rfl⟩
theorem kf_RX9_120 : FP RX9 120 9 54 (.array .int) true := ⟨(RX9, TX9, 55), tyX9, rfl, by decide, by decide, by decide, hin9, wmi 747 (by decide +kernel) (by decide +kernel), tyX9_ok, nmX9, rfl, rfl⟩
theorem kf_RX9_123 : FP RX9 123 9 0 (.int) false := ⟨(RX9, TX9, 55), tyX9, rfl, by decide, by decide, by decide, hin9, wmi 693 (by decide +kernel) (by decide +kernel), tyX9_ok, nmX9, rfl, rfl⟩
theorem kf_RX9_126 : FP RX9 126 9 1 (.int) false := ⟨(RX9, TX9, 55), tyX9, rfl, by decide, by decide, by decide, hin9, wmi 694 (by decide +kernel) (by decide +kernel), tyX9_ok, nmX9, rfl, rfl⟩
theorem kf_RX9_129 : FP RX9 129 9 2 (.int) false := ⟨(RX9, TX9, 55), tyX9, rfl, by decide, by decide, by decide, hin9, wmi 695 (by decide +kernel) (by decide +kernel), tyX9_ok, nmX9, rfl, rfl⟩
theorem kf_RX9_13 : FP RX9 13 9 4 (.array .int) true := ⟨(RX9, TX9, 55), tyX9, rfl, by decide, by decide, by decide, hin9, wmi 697 (by decide +kernel) (by decide +kernel), tyX9_ok, nmX9, rfl, rfl⟩
theorem kf_RX9_136 : FP RX9 136 9 9 (.int) false := ⟨(RX9, TX9, 55), tyX9, rfl, by decide, by decide, by decide, hin9, wmi 702 (by decide +kernel) (by decide +kernel), tyX9_ok, nmX9, rfl, rfl⟩
theorem kf_RX9_16 : FP RX9 16 9 5 (.array .int) true := ⟨(RX9, TX9, 55), tyX9, rfl, by decide, by decide, by decide, hin9, wmi 698 (by decide +kernel) (by decide +kernel), tyX9_ok, nmX9, rfl, rfl⟩
theorem kf_RX9_164 : FP RX9 164 9 33 (.int) false := ⟨(RX9, TX9, 55), tyX9, rfl, by decide, by decide, by decide, hin9, wmi 726 (by decide +kernel) (by decide +kernel), tyX9_ok, nmX9, rfl, rfl⟩
theorem kf_RX9_170 : FP RX9 170 9 35 (.int) false := ⟨(RX9, TX9, 55), tyX9, rfl, by decide, by decide, by decide, hin9, wmi 728 (by decide +kernel) (by decide +kernel), tyX9_ok, nmX9, rfl, rfl⟩
theorem kf_RX9_173 : FP RX9 173 9 34 (.int) false := ⟨(RX9, TX9, 55), tyX9, rfl, by decide, by decide, by decide, hin9, wmi 727 (by decide +kernel) (by decide +kernel), tyX9_ok, nmX9, rfl, rfl⟩
theorem kf_RX9_176 : FP RX9 176 9 37 (.long) false := ⟨(RX9, TX9, 55), tyX9, rfl, by decide, by decide, by decide, hin9, wmi 730 (by decide +kernel) (by decide +kernel), tyX9_ok, nmX9, rfl, rfl⟩
theorem kf_RX9_186 : FP RX9 186 9 36 (.int) false := ⟨(RX9, TX9, 55), tyX9, rfl, by decide, by decide, by decide, hin9, wmi 729 (by decide +kernel) (by decide +kernel), tyX9_ok, nmX9, rfl, rfl⟩
theorem kf_RX9_19 : FP RX9 19 9 6 (.array .int) true := ⟨(RX9, TX9, 55), tyX9, rfl, by decide, by decide, by decide, hin9, wmi 699 (by decide +kernel) (by decide +kernel), tyX9_ok, nmX9, rfl, rfl⟩
theorem kf_RX9_199 : FP RX9 199 9 39 (.boolean) false := ⟨(RX9, TX9, 55), tyX9, rfl, by decide, by decide, by decide, hin9, wmi 732 (by decide +kernel) (by decide +kernel), tyX9_ok, nmX9, rfl, rfl⟩
theorem kf_RX9_208 : FP RX9 208 9 21 (.int) false := ⟨(RX9, TX9, 55), tyX9, rfl, by decide, by decide, by decide, hin9, wmi 714 (by decide +kernel) (by decide +kernel), tyX9_ok, nmX9, rfl, rfl⟩
theorem kf_RX9_218 : FP RX9 218 9 31 (.int) false := ⟨(RX9, TX9, 55), tyX9, rfl, by decide, by decide, by decide, hin9, wmi 724 (by decide +kernel) (by decide +kernel), tyX9_ok, nmX9, rfl, rfl⟩
theorem kf_RX9_22 : FP RX9 22 9 7 (.array .int) true := ⟨(RX9, TX9, 55), tyX9, rfl, by decide, by decide, by decide, hin9, wmi 700 (by decide +kernel) (by decide +kernel), tyX9_ok, nmX9, rfl, rfl⟩
theorem kf_RX9_225 : FP RX9 225 9 22 (.int) false := ⟨(RX9, TX9, 55), tyX9, rfl, by decide, by decide, by decide, hin9, wmi 715 (by decide +kernel) (by decide +kernel), tyX9_ok, nmX9, rfl, rfl⟩
theorem kf_RX9_235 : FP RX9 235 9 14 (.int) false := ⟨(RX9, TX9, 55), tyX9, rfl, by decide, by decide, by decide, hin9, wmi 707 (by decide +kernel) (by decide +kernel), tyX9_ok, nmX9, rfl, rfl⟩
theorem kf_RX9_238 : FP RX9 238 9 40 (.int) false := ⟨(RX9, TX9, 55), tyX9, rfl, by decide, by decide, by decide, hin9, wmi 733 (by decide +kernel) (by decide +kernel), tyX9_ok, nmX9, rfl, rfl⟩
theorem kf_RX9_245 : FP RX9 245 9 47 (.int) false := ⟨(RX9, TX9, 55), tyX9, rfl, by decide, by decide, by decide, hin9, wmi 740 (by decide +kernel) (by decide +kernel), tyX9_ok, nmX9, rfl, rfl⟩
theorem kf_RX9_25 : FP RX9 25 9 8 (.array .int) true := ⟨(RX9, TX9, 55), tyX9, rfl, by decide, by decide, by decide, hin9, wmi 701 (by decide +kernel) (by decide +kernel), tyX9_ok, nmX9, rfl, rfl⟩
theorem kf_RX9_265 : FP RX9 265 9 48 (.int) false := ⟨(RX9, TX9, 55), tyX9, rfl, by decide, by decide, by decide, hin9, wmi 741 (by decide +kernel) (by decide +kernel), tyX9_ok, nmX9, rfl, rfl⟩
theorem kf_RX9_271 : FP RX9 271 9 53 (.int) false := ⟨(RX9, TX9, 55), tyX9, rfl, by decide, by decide, by decide, hin9, wmi 746 (by decide +kernel) (by decide +kernel), tyX9_ok, nmX9, rfl, rfl⟩
theorem kf_RX9_28 : FP RX9 28 9 10 (.array .int) true := ⟨(RX9, TX9, 55), tyX9, rfl, by decide, by decide, by decide, hin9, wmi 703 (by decide +kernel) (by decide +kernel), tyX9_ok, nmX9, rfl, rfl⟩
theorem kf_RX9_31 : FP RX9 31 9 11 (.array .int) true := ⟨(RX9, TX9, 55), tyX9, rfl, by decide, by decide, by decide, hin9, wmi 704 (by decide +kernel) (by decide +kernel), tyX9_ok, nmX9, rfl, rfl⟩
theorem kf_RX9_34 : FP RX9 34 9 12 (.array .int) true := ⟨(RX9, TX9, 55), tyX9, rfl, by decide, by decide, by decide, hin9, wmi 705 (by decide +kernel) (by decide +kernel), tyX9_ok, nmX9, rfl, rfl⟩
theorem kf_RX9_37 : FP RX9 37 9 13 (.array .boolean) true := ⟨(RX9, TX9, 55), tyX9, rfl, by decide, by decide, by decide, hin9, wmi 706 (by decide +kernel) (by decide +kernel), tyX9_ok, nmX9, rfl, rfl⟩
theorem kf_RX9_41 : FP RX9 41 9 15 (.array .int) true := ⟨(RX9, TX9, 55), tyX9, rfl, by decide, by decide, by decide, hin9, wmi 708 (by decide +kernel) (by decide +kernel), tyX9_ok, nmX9, rfl, rfl⟩
theorem kf_RX9_44 : FP RX9 44 9 16 (.array .int) true := ⟨(RX9, TX9, 55), tyX9, rfl, by decide, by decide, by decide, hin9, wmi 709 (by decide +kernel) (by decide +kernel), tyX9_ok, nmX9, rfl, rfl⟩
theorem kf_RX9_47 : FP RX9 47 9 17 (.array .int) true := ⟨(RX9, TX9, 55), tyX9, rfl, by decide, by decide, by decide, hin9, wmi 710 (by decide +kernel) (by decide +kernel), tyX9_ok, nmX9, rfl, rfl⟩
theorem kf_RX9_50 : FP RX9 50 9 18 (.array .int) true := ⟨(RX9, TX9, 55), tyX9, rfl, by decide, by decide, by decide, hin9, wmi 711 (by decide +kernel) (by decide +kernel), tyX9_ok, nmX9, rfl, rfl⟩
theorem kf_RX9_53 : FP RX9 53 9 19 (.array .int) true := ⟨(RX9, TX9, 55), tyX9, rfl, by decide, by decide, by decide, hin9, wmi 712 (by decide +kernel) (by decide +kernel), tyX9_ok, nmX9, rfl, rfl⟩
theorem kf_RX9_56 : FP RX9 56 9 20 (.array .int) true := ⟨(RX9, TX9, 55), tyX9, rfl, by decide, by decide, by decide, hin9, wmi 713 (by decide +kernel) (by decide +kernel), tyX9_ok, nmX9, rfl, rfl⟩
theorem kf_RX9_59 : FP RX9 59 9 23 (.array .int) true := ⟨(RX9, TX9, 55), tyX9, rfl, by decide, by decide, by decide, hin9, wmi 716 (by decide +kernel) (by decide +kernel), tyX9_ok, nmX9, rfl, rfl⟩
theorem kf_RX9_62 : FP RX9 62 9 24 (.array .int) true := ⟨(RX9, TX9, 55), tyX9, rfl, by decide, by decide, by decide, hin9, wmi 717 (by decide +kernel) (by decide +kernel), tyX9_ok, nmX9, rfl, rfl⟩
theorem kf_RX9_65 : FP RX9 65 9 25 (.array .int) true := ⟨(RX9, TX9, 55), tyX9, rfl, by decide, by decide, by decide, hin9, wmi 718 (by decide +kernel) (by decide +kernel), tyX9_ok, nmX9, rfl, rfl⟩
theorem kf_RX9_68 : FP RX9 68 9 26 (.array .int) true := ⟨(RX9, TX9, 55), tyX9, rfl, by decide, by decide, by decide, hin9, wmi 719 (by decide +kernel) (by decide +kernel), tyX9_ok, nmX9, rfl, rfl⟩
theorem kf_RX9_7 : FP RX9 7 9 3 (.array .int) true := ⟨(RX9, TX9, 55), tyX9, rfl, by decide, by decide, by decide, hin9, wmi 696 (by decide +kernel) (by decide +kernel), tyX9_ok, nmX9, rfl, rfl⟩
theorem kf_RX9_71 : FP RX9 71 9 27 (.array .int) true := ⟨(RX9, TX9, 55), tyX9, rfl, by decide, by decide, by decide, hin9, wmi 720 (by decide +kernel) (by decide +kernel), tyX9_ok, nmX9, rfl, rfl⟩
theorem kf_RX9_74 : FP RX9 74 9 28 (.array .int) true := ⟨(RX9, TX9, 55), tyX9, rfl, by decide, by decide, by decide, hin9, wmi 721 (by decide +kernel) (by decide +kernel), tyX9_ok, nmX9, rfl, rfl⟩
theorem kf_RX9_77 : FP RX9 77 9 29 (.array .int) true := ⟨(RX9, TX9, 55), tyX9, rfl, by decide, by decide, by decide, hin9, wmi 722 (by decide +kernel) (by decide +kernel), tyX9_ok, nmX9, rfl, rfl⟩
theorem kf_RX9_80 : FP RX9 80 9 30 (.array .int) true := ⟨(RX9, TX9, 55), tyX9, rfl, by decide, by decide, by decide, hin9, wmi 723 (by decide +kernel) (by decide +kernel), tyX9_ok, nmX9, rfl, rfl⟩
theorem kf_RX9_83 : FP RX9 83 9 32 (.array .int) true := ⟨(RX9, TX9, 55), tyX9, rfl, by decide, by decide, by decide, hin9, wmi 725 (by decide +kernel) (by decide +kernel), tyX9_ok, nmX9, rfl, rfl⟩
theorem kf_RX9_86 : FP RX9 86 9 38 (.int) false := ⟨(RX9, TX9, 55), tyX9, rfl, by decide, by decide, by decide, hin9, wmi 731 (by decide +kernel) (by decide +kernel), tyX9_ok, nmX9, rfl, rfl⟩
theorem kf_RX9_90 : FP RX9 90 9 41 (.array .int) true := ⟨(RX9, TX9, 55), tyX9, rfl, by decide, by decide, by decide, hin9, wmi 734 (by decide +kernel) (by decide +kernel), tyX9_ok, nmX9, rfl, rfl⟩
theorem kf_RX9_93 : FP RX9 93 9 42 (.array .int) true := ⟨(RX9, TX9, 55), tyX9, rfl, by decide, by decide, by decide, hin9, wmi 735 (by decide +kernel) (by decide +kernel), tyX9_ok, nmX9, rfl, rfl⟩
theorem kf_RX9_96 : FP RX9 96 9 43 (.array .boolean) true := ⟨(RX9, TX9, 55), tyX9, rfl, by decide, by decide, by decide, hin9, wmi 736 (by decide +kernel) (by decide +kernel), tyX9_ok, nmX9, rfl, rfl⟩
theorem kf_RX9_99 : FP RX9 99 9 44 (.array .int) true := ⟨(RX9, TX9, 55), tyX9, rfl, by decide, by decide, by decide, hin9, wmi 737 (by decide +kernel) (by decide +kernel), tyX9_ok, nmX9, rfl, rfl⟩
theorem kc_X0_init : Cond.code yX0_init cX0_init 1 none ∈ wAll := wmi 83 (by decide +kernel) (by decide +kernel)
theorem ki_X0_init : Cond.instanceMethod yX0_init ∈ wAll := wmi 82 (by decide +kernel) (by decide +kernel)
theorem kc_X0_add : Cond.code yX0_add cX0_add 2 none ∈ wAll := wmi 278 (by decide +kernel) (by decide +kernel)
theorem ki_X0_add : Cond.instanceMethod yX0_add ∈ wAll := wmi 276 (by decide +kernel) (by decide +kernel)
theorem ks_X0_add : Cond.selects yX0_add.cls yX0_add yX0_add ∈ lw_tbl := List.mem_of_getElem? (i := 277) (by decide +kernel)
theorem ksg_X0_add : goodWord (Cond.selects yX0_add.cls yX0_add yX0_add) = true := by decide +kernel
theorem kc_X0_isFull : Cond.code yX0_isFull cX0_isFull 1 (some .boolean) ∈ wAll := wmi 223 (by decide +kernel) (by decide +kernel)
theorem ki_X0_isFull : Cond.instanceMethod yX0_isFull ∈ wAll := wmi 221 (by decide +kernel) (by decide +kernel)
theorem ks_X0_isFull : Cond.selects yX0_isFull.cls yX0_isFull yX0_isFull ∈ lw_tbl := List.mem_of_getElem? (i := 222) (by decide +kernel)
theorem ksg_X0_isFull : goodWord (Cond.selects yX0_isFull.cls yX0_isFull yX0_isFull) = true := by decide +kernel
theorem kc_X0_length : Cond.code yX0_length cX0_length 1 (some .int) ∈ wAll := wmi 656 (by decide +kernel) (by decide +kernel)
theorem ki_X0_length : Cond.instanceMethod yX0_length ∈ wAll := wmi 654 (by decide +kernel) (by decide +kernel)
theorem ks_X0_length : Cond.selects yX0_length.cls yX0_length yX0_length ∈ lw_tbl := List.mem_of_getElem? (i := 655) (by decide +kernel)
theorem ksg_X0_length : goodWord (Cond.selects yX0_length.cls yX0_length yX0_length) = true := by decide +kernel
theorem kc_X0_replay : Cond.code yX0_replay cX0_replay 5 none ∈ wAll := wmi 660 (by decide +kernel) (by decide +kernel)
theorem ki_X0_replay : Cond.instanceMethod yX0_replay ∈ wAll := wmi 658 (by decide +kernel) (by decide +kernel)
theorem ks_X0_replay : Cond.selects yX0_replay.cls yX0_replay yX0_replay ∈ lw_tbl := List.mem_of_getElem? (i := 659) (by decide +kernel)
theorem ksg_X0_replay : goodWord (Cond.selects yX0_replay.cls yX0_replay yX0_replay) = true := by decide +kernel
theorem kc_X1_init : Cond.code yX1_init cX1_init 1 none ∈ wAll := wmi 141 (by decide +kernel) (by decide +kernel)
theorem ki_X1_init : Cond.instanceMethod yX1_init ∈ wAll := wmi 140 (by decide +kernel) (by decide +kernel)
theorem kc_X1_add : Cond.code yX1_add cX1_add 2 none ∈ wAll := wmi 521 (by decide +kernel) (by decide +kernel)
theorem ki_X1_add : Cond.instanceMethod yX1_add ∈ wAll := wmi 520 (by decide +kernel) (by decide +kernel)
theorem ks_X1_add : Cond.selects yX1_add.cls yX1_add yX1_add ∈ lw_tbl := List.mem_of_getElem? (i := 16) (by decide +kernel)
theorem ksg_X1_add : goodWord (Cond.selects yX1_add.cls yX1_add yX1_add) = true := by decide +kernel
theorem kc_X1_addDown : Cond.code yX1_addDown cX1_addDown 11 none ∈ wAll := wmi 557 (by decide +kernel) (by decide +kernel)
theorem ki_X1_addDown : Cond.instanceMethod yX1_addDown ∈ wAll := wmi 556 (by decide +kernel) (by decide +kernel)
theorem ks_X1_addDown : Cond.selects yX1_addDown.cls yX1_addDown yX1_addDown ∈ lw_tbl := List.mem_of_getElem? (i := 19) (by decide +kernel)
theorem ksg_X1_addDown : goodWord (Cond.selects yX1_addDown.cls yX1_addDown yX1_addDown) = true := by decide +kernel
theorem kc_X1_addPart : Cond.code yX1_addPart cX1_addPart 11 none ∈ wAll := wmi 513 (by decide +kernel) (by decide +kernel)
theorem ki_X1_addPart : Cond.instanceMethod yX1_addPart ∈ wAll := wmi 512 (by decide +kernel) (by decide +kernel)
theorem ks_X1_addPart : Cond.selects yX1_addPart.cls yX1_addPart yX1_addPart ∈ lw_tbl := List.mem_of_getElem? (i := 14) (by decide +kernel)
theorem ksg_X1_addPart : goodWord (Cond.selects yX1_addPart.cls yX1_addPart yX1_addPart) = true := by decide +kernel
theorem kc_X1_addUp : Cond.code yX1_addUp cX1_addUp 8 none ∈ wAll := wmi 541 (by decide +kernel) (by decide +kernel)
theorem ki_X1_addUp : Cond.instanceMethod yX1_addUp ∈ wAll := wmi 540 (by decide +kernel) (by decide +kernel)
theorem ks_X1_addUp : Cond.selects yX1_addUp.cls yX1_addUp yX1_addUp ∈ lw_tbl := List.mem_of_getElem? (i := 18) (by decide +kernel)
theorem ksg_X1_addUp : goodWord (Cond.selects yX1_addUp.cls yX1_addUp yX1_addUp) = true := by decide +kernel
theorem kc_X1_at : Cond.code yX1_at cX1_at 2 (some .int) ∈ wAll := wmi 570 (by decide +kernel) (by decide +kernel)
theorem ki_X1_at : Cond.instanceMethod yX1_at ∈ wAll := wmi 568 (by decide +kernel) (by decide +kernel)
theorem ks_X1_at : Cond.selects yX1_at.cls yX1_at yX1_at ∈ lw_tbl := List.mem_of_getElem? (i := 569) (by decide +kernel)
theorem ksg_X1_at : goodWord (Cond.selects yX1_at.cls yX1_at yX1_at) = true := by decide +kernel
theorem kc_X1_gather : Cond.code yX1_gather cX1_gather 5 none ∈ wAll := wmi 504 (by decide +kernel) (by decide +kernel)
theorem ki_X1_gather : Cond.instanceMethod yX1_gather ∈ wAll := wmi 502 (by decide +kernel) (by decide +kernel)
theorem ks_X1_gather : Cond.selects yX1_gather.cls yX1_gather yX1_gather ∈ lw_tbl := List.mem_of_getElem? (i := 503) (by decide +kernel)
theorem ksg_X1_gather : goodWord (Cond.selects yX1_gather.cls yX1_gather yX1_gather) = true := by decide +kernel
theorem kc_X1_hasMarksOf : Cond.code yX1_hasMarksOf cX1_hasMarksOf 3 (some .boolean) ∈ wAll := wmi 608 (by decide +kernel) (by decide +kernel)
theorem ki_X1_hasMarksOf : Cond.instanceMethod yX1_hasMarksOf ∈ wAll := wmi 606 (by decide +kernel) (by decide +kernel)
theorem ks_X1_hasMarksOf : Cond.selects yX1_hasMarksOf.cls yX1_hasMarksOf yX1_hasMarksOf ∈ lw_tbl := List.mem_of_getElem? (i := 607) (by decide +kernel)
theorem ksg_X1_hasMarksOf : goodWord (Cond.selects yX1_hasMarksOf.cls yX1_hasMarksOf yX1_hasMarksOf) = true := by decide +kernel
theorem kc_X1_isFull : Cond.code yX1_isFull cX1_isFull 1 (some .boolean) ∈ wAll := wmi 517 (by decide +kernel) (by decide +kernel)
theorem ki_X1_isFull : Cond.instanceMethod yX1_isFull ∈ wAll := wmi 516 (by decide +kernel) (by decide +kernel)
theorem ks_X1_isFull : Cond.selects yX1_isFull.cls yX1_isFull yX1_isFull ∈ lw_tbl := List.mem_of_getElem? (i := 15) (by decide +kernel)
theorem ksg_X1_isFull : goodWord (Cond.selects yX1_isFull.cls yX1_isFull yX1_isFull) = true := by decide +kernel
theorem kc_X1_isValueAt : Cond.code yX1_isValueAt cX1_isValueAt 2 (some .boolean) ∈ wAll := wmi 633 (by decide +kernel) (by decide +kernel)
theorem ki_X1_isValueAt : Cond.instanceMethod yX1_isValueAt ∈ wAll := wmi 631 (by decide +kernel) (by decide +kernel)
theorem ks_X1_isValueAt : Cond.selects yX1_isValueAt.cls yX1_isValueAt yX1_isValueAt ∈ lw_tbl := List.mem_of_getElem? (i := 632) (by decide +kernel)
theorem ksg_X1_isValueAt : goodWord (Cond.selects yX1_isValueAt.cls yX1_isValueAt yX1_isValueAt) = true := by decide +kernel
theorem kc_X1_length : Cond.code yX1_length cX1_length 1 (some .int) ∈ wAll := wmi 562 (by decide +kernel) (by decide +kernel)
theorem ki_X1_length : Cond.instanceMethod yX1_length ∈ wAll := wmi 560 (by decide +kernel) (by decide +kernel)
theorem ks_X1_length : Cond.selects yX1_length.cls yX1_length yX1_length ∈ lw_tbl := List.mem_of_getElem? (i := 561) (by decide +kernel)
theorem ksg_X1_length : goodWord (Cond.selects yX1_length.cls yX1_length yX1_length) = true := by decide +kernel
theorem kc_X1_put : Cond.code yX1_put cX1_put 3 none ∈ wAll := wmi 644 (by decide +kernel) (by decide +kernel)
theorem ki_X1_put : Cond.instanceMethod yX1_put ∈ wAll := wmi 642 (by decide +kernel) (by decide +kernel)
theorem ks_X1_put : Cond.selects yX1_put.cls yX1_put yX1_put ∈ lw_tbl := List.mem_of_getElem? (i := 643) (by decide +kernel)
theorem ksg_X1_put : goodWord (Cond.selects yX1_put.cls yX1_put yX1_put) = true := by decide +kernel
theorem kc_X1_rowAround : Cond.code yX1_rowAround cX1_rowAround 5 (some .int) ∈ wAll := wmi 638 (by decide +kernel) (by decide +kernel)
theorem ki_X1_rowAround : Cond.instanceMethod yX1_rowAround ∈ wAll := wmi 636 (by decide +kernel) (by decide +kernel)
theorem ks_X1_rowAround : Cond.selects yX1_rowAround.cls yX1_rowAround yX1_rowAround ∈ lw_tbl := List.mem_of_getElem? (i := 637) (by decide +kernel)
theorem ksg_X1_rowAround : goodWord (Cond.selects yX1_rowAround.cls yX1_rowAround yX1_rowAround) = true := by decide +kernel
theorem kc_X1_takeFrom : Cond.code yX1_takeFrom cX1_takeFrom 3 none ∈ wAll := wmi 613 (by decide +kernel) (by decide +kernel)
theorem ki_X1_takeFrom : Cond.instanceMethod yX1_takeFrom ∈ wAll := wmi 611 (by decide +kernel) (by decide +kernel)
theorem ks_X1_takeFrom : Cond.selects yX1_takeFrom.cls yX1_takeFrom yX1_takeFrom ∈ lw_tbl := List.mem_of_getElem? (i := 612) (by decide +kernel)
theorem ksg_X1_takeFrom : goodWord (Cond.selects yX1_takeFrom.cls yX1_takeFrom yX1_takeFrom) = true := by decide +kernel
theorem kc_X2_init : Cond.code yX2_init cX2_init 3 none ∈ wAll := wmi 354 (by decide +kernel) (by decide +kernel)
theorem ki_X2_init : Cond.instanceMethod yX2_init ∈ wAll := wmi 353 (by decide +kernel) (by decide +kernel)
theorem kc_X2_advance : Cond.code yX2_advance cX2_advance 4 none ∈ wAll := wmi 376 (by decide +kernel) (by decide +kernel)
theorem ki_X2_advance : Cond.instanceMethod yX2_advance ∈ wAll := wmi 375 (by decide +kernel) (by decide +kernel)
theorem ks_X2_advance : Cond.selects yX2_advance.cls yX2_advance yX2_advance ∈ lw_tbl := List.mem_of_getElem? (i := 5) (by decide +kernel)
theorem ksg_X2_advance : goodWord (Cond.selects yX2_advance.cls yX2_advance yX2_advance) = true := by decide +kernel
theorem kc_X2_isAtEnd : Cond.code yX2_isAtEnd cX2_isAtEnd 1 (some .boolean) ∈ wAll := wmi 485 (by decide +kernel) (by decide +kernel)
theorem ki_X2_isAtEnd : Cond.instanceMethod yX2_isAtEnd ∈ wAll := wmi 484 (by decide +kernel) (by decide +kernel)
theorem ks_X2_isAtEnd : Cond.selects yX2_isAtEnd.cls yX2_isAtEnd yX2_isAtEnd ∈ lw_tbl := List.mem_of_getElem? (i := 13) (by decide +kernel)
theorem ksg_X2_isAtEnd : goodWord (Cond.selects yX2_isAtEnd.cls yX2_isAtEnd yX2_isAtEnd) = true := by decide +kernel
theorem kc_X2_isDigit : Cond.code yX2_isDigit cX2_isDigit 1 (some .boolean) ∈ wAll := wmi 386 (by decide +kernel) (by decide +kernel)
theorem ki_X2_isDigit : Cond.static yX2_isDigit ∈ wAll := wmi 385 (by decide +kernel) (by decide +kernel)
theorem kc_X2_isLetter : Cond.code yX2_isLetter cX2_isLetter 1 (some .boolean) ∈ wAll := wmi 383 (by decide +kernel) (by decide +kernel)
theorem ki_X2_isLetter : Cond.static yX2_isLetter ∈ wAll := wmi 382 (by decide +kernel) (by decide +kernel)
theorem kc_X2_isSign : Cond.code yX2_isSign cX2_isSign 2 (some .boolean) ∈ wAll := wmi 410 (by decide +kernel) (by decide +kernel)
theorem ki_X2_isSign : Cond.instanceMethod yX2_isSign ∈ wAll := wmi 409 (by decide +kernel) (by decide +kernel)
theorem ks_X2_isSign : Cond.selects yX2_isSign.cls yX2_isSign yX2_isSign ∈ lw_tbl := List.mem_of_getElem? (i := 8) (by decide +kernel)
theorem ksg_X2_isSign : goodWord (Cond.selects yX2_isSign.cls yX2_isSign yX2_isSign) = true := by decide +kernel
theorem kc_X2_isWord : Cond.code yX2_isWord cX2_isWord 3 (some .boolean) ∈ wAll := wmi 423 (by decide +kernel) (by decide +kernel)
theorem ki_X2_isWord : Cond.instanceMethod yX2_isWord ∈ wAll := wmi 422 (by decide +kernel) (by decide +kernel)
theorem ks_X2_isWord : Cond.selects yX2_isWord.cls yX2_isWord yX2_isWord ∈ lw_tbl := List.mem_of_getElem? (i := 11) (by decide +kernel)
theorem ksg_X2_isWord : goodWord (Cond.selects yX2_isWord.cls yX2_isWord yX2_isWord) = true := by decide +kernel
theorem kc_X2_place : Cond.code yX2_place cX2_place 1 (some .int) ∈ wAll := wmi 490 (by decide +kernel) (by decide +kernel)
theorem ki_X2_place : Cond.instanceMethod yX2_place ∈ wAll := wmi 488 (by decide +kernel) (by decide +kernel)
theorem ks_X2_place : Cond.selects yX2_place.cls yX2_place yX2_place ∈ lw_tbl := List.mem_of_getElem? (i := 489) (by decide +kernel)
theorem ksg_X2_place : goodWord (Cond.selects yX2_place.cls yX2_place yX2_place) = true := by decide +kernel
theorem kc_X2_readItem : Cond.code yX2_readItem cX2_readItem 5 (some .boolean) ∈ wAll := wmi 418 (by decide +kernel) (by decide +kernel)
theorem ki_X2_readItem : Cond.instanceMethod yX2_readItem ∈ wAll := wmi 417 (by decide +kernel) (by decide +kernel)
theorem ks_X2_readItem : Cond.selects yX2_readItem.cls yX2_readItem yX2_readItem ∈ lw_tbl := List.mem_of_getElem? (i := 10) (by decide +kernel)
theorem ksg_X2_readItem : goodWord (Cond.selects yX2_readItem.cls yX2_readItem yX2_readItem) = true := by decide +kernel
theorem kc_X2_readItems : Cond.code yX2_readItems cX2_readItems 5 (some .boolean) ∈ wAll := wmi 414 (by decide +kernel) (by decide +kernel)
theorem ki_X2_readItems : Cond.instanceMethod yX2_readItems ∈ wAll := wmi 413 (by decide +kernel) (by decide +kernel)
theorem ks_X2_readItems : Cond.selects yX2_readItems.cls yX2_readItems yX2_readItems ∈ lw_tbl := List.mem_of_getElem? (i := 9) (by decide +kernel)
theorem ksg_X2_readItems : goodWord (Cond.selects yX2_readItems.cls yX2_readItems yX2_readItems) = true := by decide +kernel
theorem kc_X2_readPart : Cond.code yX2_readPart cX2_readPart 4 (some .boolean) ∈ wAll := wmi 390 (by decide +kernel) (by decide +kernel)
theorem ki_X2_readPart : Cond.instanceMethod yX2_readPart ∈ wAll := wmi 389 (by decide +kernel) (by decide +kernel)
theorem ks_X2_readPart : Cond.selects yX2_readPart.cls yX2_readPart yX2_readPart ∈ lw_tbl := List.mem_of_getElem? (i := 6) (by decide +kernel)
theorem ksg_X2_readPart : goodWord (Cond.selects yX2_readPart.cls yX2_readPart yX2_readPart) = true := by decide +kernel
theorem kc_X2_readText : Cond.code yX2_readText cX2_readText 1 (some .boolean) ∈ wAll := wmi 372 (by decide +kernel) (by decide +kernel)
theorem ki_X2_readText : Cond.instanceMethod yX2_readText ∈ wAll := wmi 370 (by decide +kernel) (by decide +kernel)
theorem ks_X2_readText : Cond.selects yX2_readText.cls yX2_readText yX2_readText ∈ lw_tbl := List.mem_of_getElem? (i := 371) (by decide +kernel)
theorem ksg_X2_readText : goodWord (Cond.selects yX2_readText.cls yX2_readText yX2_readText) = true := by decide +kernel
theorem kc_X2_referenceHere : Cond.code yX2_referenceHere cX2_referenceHere 2 (some .int) ∈ wAll := wmi 481 (by decide +kernel) (by decide +kernel)
theorem ki_X2_referenceHere : Cond.instanceMethod yX2_referenceHere ∈ wAll := wmi 480 (by decide +kernel) (by decide +kernel)
theorem ks_X2_referenceHere : Cond.selects yX2_referenceHere.cls yX2_referenceHere yX2_referenceHere ∈ lw_tbl := List.mem_of_getElem? (i := 12) (by decide +kernel)
theorem ksg_X2_referenceHere : goodWord (Cond.selects yX2_referenceHere.cls yX2_referenceHere yX2_referenceHere) = true := by decide +kernel
theorem kc_X2_tableHere : Cond.code yX2_tableHere cX2_tableHere 2 (some .int) ∈ wAll := wmi 394 (by decide +kernel) (by decide +kernel)
theorem ki_X2_tableHere : Cond.instanceMethod yX2_tableHere ∈ wAll := wmi 393 (by decide +kernel) (by decide +kernel)
theorem ks_X2_tableHere : Cond.selects yX2_tableHere.cls yX2_tableHere yX2_tableHere ∈ lw_tbl := List.mem_of_getElem? (i := 7) (by decide +kernel)
theorem ksg_X2_tableHere : goodWord (Cond.selects yX2_tableHere.cls yX2_tableHere yX2_tableHere) = true := by decide +kernel
theorem kc_X3_init : Cond.code yX3_init cX3_init 2 none ∈ wAll := wmi 588 (by decide +kernel) (by decide +kernel)
theorem ki_X3_init : Cond.instanceMethod yX3_init ∈ wAll := wmi 587 (by decide +kernel) (by decide +kernel)
theorem kc_X4_init : Cond.code yX4_init cX4_init 7 none ∈ wAll := wmi 232 (by decide +kernel) (by decide +kernel)
theorem ki_X4_init : Cond.instanceMethod yX4_init ∈ wAll := wmi 231 (by decide +kernel) (by decide +kernel)
theorem kc_X4_gone : Cond.code yX4_gone cX4_gone 1 (some (.object "PaperRows$Row")) ∈ wAll := wmi 308 (by decide +kernel) (by decide +kernel)
theorem ki_X4_gone : Cond.instanceMethod yX4_gone ∈ wAll := wmi 306 (by decide +kernel) (by decide +kernel)
theorem ks_X4_gone : Cond.selects yX4_gone.cls yX4_gone yX4_gone ∈ lw_tbl := List.mem_of_getElem? (i := 307) (by decide +kernel)
theorem ksg_X4_gone : goodWord (Cond.selects yX4_gone.cls yX4_gone yX4_gone) = true := by decide +kernel
theorem kc_X4_referenceBy : Cond.code yX4_referenceBy cX4_referenceBy 2 (some .int) ∈ wAll := wmi 553 (by decide +kernel) (by decide +kernel)
theorem ki_X4_referenceBy : Cond.instanceMethod yX4_referenceBy ∈ wAll := wmi 551 (by decide +kernel) (by decide +kernel)
theorem ks_X4_referenceBy : Cond.selects yX4_referenceBy.cls yX4_referenceBy yX4_referenceBy ∈ lw_tbl := List.mem_of_getElem? (i := 552) (by decide +kernel)
theorem ksg_X4_referenceBy : goodWord (Cond.selects yX4_referenceBy.cls yX4_referenceBy yX4_referenceBy) = true := by decide +kernel
theorem kc_X4_withReference : Cond.code yX4_withReference cX4_withReference 3 (some (.object "PaperRows$Row")) ∈ wAll := wmi 300 (by decide +kernel) (by decide +kernel)
theorem ki_X4_withReference : Cond.instanceMethod yX4_withReference ∈ wAll := wmi 298 (by decide +kernel) (by decide +kernel)
theorem ks_X4_withReference : Cond.selects yX4_withReference.cls yX4_withReference yX4_withReference ∈ lw_tbl := List.mem_of_getElem? (i := 299) (by decide +kernel)
theorem ksg_X4_withReference : goodWord (Cond.selects yX4_withReference.cls yX4_withReference yX4_withReference) = true := by decide +kernel
theorem kc_X4_withValue : Cond.code yX4_withValue cX4_withValue 2 (some (.object "PaperRows$Row")) ∈ wAll := wmi 290 (by decide +kernel) (by decide +kernel)
theorem ki_X4_withValue : Cond.instanceMethod yX4_withValue ∈ wAll := wmi 288 (by decide +kernel) (by decide +kernel)
theorem ks_X4_withValue : Cond.selects yX4_withValue.cls yX4_withValue yX4_withValue ∈ lw_tbl := List.mem_of_getElem? (i := 289) (by decide +kernel)
theorem ksg_X4_withValue : goodWord (Cond.selects yX4_withValue.cls yX4_withValue yX4_withValue) = true := by decide +kernel
theorem kc_X5_init : Cond.code yX5_init cX5_init 1 none ∈ wAll := wmi 68 (by decide +kernel) (by decide +kernel)
theorem ki_X5_init : Cond.instanceMethod yX5_init ∈ wAll := wmi 67 (by decide +kernel) (by decide +kernel)
theorem kc_X5_at : Cond.code yX5_at cX5_at 2 (some (.object "PaperRows$Row")) ∈ wAll := wmi 215 (by decide +kernel) (by decide +kernel)
theorem ki_X5_at : Cond.instanceMethod yX5_at ∈ wAll := wmi 213 (by decide +kernel) (by decide +kernel)
theorem ks_X5_at : Cond.selects yX5_at.cls yX5_at yX5_at ∈ lw_tbl := List.mem_of_getElem? (i := 214) (by decide +kernel)
theorem ksg_X5_at : goodWord (Cond.selects yX5_at.cls yX5_at yX5_at) = true := by decide +kernel
theorem kc_X5_clear : Cond.code yX5_clear cX5_clear 2 none ∈ wAll := wmi 652 (by decide +kernel) (by decide +kernel)
theorem ki_X5_clear : Cond.instanceMethod yX5_clear ∈ wAll := wmi 650 (by decide +kernel) (by decide +kernel)
theorem ks_X5_clear : Cond.selects yX5_clear.cls yX5_clear yX5_clear ∈ lw_tbl := List.mem_of_getElem? (i := 651) (by decide +kernel)
theorem ksg_X5_clear : goodWord (Cond.selects yX5_clear.cls yX5_clear yX5_clear) = true := by decide +kernel
theorem kc_X5_isFull : Cond.code yX5_isFull cX5_isFull 1 (some .boolean) ∈ wAll := wmi 219 (by decide +kernel) (by decide +kernel)
theorem ki_X5_isFull : Cond.instanceMethod yX5_isFull ∈ wAll := wmi 217 (by decide +kernel) (by decide +kernel)
theorem ks_X5_isFull : Cond.selects yX5_isFull.cls yX5_isFull yX5_isFull ∈ lw_tbl := List.mem_of_getElem? (i := 218) (by decide +kernel)
theorem ksg_X5_isFull : goodWord (Cond.selects yX5_isFull.cls yX5_isFull yX5_isFull) = true := by decide +kernel
theorem kc_X5_known : Cond.code yX5_known cX5_known 1 (some .int) ∈ wAll := wmi 227 (by decide +kernel) (by decide +kernel)
theorem ki_X5_known : Cond.instanceMethod yX5_known ∈ wAll := wmi 225 (by decide +kernel) (by decide +kernel)
theorem ks_X5_known : Cond.selects yX5_known.cls yX5_known yX5_known ∈ lw_tbl := List.mem_of_getElem? (i := 226) (by decide +kernel)
theorem ksg_X5_known : goodWord (Cond.selects yX5_known.cls yX5_known yX5_known) = true := by decide +kernel
theorem kc_X5_put : Cond.code yX5_put cX5_put 3 none ∈ wAll := wmi 271 (by decide +kernel) (by decide +kernel)
theorem ki_X5_put : Cond.instanceMethod yX5_put ∈ wAll := wmi 269 (by decide +kernel) (by decide +kernel)
theorem ks_X5_put : Cond.selects yX5_put.cls yX5_put yX5_put ∈ lw_tbl := List.mem_of_getElem? (i := 270) (by decide +kernel)
theorem ksg_X5_put : goodWord (Cond.selects yX5_put.cls yX5_put yX5_put) = true := by decide +kernel
theorem kc_X5_standing : Cond.code yX5_standing cX5_standing 3 (some (.object "PaperRows$Row")) ∈ wAll := wmi 211 (by decide +kernel) (by decide +kernel)
theorem ki_X5_standing : Cond.instanceMethod yX5_standing ∈ wAll := wmi 209 (by decide +kernel) (by decide +kernel)
theorem ks_X5_standing : Cond.selects yX5_standing.cls yX5_standing yX5_standing ∈ lw_tbl := List.mem_of_getElem? (i := 210) (by decide +kernel)
theorem ksg_X5_standing : goodWord (Cond.selects yX5_standing.cls yX5_standing yX5_standing) = true := by decide +kernel
theorem kc_X5_standingOnes : Cond.code yX5_standingOnes cX5_standingOnes 3 (some .int) ∈ wAll := wmi 681 (by decide +kernel) (by decide +kernel)
theorem ki_X5_standingOnes : Cond.instanceMethod yX5_standingOnes ∈ wAll := wmi 679 (by decide +kernel) (by decide +kernel)
theorem ks_X5_standingOnes : Cond.selects yX5_standingOnes.cls yX5_standingOnes yX5_standingOnes ∈ lw_tbl := List.mem_of_getElem? (i := 680) (by decide +kernel)
theorem ksg_X5_standingOnes : goodWord (Cond.selects yX5_standingOnes.cls yX5_standingOnes yX5_standingOnes) = true := by decide +kernel
theorem kc_X5_takeFrom : Cond.code yX5_takeFrom cX5_takeFrom 3 none ∈ wAll := wmi 669 (by decide +kernel) (by decide +kernel)
theorem ki_X5_takeFrom : Cond.instanceMethod yX5_takeFrom ∈ wAll := wmi 667 (by decide +kernel) (by decide +kernel)
theorem ks_X5_takeFrom : Cond.selects yX5_takeFrom.cls yX5_takeFrom yX5_takeFrom ∈ lw_tbl := List.mem_of_getElem? (i := 668) (by decide +kernel)
theorem ksg_X5_takeFrom : goodWord (Cond.selects yX5_takeFrom.cls yX5_takeFrom yX5_takeFrom) = true := by decide +kernel
theorem kc_X6_init : Cond.code yX6_init cX6_init 1 none ∈ wAll := wmi 113 (by decide +kernel) (by decide +kernel)
theorem ki_X6_init : Cond.instanceMethod yX6_init ∈ wAll := wmi 112 (by decide +kernel) (by decide +kernel)
theorem kc_X6_addItem : Cond.code yX6_addItem cX6_addItem 5 none ∈ wAll := wmi 475 (by decide +kernel) (by decide +kernel)
theorem ki_X6_addItem : Cond.instanceMethod yX6_addItem ∈ wAll := wmi 473 (by decide +kernel) (by decide +kernel)
theorem ks_X6_addItem : Cond.selects yX6_addItem.cls yX6_addItem yX6_addItem ∈ lw_tbl := List.mem_of_getElem? (i := 474) (by decide +kernel)
theorem ksg_X6_addItem : goodWord (Cond.selects yX6_addItem.cls yX6_addItem yX6_addItem) = true := by decide +kernel
theorem kc_X6_addPart : Cond.code yX6_addPart cX6_addPart 2 none ∈ wAll := wmi 406 (by decide +kernel) (by decide +kernel)
theorem ki_X6_addPart : Cond.instanceMethod yX6_addPart ∈ wAll := wmi 404 (by decide +kernel) (by decide +kernel)
theorem ks_X6_addPart : Cond.selects yX6_addPart.cls yX6_addPart yX6_addPart ∈ lw_tbl := List.mem_of_getElem? (i := 405) (by decide +kernel)
theorem ksg_X6_addPart : goodWord (Cond.selects yX6_addPart.cls yX6_addPart yX6_addPart) = true := by decide +kernel
theorem kc_X6_clear : Cond.code yX6_clear cX6_clear 1 none ∈ wAll := wmi 349 (by decide +kernel) (by decide +kernel)
theorem ki_X6_clear : Cond.instanceMethod yX6_clear ∈ wAll := wmi 347 (by decide +kernel) (by decide +kernel)
theorem ks_X6_clear : Cond.selects yX6_clear.cls yX6_clear yX6_clear ∈ lw_tbl := List.mem_of_getElem? (i := 348) (by decide +kernel)
theorem ksg_X6_clear : goodWord (Cond.selects yX6_clear.cls yX6_clear yX6_clear) = true := by decide +kernel
theorem kc_X6_hasRoomForPart : Cond.code yX6_hasRoomForPart cX6_hasRoomForPart 1 (some .boolean) ∈ wAll := wmi 398 (by decide +kernel) (by decide +kernel)
theorem ki_X6_hasRoomForPart : Cond.instanceMethod yX6_hasRoomForPart ∈ wAll := wmi 396 (by decide +kernel) (by decide +kernel)
theorem ks_X6_hasRoomForPart : Cond.selects yX6_hasRoomForPart.cls yX6_hasRoomForPart yX6_hasRoomForPart ∈ lw_tbl := List.mem_of_getElem? (i := 397) (by decide +kernel)
theorem ksg_X6_hasRoomForPart : goodWord (Cond.selects yX6_hasRoomForPart.cls yX6_hasRoomForPart yX6_hasRoomForPart) = true := by decide +kernel
theorem kc_X6_isItem : Cond.code yX6_isItem cX6_isItem 2 (some .boolean) ∈ wAll := wmi 533 (by decide +kernel) (by decide +kernel)
theorem ki_X6_isItem : Cond.instanceMethod yX6_isItem ∈ wAll := wmi 532 (by decide +kernel) (by decide +kernel)
theorem ks_X6_isItem : Cond.selects yX6_isItem.cls yX6_isItem yX6_isItem ∈ lw_tbl := List.mem_of_getElem? (i := 17) (by decide +kernel)
theorem ksg_X6_isItem : goodWord (Cond.selects yX6_isItem.cls yX6_isItem yX6_isItem) = true := by decide +kernel
theorem kc_X6_items : Cond.code yX6_items cX6_items 1 (some .int) ∈ wAll := wmi 525 (by decide +kernel) (by decide +kernel)
theorem ki_X6_items : Cond.instanceMethod yX6_items ∈ wAll := wmi 523 (by decide +kernel) (by decide +kernel)
theorem ks_X6_items : Cond.selects yX6_items.cls yX6_items yX6_items ∈ lw_tbl := List.mem_of_getElem? (i := 524) (by decide +kernel)
theorem ksg_X6_items : goodWord (Cond.selects yX6_items.cls yX6_items yX6_items) = true := by decide +kernel
theorem kc_X6_kindOf : Cond.code yX6_kindOf cX6_kindOf 2 (some .int) ∈ wAll := wmi 537 (by decide +kernel) (by decide +kernel)
theorem ki_X6_kindOf : Cond.instanceMethod yX6_kindOf ∈ wAll := wmi 535 (by decide +kernel) (by decide +kernel)
theorem ks_X6_kindOf : Cond.selects yX6_kindOf.cls yX6_kindOf yX6_kindOf ∈ lw_tbl := List.mem_of_getElem? (i := 536) (by decide +kernel)
theorem ksg_X6_kindOf : goodWord (Cond.selects yX6_kindOf.cls yX6_kindOf yX6_kindOf) = true := by decide +kernel
theorem kc_X6_ownerOf : Cond.code yX6_ownerOf cX6_ownerOf 2 (some .int) ∈ wAll := wmi 529 (by decide +kernel) (by decide +kernel)
theorem ki_X6_ownerOf : Cond.instanceMethod yX6_ownerOf ∈ wAll := wmi 527 (by decide +kernel) (by decide +kernel)
theorem ks_X6_ownerOf : Cond.selects yX6_ownerOf.cls yX6_ownerOf yX6_ownerOf ∈ lw_tbl := List.mem_of_getElem? (i := 528) (by decide +kernel)
theorem ksg_X6_ownerOf : goodWord (Cond.selects yX6_ownerOf.cls yX6_ownerOf yX6_ownerOf) = true := by decide +kernel
theorem kc_X6_partWithin : Cond.code yX6_partWithin cX6_partWithin 2 (some .int) ∈ wAll := wmi 545 (by decide +kernel) (by decide +kernel)
theorem ki_X6_partWithin : Cond.instanceMethod yX6_partWithin ∈ wAll := wmi 543 (by decide +kernel) (by decide +kernel)
theorem ks_X6_partWithin : Cond.selects yX6_partWithin.cls yX6_partWithin yX6_partWithin ∈ lw_tbl := List.mem_of_getElem? (i := 544) (by decide +kernel)
theorem ksg_X6_partWithin : goodWord (Cond.selects yX6_partWithin.cls yX6_partWithin yX6_partWithin) = true := by decide +kernel
theorem kc_X6_parts : Cond.code yX6_parts cX6_parts 1 (some .int) ∈ wAll := wmi 402 (by decide +kernel) (by decide +kernel)
theorem ki_X6_parts : Cond.instanceMethod yX6_parts ∈ wAll := wmi 400 (by decide +kernel) (by decide +kernel)
theorem ks_X6_parts : Cond.selects yX6_parts.cls yX6_parts yX6_parts ∈ lw_tbl := List.mem_of_getElem? (i := 401) (by decide +kernel)
theorem ksg_X6_parts : goodWord (Cond.selects yX6_parts.cls yX6_parts yX6_parts) = true := by decide +kernel
theorem kc_X6_referenceOf : Cond.code yX6_referenceOf cX6_referenceOf 2 (some .int) ∈ wAll := wmi 549 (by decide +kernel) (by decide +kernel)
theorem ki_X6_referenceOf : Cond.instanceMethod yX6_referenceOf ∈ wAll := wmi 547 (by decide +kernel) (by decide +kernel)
theorem ks_X6_referenceOf : Cond.selects yX6_referenceOf.cls yX6_referenceOf yX6_referenceOf ∈ lw_tbl := List.mem_of_getElem? (i := 548) (by decide +kernel)
theorem ksg_X6_referenceOf : goodWord (Cond.selects yX6_referenceOf.cls yX6_referenceOf yX6_referenceOf) = true := by decide +kernel
theorem kc_X6_tableOf : Cond.code yX6_tableOf cX6_tableOf 2 (some .int) ∈ wAll := wmi 509 (by decide +kernel) (by decide +kernel)
theorem ki_X6_tableOf : Cond.instanceMethod yX6_tableOf ∈ wAll := wmi 507 (by decide +kernel) (by decide +kernel)
theorem ks_X6_tableOf : Cond.selects yX6_tableOf.cls yX6_tableOf yX6_tableOf ∈ lw_tbl := List.mem_of_getElem? (i := 508) (by decide +kernel)
theorem ksg_X6_tableOf : goodWord (Cond.selects yX6_tableOf.cls yX6_tableOf yX6_tableOf) = true := by decide +kernel
theorem kc_X7_init : Cond.code yX7_init cX7_init 1 none ∈ wAll := wmi 97 (by decide +kernel) (by decide +kernel)
theorem ki_X7_init : Cond.instanceMethod yX7_init ∈ wAll := wmi 96 (by decide +kernel) (by decide +kernel)
theorem kc_X7_addByte : Cond.code yX7_addByte cX7_addByte 2 none ∈ wAll := wmi 329 (by decide +kernel) (by decide +kernel)
theorem ki_X7_addByte : Cond.instanceMethod yX7_addByte ∈ wAll := wmi 328 (by decide +kernel) (by decide +kernel)
theorem ks_X7_addByte : Cond.selects yX7_addByte.cls yX7_addByte yX7_addByte ∈ lw_tbl := List.mem_of_getElem? (i := 4) (by decide +kernel)
theorem ksg_X7_addByte : goodWord (Cond.selects yX7_addByte.cls yX7_addByte yX7_addByte) = true := by decide +kernel
theorem kc_X7_addNumber : Cond.code yX7_addNumber cX7_addNumber 3 none ∈ wAll := wmi 325 (by decide +kernel) (by decide +kernel)
theorem ki_X7_addNumber : Cond.instanceMethod yX7_addNumber ∈ wAll := wmi 323 (by decide +kernel) (by decide +kernel)
theorem ks_X7_addNumber : Cond.selects yX7_addNumber.cls yX7_addNumber yX7_addNumber ∈ lw_tbl := List.mem_of_getElem? (i := 324) (by decide +kernel)
theorem ksg_X7_addNumber : goodWord (Cond.selects yX7_addNumber.cls yX7_addNumber yX7_addNumber) = true := by decide +kernel
theorem kc_X7_byteAt : Cond.code yX7_byteAt cX7_byteAt 2 (some .int) ∈ wAll := wmi 380 (by decide +kernel) (by decide +kernel)
theorem ki_X7_byteAt : Cond.instanceMethod yX7_byteAt ∈ wAll := wmi 378 (by decide +kernel) (by decide +kernel)
theorem ks_X7_byteAt : Cond.selects yX7_byteAt.cls yX7_byteAt yX7_byteAt ∈ lw_tbl := List.mem_of_getElem? (i := 379) (by decide +kernel)
theorem ksg_X7_byteAt : goodWord (Cond.selects yX7_byteAt.cls yX7_byteAt yX7_byteAt) = true := by decide +kernel
theorem kc_X7_cutTo : Cond.code yX7_cutTo cX7_cutTo 2 none ∈ wAll := wmi 337 (by decide +kernel) (by decide +kernel)
theorem ki_X7_cutTo : Cond.instanceMethod yX7_cutTo ∈ wAll := wmi 335 (by decide +kernel) (by decide +kernel)
theorem ks_X7_cutTo : Cond.selects yX7_cutTo.cls yX7_cutTo yX7_cutTo ∈ lw_tbl := List.mem_of_getElem? (i := 336) (by decide +kernel)
theorem ksg_X7_cutTo : goodWord (Cond.selects yX7_cutTo.cls yX7_cutTo yX7_cutTo) = true := by decide +kernel
theorem kc_X7_length : Cond.code yX7_length cX7_length 1 (some .int) ∈ wAll := wmi 321 (by decide +kernel) (by decide +kernel)
theorem ki_X7_length : Cond.instanceMethod yX7_length ∈ wAll := wmi 319 (by decide +kernel) (by decide +kernel)
theorem ks_X7_length : Cond.selects yX7_length.cls yX7_length yX7_length ∈ lw_tbl := List.mem_of_getElem? (i := 320) (by decide +kernel)
theorem ksg_X7_length : goodWord (Cond.selects yX7_length.cls yX7_length yX7_length) = true := by decide +kernel
theorem kc_X8_answered : Cond.code yX8_answered cX8_answered 2 (some .int) ∈ wAll := wmi 282 (by decide +kernel) (by decide +kernel)
theorem ki_X8_answered : Cond.instanceMethod yX8_answered ∈ wAll := wmi 281 (by decide +kernel) (by decide +kernel)
theorem ks_X8_answered : Cond.selects yX8_answered.cls yX8_answered yX8_answered ∈ lw_tbl := List.mem_of_getElem? (i := 3) (by decide +kernel)
theorem ksg_X8_answered : goodWord (Cond.selects yX8_answered.cls yX8_answered yX8_answered) = true := by decide +kernel
theorem kc_X8_canBeReferredTo : Cond.code yX8_canBeReferredTo cX8_canBeReferredTo 2 (some .boolean) ∈ wAll := wmi 207 (by decide +kernel) (by decide +kernel)
theorem ki_X8_canBeReferredTo : Cond.instanceMethod yX8_canBeReferredTo ∈ wAll := wmi 206 (by decide +kernel) (by decide +kernel)
theorem ks_X8_canBeReferredTo : Cond.selects yX8_canBeReferredTo.cls yX8_canBeReferredTo yX8_canBeReferredTo ∈ lw_tbl := List.mem_of_getElem? (i := 1) (by decide +kernel)
theorem ksg_X8_canBeReferredTo : goodWord (Cond.selects yX8_canBeReferredTo.cls yX8_canBeReferredTo yX8_canBeReferredTo) = true := by decide +kernel
theorem kc_X8_isOtherwiseThen : Cond.code yX8_isOtherwiseThen cX8_isOtherwiseThen 2 (some .boolean) ∈ wAll := wmi 673 (by decide +kernel) (by decide +kernel)
theorem ki_X8_isOtherwiseThen : Cond.instanceMethod yX8_isOtherwiseThen ∈ wAll := wmi 672 (by decide +kernel) (by decide +kernel)
theorem ks_X8_isOtherwiseThen : Cond.selects yX8_isOtherwiseThen.cls yX8_isOtherwiseThen yX8_isOtherwiseThen ∈ lw_tbl := List.mem_of_getElem? (i := 21) (by decide +kernel)
theorem ksg_X8_isOtherwiseThen : goodWord (Cond.selects yX8_isOtherwiseThen.cls yX8_isOtherwiseThen yX8_isOtherwiseThen) = true := by decide +kernel
theorem kc_X8_isValue : Cond.code yX8_isValue cX8_isValue 1 (some .boolean) ∈ wAll := wmi 199 (by decide +kernel) (by decide +kernel)
theorem ki_X8_isValue : Cond.static yX8_isValue ∈ wAll := wmi 198 (by decide +kernel) (by decide +kernel)
theorem kc_X8_readerAt : Cond.code yX8_readerAt cX8_readerAt 2 (some (.object "PaperRows$Reader")) ∈ wAll := wmi 621 (by decide +kernel) (by decide +kernel)
theorem ki_X8_readerAt : Cond.instanceMethod yX8_readerAt ∈ wAll := wmi 620 (by decide +kernel) (by decide +kernel)
theorem ks_X8_readerAt : Cond.selects yX8_readerAt.cls yX8_readerAt yX8_readerAt ∈ lw_tbl := List.mem_of_getElem? (i := 20) (by decide +kernel)
theorem ksg_X8_readerAt : goodWord (Cond.selects yX8_readerAt.cls yX8_readerAt yX8_readerAt) = true := by decide +kernel
theorem kc_X8_refused : Cond.code yX8_refused cX8_refused 2 (some .int) ∈ wAll := wmi 203 (by decide +kernel) (by decide +kernel)
theorem ki_X8_refused : Cond.instanceMethod yX8_refused ∈ wAll := wmi 202 (by decide +kernel) (by decide +kernel)
theorem ks_X8_refused : Cond.selects yX8_refused.cls yX8_refused yX8_refused ∈ lw_tbl := List.mem_of_getElem? (i := 0) (by decide +kernel)
theorem ksg_X8_refused : goodWord (Cond.selects yX8_refused.cls yX8_refused yX8_refused) = true := by decide +kernel
theorem kc_X8_tell : Cond.code yX8_tell cX8_tell 2 none ∈ wAll := wmi 267 (by decide +kernel) (by decide +kernel)
theorem ki_X8_tell : Cond.instanceMethod yX8_tell ∈ wAll := wmi 266 (by decide +kernel) (by decide +kernel)
theorem ks_X8_tell : Cond.selects yX8_tell.cls yX8_tell yX8_tell ∈ lw_tbl := List.mem_of_getElem? (i := 2) (by decide +kernel)
theorem ksg_X8_tell : goodWord (Cond.selects yX8_tell.cls yX8_tell yX8_tell) = true := by decide +kernel
theorem kc_X9_begin : Cond.code yX9_begin cX9_begin 3 none ∈ wAll := wmi 972 (by decide +kernel) (by decide +kernel)
theorem ki_X9_begin : Cond.instanceMethod yX9_begin ∈ wAll := wmi 971 (by decide +kernel) (by decide +kernel)
theorem ks_X9_begin : Cond.selects yX9_begin.cls yX9_begin yX9_begin ∈ lw_tbl := List.mem_of_getElem? (i := 34) (by decide +kernel)
theorem ksg_X9_begin : goodWord (Cond.selects yX9_begin.cls yX9_begin yX9_begin) = true := by decide +kernel
theorem kc_X9_four : Cond.code yX9_four cX9_four 3 none ∈ wAll := wmi 912 (by decide +kernel) (by decide +kernel)
theorem ki_X9_four : Cond.instanceMethod yX9_four ∈ wAll := wmi 911 (by decide +kernel) (by decide +kernel)
theorem ks_X9_four : Cond.selects yX9_four.cls yX9_four yX9_four ∈ lw_tbl := List.mem_of_getElem? (i := 26) (by decide +kernel)
theorem ksg_X9_four : goodWord (Cond.selects yX9_four.cls yX9_four yX9_four) = true := by decide +kernel
theorem kc_X9_goOne : Cond.code yX9_goOne cX9_goOne 3 none ∈ wAll := wmi 888 (by decide +kernel) (by decide +kernel)
theorem ki_X9_goOne : Cond.instanceMethod yX9_goOne ∈ wAll := wmi 887 (by decide +kernel) (by decide +kernel)
theorem ks_X9_goOne : Cond.selects yX9_goOne.cls yX9_goOne yX9_goOne ∈ lw_tbl := List.mem_of_getElem? (i := 25) (by decide +kernel)
theorem ksg_X9_goOne : goodWord (Cond.selects yX9_goOne.cls yX9_goOne yX9_goOne) = true := by decide +kernel
theorem kc_X9_goTo : Cond.code yX9_goTo cX9_goTo 3 none ∈ wAll := wmi 998 (by decide +kernel) (by decide +kernel)
theorem ki_X9_goTo : Cond.instanceMethod yX9_goTo ∈ wAll := wmi 997 (by decide +kernel) (by decide +kernel)
theorem ks_X9_goTo : Cond.selects yX9_goTo.cls yX9_goTo yX9_goTo ∈ lw_tbl := List.mem_of_getElem? (i := 37) (by decide +kernel)
theorem ksg_X9_goTo : goodWord (Cond.selects yX9_goTo.cls yX9_goTo yX9_goTo) = true := by decide +kernel
theorem kc_X9_in : Cond.code yX9_in cX9_in 6 (some .boolean) ∈ wAll := wmi 867 (by decide +kernel) (by decide +kernel)
theorem ki_X9_in : Cond.static yX9_in ∈ wAll := wmi 866 (by decide +kernel) (by decide +kernel)
theorem kc_X9_isDigit : Cond.code yX9_isDigit cX9_isDigit 1 (some .boolean) ∈ wAll := wmi 930 (by decide +kernel) (by decide +kernel)
theorem ki_X9_isDigit : Cond.static yX9_isDigit ∈ wAll := wmi 929 (by decide +kernel) (by decide +kernel)
theorem kc_X9_isHeld : Cond.code yX9_isHeld cX9_isHeld 4 (some .boolean) ∈ wAll := wmi 1010 (by decide +kernel) (by decide +kernel)
theorem ki_X9_isHeld : Cond.instanceMethod yX9_isHeld ∈ wAll := wmi 1009 (by decide +kernel) (by decide +kernel)
theorem ks_X9_isHeld : Cond.selects yX9_isHeld.cls yX9_isHeld yX9_isHeld ∈ lw_tbl := List.mem_of_getElem? (i := 38) (by decide +kernel)
theorem ksg_X9_isHeld : goodWord (Cond.selects yX9_isHeld.cls yX9_isHeld yX9_isHeld) = true := by decide +kernel
theorem kc_X9_isReader : Cond.code yX9_isReader cX9_isReader 2 (some .boolean) ∈ wAll := wmi 1018 (by decide +kernel) (by decide +kernel)
theorem ki_X9_isReader : Cond.instanceMethod yX9_isReader ∈ wAll := wmi 1017 (by decide +kernel) (by decide +kernel)
theorem ks_X9_isReader : Cond.selects yX9_isReader.cls yX9_isReader yX9_isReader ∈ lw_tbl := List.mem_of_getElem? (i := 39) (by decide +kernel)
theorem ksg_X9_isReader : goodWord (Cond.selects yX9_isReader.cls yX9_isReader yX9_isReader) = true := by decide +kernel
theorem kc_X9_isRow : Cond.code yX9_isRow cX9_isRow 2 (some .boolean) ∈ wAll := wmi 880 (by decide +kernel) (by decide +kernel)
theorem ki_X9_isRow : Cond.instanceMethod yX9_isRow ∈ wAll := wmi 879 (by decide +kernel) (by decide +kernel)
theorem ks_X9_isRow : Cond.selects yX9_isRow.cls yX9_isRow yX9_isRow ∈ lw_tbl := List.mem_of_getElem? (i := 23) (by decide +kernel)
theorem ksg_X9_isRow : goodWord (Cond.selects yX9_isRow.cls yX9_isRow yX9_isRow) = true := by decide +kernel
theorem kc_X9_isSign : Cond.code yX9_isSign cX9_isSign 2 (some .boolean) ∈ wAll := wmi 948 (by decide +kernel) (by decide +kernel)
theorem ki_X9_isSign : Cond.instanceMethod yX9_isSign ∈ wAll := wmi 947 (by decide +kernel) (by decide +kernel)
theorem ks_X9_isSign : Cond.selects yX9_isSign.cls yX9_isSign yX9_isSign ∈ lw_tbl := List.mem_of_getElem? (i := 30) (by decide +kernel)
theorem ksg_X9_isSign : goodWord (Cond.selects yX9_isSign.cls yX9_isSign yX9_isSign) = true := by decide +kernel
theorem kc_X9_isSmall : Cond.code yX9_isSmall cX9_isSmall 1 (some .boolean) ∈ wAll := wmi 927 (by decide +kernel) (by decide +kernel)
theorem ki_X9_isSmall : Cond.static yX9_isSmall ∈ wAll := wmi 926 (by decide +kernel) (by decide +kernel)
theorem kc_X9_isValue : Cond.code yX9_isValue cX9_isValue 1 (some .boolean) ∈ wAll := wmi 870 (by decide +kernel) (by decide +kernel)
theorem ki_X9_isValue : Cond.static yX9_isValue ∈ wAll := wmi 869 (by decide +kernel) (by decide +kernel)
theorem kc_X9_isWord : Cond.code yX9_isWord cX9_isWord 7 (some .boolean) ∈ wAll := wmi 956 (by decide +kernel) (by decide +kernel)
theorem ki_X9_isWord : Cond.instanceMethod yX9_isWord ∈ wAll := wmi 955 (by decide +kernel) (by decide +kernel)
theorem ks_X9_isWord : Cond.selects yX9_isWord.cls yX9_isWord yX9_isWord ∈ lw_tbl := List.mem_of_getElem? (i := 32) (by decide +kernel)
theorem ksg_X9_isWord : goodWord (Cond.selects yX9_isWord.cls yX9_isWord yX9_isWord) = true := by decide +kernel
theorem kc_X9_make : Cond.code yX9_make cX9_make 5 none ∈ wAll := wmi 968 (by decide +kernel) (by decide +kernel)
theorem ki_X9_make : Cond.instanceMethod yX9_make ∈ wAll := wmi 967 (by decide +kernel) (by decide +kernel)
theorem ks_X9_make : Cond.selects yX9_make.cls yX9_make yX9_make ∈ lw_tbl := List.mem_of_getElem? (i := 33) (by decide +kernel)
theorem ksg_X9_make : goodWord (Cond.selects yX9_make.cls yX9_make yX9_make) = true := by decide +kernel
theorem kc_X9_must : Cond.code yX9_must cX9_must 2 none ∈ wAll := wmi 944 (by decide +kernel) (by decide +kernel)
theorem ki_X9_must : Cond.instanceMethod yX9_must ∈ wAll := wmi 943 (by decide +kernel) (by decide +kernel)
theorem ks_X9_must : Cond.selects yX9_must.cls yX9_must yX9_must ∈ lw_tbl := List.mem_of_getElem? (i := 29) (by decide +kernel)
theorem ksg_X9_must : goodWord (Cond.selects yX9_must.cls yX9_must yX9_must) = true := by decide +kernel
theorem kc_X9_next : Cond.code yX9_next cX9_next 1 none ∈ wAll := wmi 924 (by decide +kernel) (by decide +kernel)
theorem ki_X9_next : Cond.instanceMethod yX9_next ∈ wAll := wmi 923 (by decide +kernel) (by decide +kernel)
theorem ks_X9_next : Cond.selects yX9_next.cls yX9_next yX9_next ∈ lw_tbl := List.mem_of_getElem? (i := 27) (by decide +kernel)
theorem ksg_X9_next : goodWord (Cond.selects yX9_next.cls yX9_next yX9_next) = true := by decide +kernel
theorem kc_X9_nextRow : Cond.code yX9_nextRow cX9_nextRow 6 (some .int) ∈ wAll := wmi 980 (by decide +kernel) (by decide +kernel)
theorem ki_X9_nextRow : Cond.instanceMethod yX9_nextRow ∈ wAll := wmi 979 (by decide +kernel) (by decide +kernel)
theorem ks_X9_nextRow : Cond.selects yX9_nextRow.cls yX9_nextRow yX9_nextRow ∈ lw_tbl := List.mem_of_getElem? (i := 36) (by decide +kernel)
theorem ksg_X9_nextRow : goodWord (Cond.selects yX9_nextRow.cls yX9_nextRow yX9_nextRow) = true := by decide +kernel
theorem kc_X9_readItem : Cond.code yX9_readItem cX9_readItem 5 (some .boolean) ∈ wAll := wmi 952 (by decide +kernel) (by decide +kernel)
theorem ki_X9_readItem : Cond.instanceMethod yX9_readItem ∈ wAll := wmi 951 (by decide +kernel) (by decide +kernel)
theorem ks_X9_readItem : Cond.selects yX9_readItem.cls yX9_readItem yX9_readItem ∈ lw_tbl := List.mem_of_getElem? (i := 31) (by decide +kernel)
theorem ksg_X9_readItem : goodWord (Cond.selects yX9_readItem.cls yX9_readItem yX9_readItem) = true := by decide +kernel
theorem kc_X9_readPart : Cond.code yX9_readPart cX9_readPart 3 (some .boolean) ∈ wAll := wmi 939 (by decide +kernel) (by decide +kernel)
theorem ki_X9_readPart : Cond.instanceMethod yX9_readPart ∈ wAll := wmi 938 (by decide +kernel) (by decide +kernel)
theorem ks_X9_readPart : Cond.selects yX9_readPart.cls yX9_readPart yX9_readPart ∈ lw_tbl := List.mem_of_getElem? (i := 28) (by decide +kernel)
theorem ksg_X9_readPart : goodWord (Cond.selects yX9_readPart.cls yX9_readPart yX9_readPart) = true := by decide +kernel
theorem kc_X9_tell : Cond.code yX9_tell cX9_tell 7 none ∈ wAll := wmi 884 (by decide +kernel) (by decide +kernel)
theorem ki_X9_tell : Cond.instanceMethod yX9_tell ∈ wAll := wmi 883 (by decide +kernel) (by decide +kernel)
theorem ks_X9_tell : Cond.selects yX9_tell.cls yX9_tell yX9_tell ∈ lw_tbl := List.mem_of_getElem? (i := 24) (by decide +kernel)
theorem ksg_X9_tell : goodWord (Cond.selects yX9_tell.cls yX9_tell yX9_tell) = true := by decide +kernel
theorem kc_X9_told : Cond.code yX9_told cX9_told 2 (some .int) ∈ wAll := wmi 876 (by decide +kernel) (by decide +kernel)
theorem ki_X9_told : Cond.instanceMethod yX9_told ∈ wAll := wmi 875 (by decide +kernel) (by decide +kernel)
theorem ks_X9_told : Cond.selects yX9_told.cls yX9_told yX9_told ∈ lw_tbl := List.mem_of_getElem? (i := 22) (by decide +kernel)
theorem ksg_X9_told : goodWord (Cond.selects yX9_told.cls yX9_told yX9_told) = true := by decide +kernel
theorem kc_X9_write : Cond.code yX9_write cX9_write 3 none ∈ wAll := wmi 976 (by decide +kernel) (by decide +kernel)
theorem ki_X9_write : Cond.instanceMethod yX9_write ∈ wAll := wmi 975 (by decide +kernel) (by decide +kernel)
theorem ks_X9_write : Cond.selects yX9_write.cls yX9_write yX9_write ∈ lw_tbl := List.mem_of_getElem? (i := 35) (by decide +kernel)
theorem ksg_X9_write : goodWord (Cond.selects yX9_write.cls yX9_write yX9_write) = true := by decide +kernel
theorem kl_RX0_3 : Cond.methodLink RX0 3 objectInit ∈ wAll := wmi 84 (by decide +kernel) (by decide +kernel)
theorem kl_RX1_3 : Cond.methodLink RX1 3 objectInit ∈ wAll := wmi 142 (by decide +kernel) (by decide +kernel)
theorem kl_RX1_31 : Cond.methodLink RX1 31 Lib.Math.max.name ∈ wAll := wmi 639 (by decide +kernel) (by decide +kernel)
theorem kl_RX1_37 : Cond.methodLink RX1 37 Lib.Math.min.name ∈ wAll := wmi 640 (by decide +kernel) (by decide +kernel)
theorem kl_RX2_3 : Cond.methodLink RX2 3 objectInit ∈ wAll := wmi 355 (by decide +kernel) (by decide +kernel)
theorem kl_RX2_96 : Cond.methodLink RX2 96 yJ0_length_8abf5 ∈ wAll := wmi 424 (by decide +kernel) (by decide +kernel)
theorem kl_RX2_99 : Cond.methodLink RX2 99 yJ0_charAt_5068e ∈ wAll := wmi 434 (by decide +kernel) (by decide +kernel)
theorem kl_RX3_1 : Cond.methodLink RX3 1 objectInit ∈ wAll := wmi 589 (by decide +kernel) (by decide +kernel)
theorem kl_RX4_1 : Cond.methodLink RX4 1 objectInit ∈ wAll := wmi 233 (by decide +kernel) (by decide +kernel)
theorem kl_RX5_3 : Cond.methodLink RX5 3 objectInit ∈ wAll := wmi 69 (by decide +kernel) (by decide +kernel)
theorem kl_RX5_35 : Cond.methodLink RX5 35 Lib.Math.max.name ∈ wAll := wmi 272 (by decide +kernel) (by decide +kernel)
theorem kl_RX6_3 : Cond.methodLink RX6 3 objectInit ∈ wAll := wmi 114 (by decide +kernel) (by decide +kernel)
theorem kl_RX7_23 : Cond.methodLink RX7 23 Lib.Math.min.name ∈ wAll := wmi 338 (by decide +kernel) (by decide +kernel)
theorem kl_RX7_29 : Cond.methodLink RX7 29 Lib.Math.max.name ∈ wAll := wmi 341 (by decide +kernel) (by decide +kernel)
theorem kl_RX7_3 : Cond.methodLink RX7 3 objectInit ∈ wAll := wmi 98 (by decide +kernel) (by decide +kernel)
theorem kl_RX8_172 : Cond.methodLink RX8 172 Lib.MathLoose.min_long.x ∈ wAll := wmi 575 (by decide +kernel) (by decide +kernel)
theorem kl_RX8_178 : Cond.methodLink RX8 178 Lib.MathLoose.max_long.x ∈ wAll := wmi 578 (by decide +kernel) (by decide +kernel)
theorem kl_RX8_3 : Cond.methodLink RX8 3 objectInit ∈ wAll := wmi 61 (by decide +kernel) (by decide +kernel)
theorem kl_RX9_1 : Cond.methodLink RX9 1 objectInit ∈ wAll := wmi 692 (by decide +kernel) (by decide +kernel)
theorem kp_RX3_7 : NP RX3 7 1 := ⟨(RX1, TX1, 3), tyX1, rfl, by decide, by decide, hin1, wmi 590 (by decide +kernel) (by decide +kernel), wmi 138 (by decide +kernel) (by decide +kernel), wmi 46 (by decide +kernel) (by decide +kernel), tyX1_ok, by decide +kernel⟩
theorem kp_RX4_8 : NP RX4 8 4 := ⟨(RX4, TX4, 6), tyX4, rfl, by decide, by decide, hin4, wmi 291 (by decide +kernel) (by decide +kernel), wmi 229 (by decide +kernel) (by decide +kernel), wmi 48 (by decide +kernel) (by decide +kernel), tyX4_ok, by decide +kernel⟩
theorem kp_RX8_151 : NP RX8 151 2 := ⟨(RX2, TX2, 4), tyX2, rfl, by decide, by decide, hin2, wmi 350 (by decide +kernel) (by decide +kernel), wmi 351 (by decide +kernel) (by decide +kernel), wmi 50 (by decide +kernel) (by decide +kernel), tyX2_ok, by decide +kernel⟩
theorem kp_RX8_16 : NP RX8 16 0 := ⟨(RX0, TX0, 2), tyX0, rfl, by decide, by decide, hin0, wmi 79 (by decide +kernel) (by decide +kernel), wmi 80 (by decide +kernel) (by decide +kernel), wmi 43 (by decide +kernel) (by decide +kernel), tyX0_ok, by decide +kernel⟩
theorem kp_RX8_23 : NP RX8 23 7 := ⟨(RX7, TX7, 2), tyX7, rfl, by decide, by decide, hin7, wmi 93 (by decide +kernel) (by decide +kernel), wmi 94 (by decide +kernel) (by decide +kernel), wmi 44 (by decide +kernel) (by decide +kernel), tyX7_ok, by decide +kernel⟩
theorem kp_RX8_30 : NP RX8 30 3 := ⟨(RX3, TX3, 2), tyX3, rfl, by decide, by decide, hin3, wmi 107 (by decide +kernel) (by decide +kernel), wmi 585 (by decide +kernel) (by decide +kernel), wmi 55 (by decide +kernel) (by decide +kernel), tyX3_ok, by decide +kernel⟩
theorem kp_RX8_36 : NP RX8 36 6 := ⟨(RX6, TX6, 7), tyX6, rfl, by decide, by decide, hin6, wmi 109 (by decide +kernel) (by decide +kernel), wmi 110 (by decide +kernel) (by decide +kernel), wmi 45 (by decide +kernel) (by decide +kernel), tyX6_ok, by decide +kernel⟩
theorem kp_RX8_62 : NP RX8 62 1 := ⟨(RX1, TX1, 3), tyX1, rfl, by decide, by decide, hin1, wmi 137 (by decide +kernel) (by decide +kernel), wmi 138 (by decide +kernel) (by decide +kernel), wmi 46 (by decide +kernel) (by decide +kernel), tyX1_ok, by decide +kernel⟩
theorem kp_RX8_9 : NP RX8 9 5 := ⟨(RX5, TX5, 2), tyX5, rfl, by decide, by decide, hin5, wmi 64 (by decide +kernel) (by decide +kernel), wmi 65 (by decide +kernel) (by decide +kernel), wmi 42 (by decide +kernel) (by decide +kernel), tyX5_ok, by decide +kernel⟩
theorem kp_RX8_92 : NP RX8 92 4 := ⟨(RX4, TX4, 6), tyX4, rfl, by decide, by decide, hin4, wmi 228 (by decide +kernel) (by decide +kernel), wmi 229 (by decide +kernel) (by decide +kernel), wmi 48 (by decide +kernel) (by decide +kernel), tyX4_ok, by decide +kernel⟩
theorem kw_RX0_21 : CW RX0 21 yX5_put cX5_put 3 none 1 := ⟨wmi 661 (by decide +kernel) (by decide +kernel), wmi 42 (by decide +kernel) (by decide +kernel), kc_X5_put, by decide, by decide, by decide +kernel⟩
theorem kw_RX1_23 : CW RX1 23 yX1_at cX1_at 2 (some .int) 1 := ⟨wmi 609 (by decide +kernel) (by decide +kernel), wmi 46 (by decide +kernel) (by decide +kernel), kc_X1_at, by decide, by decide, by decide +kernel⟩
theorem kw_RX1_27 : CN RX1 27 yX8_isValue RX8 cX8_isValue 1 (some .boolean) 1 := ⟨by decide +kernel, wmi 41 (by decide +kernel) (by decide +kernel), kc_X8_isValue, by decide, by decide, by decide +kernel⟩
theorem kw_RX1_40 : CW RX1 40 yX5_standing cX5_standing 3 (some (.object "PaperRows$Row")) 1 := ⟨wmi 505 (by decide +kernel) (by decide +kernel), wmi 42 (by decide +kernel) (by decide +kernel), kc_X5_standing, by decide, by decide, by decide +kernel⟩
theorem kw_RX1_51 : CW RX1 51 yX6_tableOf cX6_tableOf 2 (some .int) 1 := ⟨wmi 506 (by decide +kernel) (by decide +kernel), wmi 45 (by decide +kernel) (by decide +kernel), kc_X6_tableOf, by decide, by decide, by decide +kernel⟩
theorem kw_RX1_56 : CW RX1 56 yX1_addPart cX1_addPart 11 none 5 := ⟨wmi 510 (by decide +kernel) (by decide +kernel), wmi 46 (by decide +kernel) (by decide +kernel), kc_X1_addPart, by decide, by decide, by decide +kernel⟩
theorem kw_RX1_60 : CW RX1 60 yX1_isFull cX1_isFull 1 (some .boolean) 0 := ⟨wmi 514 (by decide +kernel) (by decide +kernel), wmi 46 (by decide +kernel) (by decide +kernel), kc_X1_isFull, by decide, by decide, by decide +kernel⟩
theorem kw_RX1_67 : CW RX1 67 yX1_add cX1_add 2 none 1 := ⟨wmi 518 (by decide +kernel) (by decide +kernel), wmi 46 (by decide +kernel) (by decide +kernel), kc_X1_add, by decide, by decide, by decide +kernel⟩
theorem kw_RX1_71 : CW RX1 71 yX6_items cX6_items 1 (some .int) 0 := ⟨wmi 522 (by decide +kernel) (by decide +kernel), wmi 45 (by decide +kernel) (by decide +kernel), kc_X6_items, by decide, by decide, by decide +kernel⟩
theorem kw_RX1_75 : CW RX1 75 yX6_ownerOf cX6_ownerOf 2 (some .int) 1 := ⟨wmi 526 (by decide +kernel) (by decide +kernel), wmi 45 (by decide +kernel) (by decide +kernel), kc_X6_ownerOf, by decide, by decide, by decide +kernel⟩
theorem kw_RX1_78 : CW RX1 78 yX6_kindOf cX6_kindOf 2 (some .int) 1 := ⟨wmi 534 (by decide +kernel) (by decide +kernel), wmi 45 (by decide +kernel) (by decide +kernel), kc_X6_kindOf, by decide, by decide, by decide +kernel⟩
theorem kw_RX1_84 : CW RX1 84 yX1_addUp cX1_addUp 8 none 5 := ⟨wmi 538 (by decide +kernel) (by decide +kernel), wmi 46 (by decide +kernel) (by decide +kernel), kc_X1_addUp, by decide, by decide, by decide +kernel⟩
theorem kw_RX1_87 : CW RX1 87 yX1_addDown cX1_addDown 11 none 5 := ⟨wmi 554 (by decide +kernel) (by decide +kernel), wmi 46 (by decide +kernel) (by decide +kernel), kc_X1_addDown, by decide, by decide, by decide +kernel⟩
theorem kw_RX1_90 : CW RX1 90 yX6_partWithin cX6_partWithin 2 (some .int) 1 := ⟨wmi 542 (by decide +kernel) (by decide +kernel), wmi 45 (by decide +kernel) (by decide +kernel), kc_X6_partWithin, by decide, by decide, by decide +kernel⟩
theorem kw_RX1_93 : CW RX1 93 yX6_referenceOf cX6_referenceOf 2 (some .int) 1 := ⟨wmi 546 (by decide +kernel) (by decide +kernel), wmi 45 (by decide +kernel) (by decide +kernel), kc_X6_referenceOf, by decide, by decide, by decide +kernel⟩
theorem kw_RX1_96 : CW RX1 96 yX4_referenceBy cX4_referenceBy 2 (some .int) 1 := ⟨wmi 550 (by decide +kernel) (by decide +kernel), wmi 48 (by decide +kernel) (by decide +kernel), kc_X4_referenceBy, by decide, by decide, by decide +kernel⟩
theorem kw_RX1_99 : CW RX1 99 yX5_known cX5_known 1 (some .int) 0 := ⟨wmi 558 (by decide +kernel) (by decide +kernel), wmi 42 (by decide +kernel) (by decide +kernel), kc_X5_known, by decide, by decide, by decide +kernel⟩
theorem kw_RX2_26 : CW RX2 26 yX2_advance cX2_advance 4 none 0 := ⟨wmi 373 (by decide +kernel) (by decide +kernel), wmi 50 (by decide +kernel) (by decide +kernel), kc_X2_advance, by decide, by decide, by decide +kernel⟩
theorem kw_RX2_29 : CW RX2 29 yX2_readPart cX2_readPart 4 (some .boolean) 1 := ⟨wmi 387 (by decide +kernel) (by decide +kernel), wmi 50 (by decide +kernel) (by decide +kernel), kc_X2_readPart, by decide, by decide, by decide +kernel⟩
theorem kw_RX2_33 : CW RX2 33 yX2_isAtEnd cX2_isAtEnd 1 (some .boolean) 0 := ⟨wmi 482 (by decide +kernel) (by decide +kernel), wmi 50 (by decide +kernel) (by decide +kernel), kc_X2_isAtEnd, by decide, by decide, by decide +kernel⟩
theorem kw_RX2_37 : CW RX2 37 yX2_tableHere cX2_tableHere 2 (some .int) 0 := ⟨wmi 391 (by decide +kernel) (by decide +kernel), wmi 50 (by decide +kernel) (by decide +kernel), kc_X2_tableHere, by decide, by decide, by decide +kernel⟩
theorem kw_RX2_41 : CW RX2 41 yX6_hasRoomForPart cX6_hasRoomForPart 1 (some .boolean) 0 := ⟨wmi 395 (by decide +kernel) (by decide +kernel), wmi 45 (by decide +kernel) (by decide +kernel), kc_X6_hasRoomForPart, by decide, by decide, by decide +kernel⟩
theorem kw_RX2_46 : CW RX2 46 yX6_parts cX6_parts 1 (some .int) 0 := ⟨wmi 399 (by decide +kernel) (by decide +kernel), wmi 45 (by decide +kernel) (by decide +kernel), kc_X6_parts, by decide, by decide, by decide +kernel⟩
theorem kw_RX2_49 : CW RX2 49 yX6_addPart cX6_addPart 2 none 1 := ⟨wmi 403 (by decide +kernel) (by decide +kernel), wmi 45 (by decide +kernel) (by decide +kernel), kc_X6_addPart, by decide, by decide, by decide +kernel⟩
theorem kw_RX2_53 : CW RX2 53 yX2_isSign cX2_isSign 2 (some .boolean) 1 := ⟨wmi 407 (by decide +kernel) (by decide +kernel), wmi 50 (by decide +kernel) (by decide +kernel), kc_X2_isSign, by decide, by decide, by decide +kernel⟩
theorem kw_RX2_57 : CW RX2 57 yX2_readItems cX2_readItems 5 (some .boolean) 2 := ⟨wmi 411 (by decide +kernel) (by decide +kernel), wmi 50 (by decide +kernel) (by decide +kernel), kc_X2_readItems, by decide, by decide, by decide +kernel⟩
theorem kw_RX2_61 : CW RX2 61 yX2_readItem cX2_readItem 5 (some .boolean) 2 := ⟨wmi 415 (by decide +kernel) (by decide +kernel), wmi 50 (by decide +kernel) (by decide +kernel), kc_X2_readItem, by decide, by decide, by decide +kernel⟩
theorem kw_RX2_66 : CW RX2 66 yX2_isWord cX2_isWord 3 (some .boolean) 1 := ⟨wmi 420 (by decide +kernel) (by decide +kernel), wmi 50 (by decide +kernel) (by decide +kernel), kc_X2_isWord, by decide, by decide, by decide +kernel⟩
theorem kw_RX2_70 : CW RX2 70 yX6_addItem cX6_addItem 5 none 4 := ⟨wmi 472 (by decide +kernel) (by decide +kernel), wmi 45 (by decide +kernel) (by decide +kernel), kc_X6_addItem, by decide, by decide, by decide +kernel⟩
theorem kw_RX2_78 : CW RX2 78 yX2_referenceHere cX2_referenceHere 2 (some .int) 0 := ⟨wmi 478 (by decide +kernel) (by decide +kernel), wmi 50 (by decide +kernel) (by decide +kernel), kc_X2_referenceHere, by decide, by decide, by decide +kernel⟩
theorem kw_RX2_81 : CW RX2 81 yX7_byteAt cX7_byteAt 2 (some .int) 1 := ⟨wmi 377 (by decide +kernel) (by decide +kernel), wmi 44 (by decide +kernel) (by decide +kernel), kc_X7_byteAt, by decide, by decide, by decide +kernel⟩
theorem kw_RX2_87 : CW RX2 87 yX2_isLetter cX2_isLetter 1 (some .boolean) 1 := ⟨wmi 381 (by decide +kernel) (by decide +kernel), wmi 50 (by decide +kernel) (by decide +kernel), kc_X2_isLetter, by decide, by decide, by decide +kernel⟩
theorem kw_RX2_90 : CW RX2 90 yX2_isDigit cX2_isDigit 1 (some .boolean) 1 := ⟨wmi 384 (by decide +kernel) (by decide +kernel), wmi 50 (by decide +kernel) (by decide +kernel), kc_X2_isDigit, by decide, by decide, by decide +kernel⟩
theorem kw_RX2_93 : CW RX2 93 yX7_length cX7_length 1 (some .int) 0 := ⟨wmi 486 (by decide +kernel) (by decide +kernel), wmi 44 (by decide +kernel) (by decide +kernel), kc_X7_length, by decide, by decide, by decide +kernel⟩
theorem kw_RX3_9 : CN RX3 9 yX1_init RX8 cX1_init 1 none 0 := ⟨by decide +kernel, wmi 46 (by decide +kernel) (by decide +kernel), kc_X1_init, by decide, by decide, by decide +kernel⟩
theorem kw_RX4_29 : CW RX4 29 yX4_init cX4_init 7 none 6 := ⟨wmi 292 (by decide +kernel) (by decide +kernel), wmi 48 (by decide +kernel) (by decide +kernel), kc_X4_init, by decide, by decide, by decide +kernel⟩
theorem kw_RX5_21 : CW RX5 21 yX5_at cX5_at 2 (some (.object "PaperRows$Row")) 1 := ⟨wmi 212 (by decide +kernel) (by decide +kernel), wmi 42 (by decide +kernel) (by decide +kernel), kc_X5_at, by decide, by decide, by decide +kernel⟩
theorem kw_RX5_29 : CW RX5 29 yX5_standing cX5_standing 3 (some (.object "PaperRows$Row")) 1 := ⟨wmi 682 (by decide +kernel) (by decide +kernel), wmi 42 (by decide +kernel) (by decide +kernel), kc_X5_standing, by decide, by decide, by decide +kernel⟩
theorem kw_RX6_34 : CW RX6 34 yX6_isItem cX6_isItem 2 (some .boolean) 1 := ⟨wmi 530 (by decide +kernel) (by decide +kernel), wmi 45 (by decide +kernel) (by decide +kernel), kc_X6_isItem, by decide, by decide, by decide +kernel⟩
theorem kw_RX7_19 : CW RX7 19 yX7_addByte cX7_addByte 2 none 1 := ⟨wmi 326 (by decide +kernel) (by decide +kernel), wmi 44 (by decide +kernel) (by decide +kernel), kc_X7_addByte, by decide, by decide, by decide +kernel⟩
theorem kw_RX8_101 : CW RX8 101 yX8_answered cX8_answered 2 (some .int) 1 := ⟨wmi 279 (by decide +kernel) (by decide +kernel), wmi 41 (by decide +kernel) (by decide +kernel), kc_X8_answered, by decide, by decide, by decide +kernel⟩
theorem kw_RX8_104 : CW RX8 104 yX5_standing cX5_standing 3 (some (.object "PaperRows$Row")) 1 := ⟨wmi 208 (by decide +kernel) (by decide +kernel), wmi 42 (by decide +kernel) (by decide +kernel), kc_X5_standing, by decide, by decide, by decide +kernel⟩
theorem kw_RX8_108 : CW RX8 108 yX4_withValue cX4_withValue 2 (some (.object "PaperRows$Row")) 1 := ⟨wmi 287 (by decide +kernel) (by decide +kernel), wmi 48 (by decide +kernel) (by decide +kernel), kc_X4_withValue, by decide, by decide, by decide +kernel⟩
theorem kw_RX8_11 : CN RX8 11 yX5_init RX8 cX5_init 1 none 0 := ⟨by decide +kernel, wmi 42 (by decide +kernel) (by decide +kernel), kc_X5_init, by decide, by decide, by decide +kernel⟩
theorem kw_RX8_114 : CW RX8 114 yX4_withReference cX4_withReference 3 (some (.object "PaperRows$Row")) 2 := ⟨wmi 297 (by decide +kernel) (by decide +kernel), wmi 48 (by decide +kernel) (by decide +kernel), kc_X4_withReference, by decide, by decide, by decide +kernel⟩
theorem kw_RX8_118 : CW RX8 118 yX4_gone cX4_gone 1 (some (.object "PaperRows$Row")) 0 := ⟨wmi 305 (by decide +kernel) (by decide +kernel), wmi 48 (by decide +kernel) (by decide +kernel), kc_X4_gone, by decide, by decide, by decide +kernel⟩
theorem kw_RX8_122 : CW RX8 122 yX5_at cX5_at 2 (some (.object "PaperRows$Row")) 1 := ⟨wmi 313 (by decide +kernel) (by decide +kernel), wmi 42 (by decide +kernel) (by decide +kernel), kc_X5_at, by decide, by decide, by decide +kernel⟩
theorem kw_RX8_138 : CW RX8 138 yX7_length cX7_length 1 (some .int) 0 := ⟨wmi 318 (by decide +kernel) (by decide +kernel), wmi 44 (by decide +kernel) (by decide +kernel), kc_X7_length, by decide, by decide, by decide +kernel⟩
theorem kw_RX8_141 : CW RX8 141 yX7_addNumber cX7_addNumber 3 none 1 := ⟨wmi 322 (by decide +kernel) (by decide +kernel), wmi 44 (by decide +kernel) (by decide +kernel), kc_X7_addNumber, by decide, by decide, by decide +kernel⟩
theorem kw_RX8_145 : CW RX8 145 yX7_cutTo cX7_cutTo 2 none 1 := ⟨wmi 334 (by decide +kernel) (by decide +kernel), wmi 44 (by decide +kernel) (by decide +kernel), kc_X7_cutTo, by decide, by decide, by decide +kernel⟩
theorem kw_RX8_148 : CW RX8 148 yX6_clear cX6_clear 1 none 0 := ⟨wmi 346 (by decide +kernel) (by decide +kernel), wmi 45 (by decide +kernel) (by decide +kernel), kc_X6_clear, by decide, by decide, by decide +kernel⟩
theorem kw_RX8_153 : CW RX8 153 yX2_init cX2_init 3 none 2 := ⟨wmi 352 (by decide +kernel) (by decide +kernel), wmi 50 (by decide +kernel) (by decide +kernel), kc_X2_init, by decide, by decide, by decide +kernel⟩
theorem kw_RX8_156 : CW RX8 156 yX2_readText cX2_readText 1 (some .boolean) 0 := ⟨wmi 369 (by decide +kernel) (by decide +kernel), wmi 50 (by decide +kernel) (by decide +kernel), kc_X2_readText, by decide, by decide, by decide +kernel⟩
theorem kw_RX8_159 : CW RX8 159 yX2_place cX2_place 1 (some .int) 0 := ⟨wmi 487 (by decide +kernel) (by decide +kernel), wmi 50 (by decide +kernel) (by decide +kernel), kc_X2_place, by decide, by decide, by decide +kernel⟩
theorem kw_RX8_162 : CW RX8 162 yX6_parts cX6_parts 1 (some .int) 0 := ⟨wmi 491 (by decide +kernel) (by decide +kernel), wmi 45 (by decide +kernel) (by decide +kernel), kc_X6_parts, by decide, by decide, by decide +kernel⟩
theorem kw_RX8_165 : CW RX8 165 yX1_gather cX1_gather 5 none 3 := ⟨wmi 501 (by decide +kernel) (by decide +kernel), wmi 46 (by decide +kernel) (by decide +kernel), kc_X1_gather, by decide, by decide, by decide +kernel⟩
theorem kw_RX8_169 : CW RX8 169 yX1_length cX1_length 1 (some .int) 0 := ⟨wmi 559 (by decide +kernel) (by decide +kernel), wmi 46 (by decide +kernel) (by decide +kernel), kc_X1_length, by decide, by decide, by decide +kernel⟩
theorem kw_RX8_170 : CW RX8 170 yX1_at cX1_at 2 (some .int) 1 := ⟨wmi 567 (by decide +kernel) (by decide +kernel), wmi 46 (by decide +kernel) (by decide +kernel), kc_X1_at, by decide, by decide, by decide +kernel⟩
theorem kw_RX8_18 : CN RX8 18 yX0_init RX8 cX0_init 1 none 0 := ⟨by decide +kernel, wmi 43 (by decide +kernel) (by decide +kernel), kc_X0_init, by decide, by decide, by decide +kernel⟩
theorem kw_RX8_181 : CW RX8 181 yX3_init cX3_init 2 none 1 := ⟨wmi 586 (by decide +kernel) (by decide +kernel), wmi 55 (by decide +kernel) (by decide +kernel), kc_X3_init, by decide, by decide, by decide +kernel⟩
theorem kw_RX8_189 : CW RX8 189 yX1_hasMarksOf cX1_hasMarksOf 3 (some .boolean) 1 := ⟨wmi 605 (by decide +kernel) (by decide +kernel), wmi 46 (by decide +kernel) (by decide +kernel), kc_X1_hasMarksOf, by decide, by decide, by decide +kernel⟩
theorem kw_RX8_193 : CW RX8 193 yX1_takeFrom cX1_takeFrom 3 none 1 := ⟨wmi 610 (by decide +kernel) (by decide +kernel), wmi 46 (by decide +kernel) (by decide +kernel), kc_X1_takeFrom, by decide, by decide, by decide +kernel⟩
theorem kw_RX8_197 : CW RX8 197 yX8_readerAt cX8_readerAt 2 (some (.object "PaperRows$Reader")) 1 := ⟨wmi 618 (by decide +kernel) (by decide +kernel), wmi 41 (by decide +kernel) (by decide +kernel), kc_X8_readerAt, by decide, by decide, by decide +kernel⟩
theorem kw_RX8_201 : CW RX8 201 yX1_isValueAt cX1_isValueAt 2 (some .boolean) 1 := ⟨wmi 630 (by decide +kernel) (by decide +kernel), wmi 46 (by decide +kernel) (by decide +kernel), kc_X1_isValueAt, by decide, by decide, by decide +kernel⟩
theorem kw_RX8_204 : CW RX8 204 yX1_rowAround cX1_rowAround 5 (some .int) 1 := ⟨wmi 635 (by decide +kernel) (by decide +kernel), wmi 46 (by decide +kernel) (by decide +kernel), kc_X1_rowAround, by decide, by decide, by decide +kernel⟩
theorem kw_RX8_207 : CW RX8 207 yX1_put cX1_put 3 none 2 := ⟨wmi 641 (by decide +kernel) (by decide +kernel), wmi 46 (by decide +kernel) (by decide +kernel), kc_X1_put, by decide, by decide, by decide +kernel⟩
theorem kw_RX8_214 : CW RX8 214 yX5_clear cX5_clear 2 none 0 := ⟨wmi 649 (by decide +kernel) (by decide +kernel), wmi 42 (by decide +kernel) (by decide +kernel), kc_X5_clear, by decide, by decide, by decide +kernel⟩
theorem kw_RX8_215 : CW RX8 215 yX0_length cX0_length 1 (some .int) 0 := ⟨wmi 653 (by decide +kernel) (by decide +kernel), wmi 43 (by decide +kernel) (by decide +kernel), kc_X0_length, by decide, by decide, by decide +kernel⟩
theorem kw_RX8_216 : CW RX8 216 yX0_replay cX0_replay 5 none 2 := ⟨wmi 657 (by decide +kernel) (by decide +kernel), wmi 43 (by decide +kernel) (by decide +kernel), kc_X0_replay, by decide, by decide, by decide +kernel⟩
theorem kw_RX8_220 : CW RX8 220 yX5_takeFrom cX5_takeFrom 3 none 1 := ⟨wmi 666 (by decide +kernel) (by decide +kernel), wmi 42 (by decide +kernel) (by decide +kernel), kc_X5_takeFrom, by decide, by decide, by decide +kernel⟩
theorem kw_RX8_223 : CW RX8 223 yX5_put cX5_put 3 none 1 := ⟨wmi 268 (by decide +kernel) (by decide +kernel), wmi 42 (by decide +kernel) (by decide +kernel), kc_X5_put, by decide, by decide, by decide +kernel⟩
theorem kw_RX8_225 : CW RX8 225 yX8_isOtherwiseThen cX8_isOtherwiseThen 2 (some .boolean) 1 := ⟨wmi 670 (by decide +kernel) (by decide +kernel), wmi 41 (by decide +kernel) (by decide +kernel), kc_X8_isOtherwiseThen, by decide, by decide, by decide +kernel⟩
theorem kw_RX8_228 : CW RX8 228 yX5_standingOnes cX5_standingOnes 3 (some .int) 0 := ⟨wmi 678 (by decide +kernel) (by decide +kernel), wmi 42 (by decide +kernel) (by decide +kernel), kc_X5_standingOnes, by decide, by decide, by decide +kernel⟩
theorem kw_RX8_231 : CW RX8 231 yX0_add cX0_add 2 none 1 := ⟨wmi 275 (by decide +kernel) (by decide +kernel), wmi 43 (by decide +kernel) (by decide +kernel), kc_X0_add, by decide, by decide, by decide +kernel⟩
theorem kw_RX8_25 : CN RX8 25 yX7_init RX8 cX7_init 1 none 0 := ⟨by decide +kernel, wmi 44 (by decide +kernel) (by decide +kernel), kc_X7_init, by decide, by decide, by decide +kernel⟩
theorem kw_RX8_38 : CN RX8 38 yX6_init RX8 cX6_init 1 none 0 := ⟨by decide +kernel, wmi 45 (by decide +kernel) (by decide +kernel), kc_X6_init, by decide, by decide, by decide +kernel⟩
theorem kw_RX8_64 : CN RX8 64 yX1_init RX8 cX1_init 1 none 0 := ⟨by decide +kernel, wmi 46 (by decide +kernel) (by decide +kernel), kc_X1_init, by decide, by decide, by decide +kernel⟩
theorem kw_RX8_72 : CW RX8 72 yX8_isValue cX8_isValue 1 (some .boolean) 1 := ⟨wmi 197 (by decide +kernel) (by decide +kernel), wmi 41 (by decide +kernel) (by decide +kernel), kc_X8_isValue, by decide, by decide, by decide +kernel⟩
theorem kw_RX8_76 : CW RX8 76 yX8_refused cX8_refused 2 (some .int) 1 := ⟨wmi 200 (by decide +kernel) (by decide +kernel), wmi 41 (by decide +kernel) (by decide +kernel), kc_X8_refused, by decide, by decide, by decide +kernel⟩
theorem kw_RX8_80 : CW RX8 80 yX8_canBeReferredTo cX8_canBeReferredTo 2 (some .boolean) 1 := ⟨wmi 204 (by decide +kernel) (by decide +kernel), wmi 41 (by decide +kernel) (by decide +kernel), kc_X8_canBeReferredTo, by decide, by decide, by decide +kernel⟩
theorem kw_RX8_83 : CW RX8 83 yX5_isFull cX5_isFull 1 (some .boolean) 0 := ⟨wmi 216 (by decide +kernel) (by decide +kernel), wmi 42 (by decide +kernel) (by decide +kernel), kc_X5_isFull, by decide, by decide, by decide +kernel⟩
theorem kw_RX8_87 : CW RX8 87 yX0_isFull cX0_isFull 1 (some .boolean) 0 := ⟨wmi 220 (by decide +kernel) (by decide +kernel), wmi 43 (by decide +kernel) (by decide +kernel), kc_X0_isFull, by decide, by decide, by decide +kernel⟩
theorem kw_RX8_88 : CW RX8 88 yX5_known cX5_known 1 (some .int) 0 := ⟨wmi 224 (by decide +kernel) (by decide +kernel), wmi 42 (by decide +kernel) (by decide +kernel), kc_X5_known, by decide, by decide, by decide +kernel⟩
theorem kw_RX8_94 : CW RX8 94 yX4_init cX4_init 7 none 6 := ⟨wmi 230 (by decide +kernel) (by decide +kernel), wmi 48 (by decide +kernel) (by decide +kernel), kc_X4_init, by decide, by decide, by decide +kernel⟩
theorem kw_RX8_97 : CW RX8 97 yX8_tell cX8_tell 2 none 1 := ⟨wmi 264 (by decide +kernel) (by decide +kernel), wmi 41 (by decide +kernel) (by decide +kernel), kc_X8_tell, by decide, by decide, by decide +kernel⟩
theorem kw_RX9_132 : CW RX9 132 yX9_goOne cX9_goOne 3 none 1 := ⟨wmi 885 (by decide +kernel) (by decide +kernel), wmi 47 (by decide +kernel) (by decide +kernel), kc_X9_goOne, by decide, by decide, by decide +kernel⟩
theorem kw_RX9_139 : CW RX9 139 yX9_in cX9_in 6 (some .boolean) 3 := ⟨wmi 865 (by decide +kernel) (by decide +kernel), wmi 47 (by decide +kernel) (by decide +kernel), kc_X9_in, by decide, by decide, by decide +kernel⟩
theorem kw_RX9_149 : CW RX9 149 yX9_isValue cX9_isValue 1 (some .boolean) 1 := ⟨wmi 868 (by decide +kernel) (by decide +kernel), wmi 47 (by decide +kernel) (by decide +kernel), kc_X9_isValue, by decide, by decide, by decide +kernel⟩
theorem kw_RX9_153 : CW RX9 153 yX9_told cX9_told 2 (some .int) 1 := ⟨wmi 873 (by decide +kernel) (by decide +kernel), wmi 47 (by decide +kernel) (by decide +kernel), kc_X9_told, by decide, by decide, by decide +kernel⟩
theorem kw_RX9_157 : CW RX9 157 yX9_isRow cX9_isRow 2 (some .boolean) 1 := ⟨wmi 877 (by decide +kernel) (by decide +kernel), wmi 47 (by decide +kernel) (by decide +kernel), kc_X9_isRow, by decide, by decide, by decide +kernel⟩
theorem kw_RX9_160 : CW RX9 160 yX9_tell cX9_tell 7 none 6 := ⟨wmi 881 (by decide +kernel) (by decide +kernel), wmi 47 (by decide +kernel) (by decide +kernel), kc_X9_tell, by decide, by decide, by decide +kernel⟩
theorem kw_RX9_167 : CW RX9 167 yX9_four cX9_four 3 none 1 := ⟨wmi 909 (by decide +kernel) (by decide +kernel), wmi 47 (by decide +kernel) (by decide +kernel), kc_X9_four, by decide, by decide, by decide +kernel⟩
theorem kw_RX9_180 : CW RX9 180 yX9_isSmall cX9_isSmall 1 (some .boolean) 1 := ⟨wmi 925 (by decide +kernel) (by decide +kernel), wmi 47 (by decide +kernel) (by decide +kernel), kc_X9_isSmall, by decide, by decide, by decide +kernel⟩
theorem kw_RX9_183 : CW RX9 183 yX9_isDigit cX9_isDigit 1 (some .boolean) 1 := ⟨wmi 928 (by decide +kernel) (by decide +kernel), wmi 47 (by decide +kernel) (by decide +kernel), kc_X9_isDigit, by decide, by decide, by decide +kernel⟩
theorem kw_RX9_203 : CW RX9 203 yX9_next cX9_next 1 none 0 := ⟨wmi 921 (by decide +kernel) (by decide +kernel), wmi 47 (by decide +kernel) (by decide +kernel), kc_X9_next, by decide, by decide, by decide +kernel⟩
theorem kw_RX9_211 : CW RX9 211 yX9_must cX9_must 2 none 1 := ⟨wmi 941 (by decide +kernel) (by decide +kernel), wmi 47 (by decide +kernel) (by decide +kernel), kc_X9_must, by decide, by decide, by decide +kernel⟩
theorem kw_RX9_215 : CW RX9 215 yX9_isSign cX9_isSign 2 (some .boolean) 1 := ⟨wmi 945 (by decide +kernel) (by decide +kernel), wmi 47 (by decide +kernel) (by decide +kernel), kc_X9_isSign, by decide, by decide, by decide +kernel⟩
theorem kw_RX9_221 : CW RX9 221 yX9_isWord cX9_isWord 7 (some .boolean) 4 := ⟨wmi 953 (by decide +kernel) (by decide +kernel), wmi 47 (by decide +kernel) (by decide +kernel), kc_X9_isWord, by decide, by decide, by decide +kernel⟩
theorem kw_RX9_228 : CW RX9 228 yX9_readPart cX9_readPart 3 (some .boolean) 0 := ⟨wmi 936 (by decide +kernel) (by decide +kernel), wmi 47 (by decide +kernel) (by decide +kernel), kc_X9_readPart, by decide, by decide, by decide +kernel⟩
theorem kw_RX9_232 : CW RX9 232 yX9_readItem cX9_readItem 5 (some .boolean) 0 := ⟨wmi 949 (by decide +kernel) (by decide +kernel), wmi 47 (by decide +kernel) (by decide +kernel), kc_X9_readItem, by decide, by decide, by decide +kernel⟩
theorem kw_RX9_241 : CW RX9 241 yX9_write cX9_write 3 none 2 := ⟨wmi 973 (by decide +kernel) (by decide +kernel), wmi 47 (by decide +kernel) (by decide +kernel), kc_X9_write, by decide, by decide, by decide +kernel⟩
theorem kw_RX9_248 : CW RX9 248 yX9_begin cX9_begin 3 none 2 := ⟨wmi 969 (by decide +kernel) (by decide +kernel), wmi 47 (by decide +kernel) (by decide +kernel), kc_X9_begin, by decide, by decide, by decide +kernel⟩
theorem kw_RX9_251 : CW RX9 251 yX9_nextRow cX9_nextRow 6 (some .int) 3 := ⟨wmi 977 (by decide +kernel) (by decide +kernel), wmi 47 (by decide +kernel) (by decide +kernel), kc_X9_nextRow, by decide, by decide, by decide +kernel⟩
theorem kw_RX9_255 : CW RX9 255 yX9_make cX9_make 5 none 1 := ⟨wmi 965 (by decide +kernel) (by decide +kernel), wmi 47 (by decide +kernel) (by decide +kernel), kc_X9_make, by decide, by decide, by decide +kernel⟩
theorem kw_RX9_262 : CW RX9 262 yX9_goTo cX9_goTo 3 none 1 := ⟨wmi 995 (by decide +kernel) (by decide +kernel), wmi 47 (by decide +kernel) (by decide +kernel), kc_X9_goTo, by decide, by decide, by decide +kernel⟩
theorem kw_RX9_268 : CW RX9 268 yX9_isHeld cX9_isHeld 4 (some .boolean) 1 := ⟨wmi 1007 (by decide +kernel) (by decide +kernel), wmi 47 (by decide +kernel) (by decide +kernel), kc_X9_isHeld, by decide, by decide, by decide +kernel⟩
theorem kw_RX9_274 : CW RX9 274 yX9_isReader cX9_isReader 2 (some .boolean) 1 := ⟨wmi 1015 (by decide +kernel) (by decide +kernel), wmi 47 (by decide +kernel) (by decide +kernel), kc_X9_isReader, by decide, by decide, by decide +kernel⟩
end
section
def P_X8_isValue (x1 : Int32) (σ : Hp) (post : Int32 → Hp → Prop) : Prop :=
  (x1 < (-1000 : Int32) → post (0 : Int32) σ) ∧ (¬ (x1 < (-1000 : Int32)) → ((1000 : Int32) < x1 → post (0 : Int32) σ) ∧ (¬ ((1000 : Int32) < x1) → post (1 : Int32) σ))
set_option maxHeartbeats 2000000 in
set_option maxRecDepth 100000 in
theorem m_X8_isValue (l : Launch) (G : GG) (N0 : Nat) (x1 : Int32) (σ : Hp) (post : Int32 → Hp → Prop) (hP : P_X8_isValue x1 σ post) : MM l G N0 yX8_isValue cX8_isValue 1 (some .boolean) (0) (0) 0 0 [.int x1] σ (pI post) := by
  refine MM.of (by decide) (Nat.le_of_ble_eq_true rfl) ?_
  intro p e s m args below meth c X hr hnm
  refine V.to (lv2 := [(0, .int x1)]) [0] rfl rfl ?_
  unfold P_X8_isValue at hP
  refine V_iload_n X dX8_isValue_0 rfl 0 rfl ?_
  refine V_sipush X (v := (-1000 : Int32)) dX8_isValue_1 (by decide) ?_
  refine V_icmp_lt X (tgt := 18) dX8_isValue_4 (by decide) (fun h1 => ?_) (fun h1 => ?_)
  · have hP := hP.1 h1
    refine V_iconst X (v := (0 : Int32)) dX8_isValue_18 (by decide) ?_
    exact V_iret X hr (Or.inr ⟨rfl, Or.inl rfl⟩) (Nat.le_of_ble_eq_true rfl) (Nat.le_of_ble_eq_true rfl) dX8_isValue_19 ⟨_, rfl, hP⟩
  · have hP := hP.2 h1
    refine V_iload_n X dX8_isValue_7 rfl 0 rfl ?_
    refine V_sipush X (v := (1000 : Int32)) dX8_isValue_8 (by decide) ?_
    refine V_icmp_gt X (tgt := 18) dX8_isValue_11 (by decide) (fun h2 => ?_) (fun h2 => ?_)
    · have hP := hP.1 h2
      refine V_iconst X (v := (0 : Int32)) dX8_isValue_18 (by decide) ?_
      exact V_iret X hr (Or.inr ⟨rfl, Or.inl rfl⟩) (Nat.le_of_ble_eq_true rfl) (Nat.le_of_ble_eq_true rfl) dX8_isValue_19 ⟨_, rfl, hP⟩
    · have hP := hP.2 h2
      refine V_iconst X (v := (1 : Int32)) dX8_isValue_14 (by decide) ?_
      refine V_goto X (tgt := 19) dX8_isValue_15 (by decide) ?_
      exact V_iret X hr (Or.inr ⟨rfl, Or.inr rfl⟩) (Nat.le_of_ble_eq_true rfl) (Nat.le_of_ble_eq_true rfl) dX8_isValue_19 ⟨_, rfl, hP⟩
def P_X0_add (a0 : Nat) (a1 : Nat) (σ : Hp) (post : Hp → Prop) : Prop :=
  gk σ a0 = some (0, 0) ∧ ((gi σ a0 1) < 0 → post σ) ∧ (¬ ((gi σ a0 1) < 0) → ∃ b1 : Nat, (gr σ a0 0) = some b1 ∧ ∃ n2 : Nat, gk σ b1 = some (13, n2) ∧ ((gi σ a0 1) < (Int32.ofNat n2) → vp_in (gi σ a0 1) n2 ∧ gk σ a1 = some (4, 0) ∧ post (si (sr σ b1 (Int32.toNatClampNeg (gi σ a0 1)) (some a1)) a0 1 ((gi (sr σ b1 (Int32.toNatClampNeg (gi σ a0 1)) (some a1)) a0 1) + (1 : Int32)))) ∧ (¬ ((gi σ a0 1) < (Int32.ofNat n2)) → post σ))
set_option maxHeartbeats 2000000 in
set_option maxRecDepth 100000 in
theorem m_X0_add (l : Launch) (G : GG) (N0 : Nat) (a0 : Nat) (a1 : Nat) (σ : Hp) (post : Hp → Prop) (hP : P_X0_add a0 a1 σ post) : MM l G N0 yX0_add cX0_add 2 none (0) (0) 0 0 [.ref a0, .ref a1] σ (pV post) := by
  refine MM.of (by decide) (Nat.le_of_ble_eq_true rfl) ?_
  intro p e s m args below meth c X hr hnm
  refine V.to (lv2 := [(0, .ref a0), (1, .ref a1)]) [0, 1] rfl rfl ?_
  unfold P_X0_add at hP
  refine V_aload_n X dX0_add_0 rfl 0 rfl ?_
  obtain ⟨h1, hP⟩ := hP
  refine V_geti X kf_RX0_17 rfl h1 dX0_add_1 ?_
  refine V_if_lt X (tgt := 19) dX0_add_4 (by decide) (fun h2 => ?_) (fun h2 => ?_)
  · have hP := hP.1 h2
    exact V_vret X hr (Nat.le_of_ble_eq_true rfl) (Nat.le_of_ble_eq_true rfl) dX0_add_19 ⟨rfl, hP⟩
  · have hP := hP.2 h2
    refine V_aload_n X dX0_add_7 rfl 0 rfl ?_
    refine V_geti X kf_RX0_17 rfl h1 dX0_add_8 ?_
    refine V_aload_n X dX0_add_11 rfl 0 rfl ?_
    refine V_getr X kf_RX0_11 rfl h1 dX0_add_12 ?_
    obtain ⟨b1, h3, hP⟩ := hP
    refine V_dr0 h3 ?_
    obtain ⟨n2, h4, hP⟩ := hP
    refine V_alen X (Or.inr (Or.inr (Or.inr rfl))) h4 dX0_add_15 ?_
    refine V_icmp_lt X (tgt := 20) dX0_add_16 (by decide) (fun h5 => ?_) (fun h5 => ?_)
    · have hP := hP.1 h5
      refine V_aload_n X dX0_add_20 rfl 0 rfl ?_
      refine V_getr X kf_RX0_11 rfl h1 dX0_add_21 ?_
      refine V_aload_n X dX0_add_24 rfl 0 rfl ?_
      refine V_geti X kf_RX0_17 rfl h1 dX0_add_25 ?_
      refine V_aload_n X dX0_add_28 rfl 1 rfl ?_
      refine V_dr2 h3 ?_
      obtain ⟨h6, hP⟩ := hP
      obtain ⟨h7, hP⟩ := hP
      refine V_aast X (x := (some a1)) (Or.inr ⟨rfl, rfl⟩) h4 h6 (fun v h => ⟨_, by cases h; exact h7⟩) dX0_add_29 ?_
      refine V_aload_n X dX0_add_30 rfl 0 rfl ?_
      refine V_dup X dX0_add_31 rfl ?_
      refine V_geti X kf_RX0_17 rfl h1 dX0_add_32 ?_
      refine V_iconst X (v := (1 : Int32)) dX0_add_35 (by decide) ?_
      refine V_iadd X dX0_add_36 ?_
      refine V_puti X kf_RX0_17 (fun h => by cases h) rfl h1 (Or.inl rfl) dX0_add_37 ?_
      exact V_vret X hr (Nat.le_of_ble_eq_true rfl) (Nat.le_of_ble_eq_true rfl) dX0_add_40 ⟨rfl, hP⟩
    · have hP := hP.2 h5
      exact V_vret X hr (Nat.le_of_ble_eq_true rfl) (Nat.le_of_ble_eq_true rfl) dX0_add_19 ⟨rfl, hP⟩
def P_X0_init (a0 : Nat) (σ : Hp) (post : Hp → Prop) : Prop :=
  ∀ q1 : Nat, gk σ q1 = none → gk (nw σ q1 13 300) a0 = some (0, 0) ∧ post (si (sr (nw σ q1 13 300) a0 0 (some q1)) a0 1 (0 : Int32))
set_option maxHeartbeats 2000000 in
set_option maxRecDepth 100000 in
theorem m_X0_init (l : Launch) (G : GG) (N0 : Nat) (a0 : Nat) (σ : Hp) (post : Hp → Prop) (hP : P_X0_init a0 σ post) : MM l G N0 yX0_init cX0_init 1 none (1) (20) 1 300 [.ref a0] σ (pV post) := by
  refine MM.of (by decide) (Nat.le_of_ble_eq_true rfl) ?_
  intro p e s m args below meth c X hr hnm
  refine V.to (lv2 := [(0, .ref a0)]) [0] rfl rfl ?_
  unfold P_X0_init at hP
  refine V_aload_n X dX0_init_0 rfl 0 rfl ?_
  refine V_objInit X kl_RX0_3 ko_inst ko_code (Nat.le_of_ble_eq_true rfl) ⟨Nat.le_of_ble_eq_true rfl, Nat.le_of_ble_eq_true rfl⟩ dX0_init_1 ?_
  refine V_aload_n X dX0_init_4 rfl 0 rfl ?_
  refine V_sipush X (v := (300 : Int32)) dX0_init_5 (by decide) ?_
  refine V_newq X (N := 300) (t := 13) (Or.inr ⟨rfl, rfl⟩) kq_RX0_9 (by decide) (by decide) (by decide) (Nat.le_of_ble_eq_true rfl) (Nat.le_of_ble_eq_true rfl) dX0_init_8 (fun q1 h1 => ?_)
  have hP := hP q1 h1
  have h2 : gk (nw σ q1 13 300) q1 = _ := gk_new
  obtain ⟨h3, hP⟩ := hP
  refine V_putr X (v := (some q1)) kf_RX0_11 (fun _ => ⟨hnm, rfl⟩) rfl h3 (Or.inr ⟨_, rfl⟩) dX0_init_11 ?_
  refine V_aload_n X dX0_init_14 rfl 0 rfl ?_
  refine V_iconst X (v := (0 : Int32)) dX0_init_15 (by decide) ?_
  refine V_puti X kf_RX0_17 (fun h => by cases h) rfl h3 (Or.inl rfl) dX0_init_16 ?_
  exact V_vret X hr (Nat.le_of_ble_eq_true rfl) (Nat.le_of_ble_eq_true rfl) dX0_init_19 ⟨rfl, hP⟩
def P_X0_isFull (a0 : Nat) (σ : Hp) (post : Int32 → Hp → Prop) : Prop :=
  gk σ a0 = some (0, 0) ∧ ∃ b1 : Nat, (gr σ a0 0) = some b1 ∧ ∃ n2 : Nat, gk σ b1 = some (13, n2) ∧ ((gi σ a0 1) < (Int32.ofNat n2) → post (0 : Int32) σ) ∧ (¬ ((gi σ a0 1) < (Int32.ofNat n2)) → post (1 : Int32) σ)
set_option maxHeartbeats 2000000 in
set_option maxRecDepth 100000 in
theorem m_X0_isFull (l : Launch) (G : GG) (N0 : Nat) (a0 : Nat) (σ : Hp) (post : Int32 → Hp → Prop) (hP : P_X0_isFull a0 σ post) : MM l G N0 yX0_isFull cX0_isFull 1 (some .boolean) (0) (0) 0 0 [.ref a0] σ (pI post) := by
  refine MM.of (by decide) (Nat.le_of_ble_eq_true rfl) ?_
  intro p e s m args below meth c X hr hnm
  refine V.to (lv2 := [(0, .ref a0)]) [0] rfl rfl ?_
  unfold P_X0_isFull at hP
  refine V_aload_n X dX0_isFull_0 rfl 0 rfl ?_
  obtain ⟨h1, hP⟩ := hP
  refine V_geti X kf_RX0_17 rfl h1 dX0_isFull_1 ?_
  refine V_aload_n X dX0_isFull_4 rfl 0 rfl ?_
  refine V_getr X kf_RX0_11 rfl h1 dX0_isFull_5 ?_
  obtain ⟨b1, h2, hP⟩ := hP
  refine V_dr0 h2 ?_
  obtain ⟨n2, h3, hP⟩ := hP
  refine V_alen X (Or.inr (Or.inr (Or.inr rfl))) h3 dX0_isFull_8 ?_
  refine V_icmp_lt X (tgt := 16) dX0_isFull_9 (by decide) (fun h4 => ?_) (fun h4 => ?_)
  · have hP := hP.1 h4
    refine V_iconst X (v := (0 : Int32)) dX0_isFull_16 (by decide) ?_
    exact V_iret X hr (Or.inr ⟨rfl, Or.inl rfl⟩) (Nat.le_of_ble_eq_true rfl) (Nat.le_of_ble_eq_true rfl) dX0_isFull_17 ⟨_, rfl, hP⟩
  · have hP := hP.2 h4
    refine V_iconst X (v := (1 : Int32)) dX0_isFull_12 (by decide) ?_
    refine V_goto X (tgt := 17) dX0_isFull_13 (by decide) ?_
    exact V_iret X hr (Or.inr ⟨rfl, Or.inr rfl⟩) (Nat.le_of_ble_eq_true rfl) (Nat.le_of_ble_eq_true rfl) dX0_isFull_17 ⟨_, rfl, hP⟩
def P_X0_length (a0 : Nat) (σ : Hp) (post : Int32 → Hp → Prop) : Prop :=
  gk σ a0 = some (0, 0) ∧ post (gi σ a0 1) σ
set_option maxHeartbeats 2000000 in
set_option maxRecDepth 100000 in
theorem m_X0_length (l : Launch) (G : GG) (N0 : Nat) (a0 : Nat) (σ : Hp) (post : Int32 → Hp → Prop) (hP : P_X0_length a0 σ post) : MM l G N0 yX0_length cX0_length 1 (some .int) (0) (0) 0 0 [.ref a0] σ (pI post) := by
  refine MM.of (by decide) (Nat.le_of_ble_eq_true rfl) ?_
  intro p e s m args below meth c X hr hnm
  refine V.to (lv2 := [(0, .ref a0)]) [0] rfl rfl ?_
  unfold P_X0_length at hP
  refine V_aload_n X dX0_length_0 rfl 0 rfl ?_
  obtain ⟨h1, hP⟩ := hP
  refine V_geti X kf_RX0_17 rfl h1 dX0_length_1 ?_
  exact V_iret X hr (Or.inl rfl) (Nat.le_of_ble_eq_true rfl) (Nat.le_of_ble_eq_true rfl) dX0_length_4 ⟨_, rfl, hP⟩
def P_X5_put (a0 : Nat) (a1 : Nat) (σ : Hp) (post : Hp → Prop) : Prop :=
  gk σ a1 = some (4, 0) ∧ ((gi σ a1 0) < 0 → post σ) ∧ (¬ ((gi σ a1 0) < 0) → gk σ a0 = some (5, 0) ∧ ∃ b1 : Nat, (gr σ a0 0) = some b1 ∧ ∃ n2 : Nat, gk σ b1 = some (13, n2) ∧ ((gi σ a1 0) < (Int32.ofNat n2) → vp_in (gi σ a1 0) n2 ∧ post (si (sr σ b1 (Int32.toNatClampNeg (gi σ a1 0)) (some a1)) a0 1 (if (gi (sr σ b1 (Int32.toNatClampNeg (gi σ a1 0)) (some a1)) a0 1) < ((gi σ a1 0) + (1 : Int32)) then ((gi σ a1 0) + (1 : Int32)) else (gi (sr σ b1 (Int32.toNatClampNeg (gi σ a1 0)) (some a1)) a0 1)))) ∧ (¬ ((gi σ a1 0) < (Int32.ofNat n2)) → post σ))
set_option maxHeartbeats 2000000 in
set_option maxRecDepth 100000 in
theorem m_X5_put (l : Launch) (G : GG) (N0 : Nat) (a0 : Nat) (a1 : Nat) (σ : Hp) (post : Hp → Prop) (hP : P_X5_put a0 a1 σ post) : MM l G N0 yX5_put cX5_put 3 none (1) (25) 0 0 [.ref a0, .ref a1] σ (pV post) := by
  refine MM.of (by decide) (Nat.le_of_ble_eq_true rfl) ?_
  intro p e s m args below meth c X hr hnm
  refine V.to (lv2 := [(0, .ref a0), (1, .ref a1)]) [0, 1] rfl rfl ?_
  unfold P_X5_put at hP
  refine V_aload_n X dX5_put_0 rfl 1 rfl ?_
  obtain ⟨h1, hP⟩ := hP
  refine V_geti X kf_RX5_32 rfl h1 dX5_put_1 ?_
  refine V_istore_n X (lv' := [(2, .int (gi σ a1 0)), (0, .ref a0), (1, .ref a1)]) dX5_put_4 rfl (by decide) rfl ?_
  refine V_iload_n X dX5_put_5 rfl 0 rfl ?_
  refine V_if_lt X (tgt := 18) dX5_put_6 (by decide) (fun h2 => ?_) (fun h2 => ?_)
  · have hP := hP.1 h2
    exact V_vret X hr (Nat.le_of_ble_eq_true rfl) (Nat.le_of_ble_eq_true rfl) dX5_put_18 ⟨rfl, hP⟩
  · have hP := hP.2 h2
    refine V_iload_n X dX5_put_9 rfl 0 rfl ?_
    refine V_aload_n X dX5_put_10 rfl 1 rfl ?_
    obtain ⟨h3, hP⟩ := hP
    refine V_getr X kf_RX5_11 rfl h3 dX5_put_11 ?_
    obtain ⟨b1, h4, hP⟩ := hP
    refine V_dr0 h4 ?_
    obtain ⟨n2, h5, hP⟩ := hP
    refine V_alen X (Or.inr (Or.inr (Or.inr rfl))) h5 dX5_put_14 ?_
    refine V_icmp_lt X (tgt := 19) dX5_put_15 (by decide) (fun h6 => ?_) (fun h6 => ?_)
    · have hP := hP.1 h6
      refine V_aload_n X dX5_put_19 rfl 1 rfl ?_
      refine V_getr X kf_RX5_11 rfl h3 dX5_put_20 ?_
      refine V_iload_n X dX5_put_23 rfl 0 rfl ?_
      refine V_aload_n X dX5_put_24 rfl 2 rfl ?_
      refine V_dr2 h4 ?_
      obtain ⟨h7, hP⟩ := hP
      refine V_aast X (x := (some a1)) (Or.inr ⟨rfl, rfl⟩) h5 h7 (fun v h => ⟨_, by cases h; exact h1⟩) dX5_put_25 ?_
      refine V_aload_n X dX5_put_26 rfl 1 rfl ?_
      refine V_aload_n X dX5_put_27 rfl 1 rfl ?_
      refine V_geti X kf_RX5_17 rfl h3 dX5_put_28 ?_
      refine V_iload_n X dX5_put_31 rfl 0 rfl ?_
      refine V_iconst X (v := (1 : Int32)) dX5_put_32 (by decide) ?_
      refine V_iadd X dX5_put_33 ?_
      refine V_mmax X kl_RX5_35 km_max_s km_ini km_max_c (Nat.le_of_ble_eq_true rfl) ⟨Nat.le_of_ble_eq_true rfl, Nat.le_of_ble_eq_true rfl⟩ ⟨Nat.le_of_ble_eq_true rfl, Nat.le_of_ble_eq_true rfl⟩ dX5_put_34 ?_
      refine V_puti X kf_RX5_17 (fun h => by cases h) rfl h3 (Or.inl rfl) dX5_put_37 ?_
      exact V_vret X hr (Nat.le_of_ble_eq_true rfl) (Nat.le_of_ble_eq_true rfl) dX5_put_40 ⟨rfl, hP⟩
    · have hP := hP.2 h6
      exact V_vret X hr (Nat.le_of_ble_eq_true rfl) (Nat.le_of_ble_eq_true rfl) dX5_put_18 ⟨rfl, hP⟩
def F_X0_replay_2 (a0 : Nat) (x1 : Int32) (a2 : Nat) (post : Hp → Prop) (I2 : Int32 → Hp → Prop) (v3 : Int32) (σ2 : Hp) : Prop :=
  (x1 ≤ v3 → post σ2) ∧ (¬ (x1 ≤ v3) → gk σ2 a0 = some (0, 0) ∧ ∃ b201 : Nat, (gr σ2 a0 0) = some b201 ∧ ∃ n202 : Nat, gk σ2 b201 = some (13, n202) ∧ ((Int32.ofNat n202) ≤ v3 → post σ2) ∧ (¬ ((Int32.ofNat n202) ≤ v3) → vp_in v3 n202 ∧ ((gr σ2 b201 (Int32.toNatClampNeg v3)) = none → I2 (v3 + (1 : Int32)) σ2) ∧ (∀ b203 : Nat, (gr σ2 b201 (Int32.toNatClampNeg v3)) = some b203 → gk σ2 a2 = some (5, 0) ∧ P_X5_put a2 b203 σ2 (fun (σ204 : Hp) => I2 (v3 + (1 : Int32)) σ204))))
def P_X0_replay (a0 : Nat) (x1 : Int32) (a2 : Nat) (σ : Hp) (post : Hp → Prop) : Prop :=
  lfp1 (F_X0_replay_2 a0 x1 a2 post) (0 : Int32) σ
set_option maxHeartbeats 2000000 in
set_option maxRecDepth 100000 in
theorem m_X0_replay (l : Launch) (G : GG) (N0 : Nat) (a0 : Nat) (x1 : Int32) (a2 : Nat) (σ : Hp) (post : Hp → Prop) (hP : P_X0_replay a0 x1 a2 σ post) : MM l G N0 yX0_replay cX0_replay 5 none (2) (47) 0 0 [.ref a0, .int x1, .ref a2] σ (pV post) := by
  refine MM.of (by decide) (Nat.le_of_ble_eq_true rfl) ?_
  intro p e s m args below meth c X hr hnm
  refine V.to (lv2 := [(0, .ref a0), (1, .int x1), (2, .ref a2)]) [0, 1, 2] rfl rfl ?_
  unfold P_X0_replay at hP
  refine V_iconst X (v := (0 : Int32)) dX0_replay_0 (by decide) ?_
  refine V_istore_n X (lv' := [(3, .int (0 : Int32)), (0, .ref a0), (1, .int x1), (2, .ref a2)]) dX0_replay_1 rfl (by decide) rfl ?_
  refine V.to (lv2 := [(0, .ref a0), (1, .int x1), (2, .ref a2), (3, .int (0 : Int32))]) [1, 2, 3, 0] rfl rfl ?_
  refine lfp1_use (fun v3 σ2 => V p l e { frames := 2, cells := 0, slots := 0, locals := 47 } s m args below meth c (MQ below (QC G N0 (pV post)) args s 0 0 (AN N0)) G N0 5 σ2 0 0 2 [(0, .ref a0), (1, .int x1), (2, .ref a2), (3, .int v3)] []) hP ?_
  intro v3 σ2 hP
  unfold F_X0_replay_2 at hP
  refine V_iload_n X dX0_replay_2 rfl 3 rfl ?_
  refine V_iload_n X dX0_replay_3 rfl 1 rfl ?_
  refine V_icmp_ge X (tgt := 41) dX0_replay_4 (by decide) (fun h2001 => ?_) (fun h2001 => ?_)
  · have hP := hP.1 h2001
    exact V_vret X hr (Nat.le_of_ble_eq_true rfl) (Nat.le_of_ble_eq_true rfl) dX0_replay_41 ⟨rfl, hP⟩
  · have hP := hP.2 h2001
    refine V_iload_n X dX0_replay_7 rfl 3 rfl ?_
    refine V_aload_n X dX0_replay_8 rfl 0 rfl ?_
    obtain ⟨h2002, hP⟩ := hP
    refine V_getr X kf_RX0_11 rfl h2002 dX0_replay_9 ?_
    obtain ⟨b201, h2003, hP⟩ := hP
    refine V_dr0 h2003 ?_
    obtain ⟨n202, h2004, hP⟩ := hP
    refine V_alen X (Or.inr (Or.inr (Or.inr rfl))) h2004 dX0_replay_12 ?_
    refine V_icmp_ge X (tgt := 41) dX0_replay_13 (by decide) (fun h2005 => ?_) (fun h2005 => ?_)
    · have hP := hP.1 h2005
      exact V_vret X hr (Nat.le_of_ble_eq_true rfl) (Nat.le_of_ble_eq_true rfl) dX0_replay_41 ⟨rfl, hP⟩
    · have hP := hP.2 h2005
      refine V_aload_n X dX0_replay_16 rfl 0 rfl ?_
      refine V_getr X kf_RX0_11 rfl h2002 dX0_replay_17 ?_
      refine V_iload_n X dX0_replay_20 rfl 3 rfl ?_
      refine V_dr1 h2003 ?_
      obtain ⟨h2006, hP⟩ := hP
      refine V_aald X (Or.inr rfl) h2004 h2006 dX0_replay_21 ?_
      refine V_astorer X (x := (gr σ2 b201 (Int32.toNatClampNeg v3))) (lv' := [(4, va_rf (gr σ2 b201 (Int32.toNatClampNeg v3))), (0, .ref a0), (1, .int x1), (2, .ref a2), (3, .int v3)]) dX0_replay_22 (by decide) rfl ?_
      refine V_aloadr X dX0_replay_24 0 rfl ?_
      refine V_ifnull X (tgt := 35) dX0_replay_26 (by decide) (fun h2007 => ?_) (fun b203 h2007 => ?_)
      · have hP := hP.1 h2007
        refine V_iinc X (v := (v3 + (1 : Int32))) (lv' := [(3, .int (v3 + (1 : Int32))), (4, va_rf (gr σ2 b201 (Int32.toNatClampNeg v3))), (0, .ref a0), (1, .int x1), (2, .ref a2)]) dX0_replay_35 4 rfl rfl (by decide) rfl ?_
        refine V_goto X (tgt := 2) dX0_replay_38 (by decide) ?_
        exact V.to [2, 3, 4, 0] rfl rfl hP
      · have hP := hP.2 b203 h2007
        refine V_aload_n X dX0_replay_29 rfl 3 rfl ?_
        refine V_aloadr X dX0_replay_30 0 rfl ?_
        refine V_dr0 h2007 ?_
        obtain ⟨h2008, hP⟩ := hP
        refine V_callV_v X [.ref b203] kw_RX0_21 ki_X5_put ks_X5_put ksg_X5_put (m_X5_put l G N0 _ _ _ _ hP) h2008 (by decide) rfl rfl ⟨Nat.le_of_ble_eq_true rfl, Nat.le_of_ble_eq_true rfl⟩ (Nat.le_of_ble_eq_true rfl) ⟨Nat.le_of_ble_eq_true rfl, Nat.le_of_ble_eq_true rfl⟩ rfl dX0_replay_32 (fun σ204 hP => ?_)
        refine V_iinc X (v := (v3 + (1 : Int32))) (lv' := [(3, .int (v3 + (1 : Int32))), (4, va_rf (gr σ2 b201 (Int32.toNatClampNeg v3))), (0, .ref a0), (1, .int x1), (2, .ref a2)]) dX0_replay_35 4 rfl rfl (by decide) rfl ?_
        refine V_goto X (tgt := 2) dX0_replay_38 (by decide) ?_
        exact V.to [2, 3, 4, 0] rfl rfl hP
def P_X1_add (a0 : Nat) (x1 : Int32) (σ : Hp) (post : Hp → Prop) : Prop :=
  gk σ a0 = some (1, 0) ∧ ((gi σ a0 1) < 0 → post σ) ∧ (¬ ((gi σ a0 1) < 0) → ∃ b1 : Nat, (gr σ a0 0) = some b1 ∧ ∃ n2 : Nat, gk σ b1 = some (10, n2) ∧ ((gi σ a0 1) < (Int32.ofNat n2) → vp_in (gi σ a0 1) n2 ∧ post (si (si σ b1 (Int32.toNatClampNeg (gi σ a0 1)) x1) a0 1 ((gi (si σ b1 (Int32.toNatClampNeg (gi σ a0 1)) x1) a0 1) + (1 : Int32)))) ∧ (¬ ((gi σ a0 1) < (Int32.ofNat n2)) → post σ))
set_option maxHeartbeats 2000000 in
set_option maxRecDepth 100000 in
theorem m_X1_add (l : Launch) (G : GG) (N0 : Nat) (a0 : Nat) (x1 : Int32) (σ : Hp) (post : Hp → Prop) (hP : P_X1_add a0 x1 σ post) : MM l G N0 yX1_add cX1_add 2 none (0) (0) 0 0 [.ref a0, .int x1] σ (pV post) := by
  refine MM.of (by decide) (Nat.le_of_ble_eq_true rfl) ?_
  intro p e s m args below meth c X hr hnm
  refine V.to (lv2 := [(0, .ref a0), (1, .int x1)]) [0, 1] rfl rfl ?_
  unfold P_X1_add at hP
  refine V_aload_n X dX1_add_0 rfl 0 rfl ?_
  obtain ⟨h1, hP⟩ := hP
  refine V_geti X kf_RX1_15 rfl h1 dX1_add_1 ?_
  refine V_if_lt X (tgt := 19) dX1_add_4 (by decide) (fun h2 => ?_) (fun h2 => ?_)
  · have hP := hP.1 h2
    exact V_vret X hr (Nat.le_of_ble_eq_true rfl) (Nat.le_of_ble_eq_true rfl) dX1_add_19 ⟨rfl, hP⟩
  · have hP := hP.2 h2
    refine V_aload_n X dX1_add_7 rfl 0 rfl ?_
    refine V_geti X kf_RX1_15 rfl h1 dX1_add_8 ?_
    refine V_aload_n X dX1_add_11 rfl 0 rfl ?_
    refine V_getr X kf_RX1_9 rfl h1 dX1_add_12 ?_
    obtain ⟨b1, h3, hP⟩ := hP
    refine V_dr0 h3 ?_
    obtain ⟨n2, h4, hP⟩ := hP
    refine V_alen X (Or.inl rfl) h4 dX1_add_15 ?_
    refine V_icmp_lt X (tgt := 20) dX1_add_16 (by decide) (fun h5 => ?_) (fun h5 => ?_)
    · have hP := hP.1 h5
      refine V_aload_n X dX1_add_20 rfl 0 rfl ?_
      refine V_getr X kf_RX1_9 rfl h1 dX1_add_21 ?_
      refine V_aload_n X dX1_add_24 rfl 0 rfl ?_
      refine V_geti X kf_RX1_15 rfl h1 dX1_add_25 ?_
      refine V_iload_n X dX1_add_28 rfl 1 rfl ?_
      refine V_dr2 h3 ?_
      obtain ⟨h6, hP⟩ := hP
      refine V_iast X h4 h6 dX1_add_29 ?_
      refine V_aload_n X dX1_add_30 rfl 0 rfl ?_
      refine V_dup X dX1_add_31 rfl ?_
      refine V_geti X kf_RX1_15 rfl h1 dX1_add_32 ?_
      refine V_iconst X (v := (1 : Int32)) dX1_add_35 (by decide) ?_
      refine V_iadd X dX1_add_36 ?_
      refine V_puti X kf_RX1_15 (fun h => by cases h) rfl h1 (Or.inl rfl) dX1_add_37 ?_
      exact V_vret X hr (Nat.le_of_ble_eq_true rfl) (Nat.le_of_ble_eq_true rfl) dX1_add_40 ⟨rfl, hP⟩
    · have hP := hP.2 h5
      exact V_vret X hr (Nat.le_of_ble_eq_true rfl) (Nat.le_of_ble_eq_true rfl) dX1_add_19 ⟨rfl, hP⟩
def P_X4_referenceBy (a0 : Nat) (x1 : Int32) (σ : Hp) (post : Int32 → Hp → Prop) : Prop :=
  (¬ x1 = 0 → gk σ a0 = some (4, 0) ∧ post (gi σ a0 4) σ) ∧ (x1 = 0 → gk σ a0 = some (4, 0) ∧ post (gi σ a0 3) σ)
set_option maxHeartbeats 2000000 in
set_option maxRecDepth 100000 in
theorem m_X4_referenceBy (l : Launch) (G : GG) (N0 : Nat) (a0 : Nat) (x1 : Int32) (σ : Hp) (post : Int32 → Hp → Prop) (hP : P_X4_referenceBy a0 x1 σ post) : MM l G N0 yX4_referenceBy cX4_referenceBy 2 (some .int) (0) (0) 0 0 [.ref a0, .int x1] σ (pI post) := by
  refine MM.of (by decide) (Nat.le_of_ble_eq_true rfl) ?_
  intro p e s m args below meth c X hr hnm
  refine V.to (lv2 := [(0, .ref a0), (1, .int x1)]) [0, 1] rfl rfl ?_
  unfold P_X4_referenceBy at hP
  refine V_iload_n X dX4_referenceBy_0 rfl 1 rfl ?_
  refine V_if_ne X (tgt := 11) dX4_referenceBy_1 (by decide) (fun h1 => ?_) (fun h1 => ?_)
  · have hP := hP.1 h1
    refine V_aload_n X dX4_referenceBy_11 rfl 0 rfl ?_
    obtain ⟨h2, hP⟩ := hP
    refine V_geti X kf_RX4_22 rfl h2 dX4_referenceBy_12 ?_
    exact V_iret X hr (Or.inl rfl) (Nat.le_of_ble_eq_true rfl) (Nat.le_of_ble_eq_true rfl) dX4_referenceBy_15 ⟨_, rfl, hP⟩
  · have hP := hP.2 h1
    refine V_aload_n X dX4_referenceBy_4 rfl 0 rfl ?_
    obtain ⟨h3, hP⟩ := hP
    refine V_geti X kf_RX4_19 rfl h3 dX4_referenceBy_5 ?_
    refine V_goto X (tgt := 15) dX4_referenceBy_8 (by decide) ?_
    exact V_iret X hr (Or.inl rfl) (Nat.le_of_ble_eq_true rfl) (Nat.le_of_ble_eq_true rfl) dX4_referenceBy_15 ⟨_, rfl, hP⟩
def P_X5_at (a0 : Nat) (x1 : Int32) (σ : Hp) (post : Option Nat → Hp → Prop) : Prop :=
  (x1 < 0 → post none σ) ∧ (¬ (x1 < 0) → gk σ a0 = some (5, 0) ∧ ∃ b1 : Nat, (gr σ a0 0) = some b1 ∧ ∃ n2 : Nat, gk σ b1 = some (13, n2) ∧ ((Int32.ofNat n2) ≤ x1 → post none σ) ∧ (¬ ((Int32.ofNat n2) ≤ x1) → vp_in x1 n2 ∧ post (gr σ b1 (Int32.toNatClampNeg x1)) σ))
set_option maxHeartbeats 2000000 in
set_option maxRecDepth 100000 in
theorem m_X5_at (l : Launch) (G : GG) (N0 : Nat) (a0 : Nat) (x1 : Int32) (σ : Hp) (post : Option Nat → Hp → Prop) (hP : P_X5_at a0 x1 σ post) : MM l G N0 yX5_at cX5_at 2 (some (.object "PaperRows$Row")) (0) (0) 0 0 [.ref a0, .int x1] σ (pR post) := by
  refine MM.of (by decide) (Nat.le_of_ble_eq_true rfl) ?_
  intro p e s m args below meth c X hr hnm
  refine V.to (lv2 := [(0, .ref a0), (1, .int x1)]) [0, 1] rfl rfl ?_
  unfold P_X5_at at hP
  refine V_iload_n X dX5_at_0 rfl 1 rfl ?_
  refine V_if_lt X (tgt := 22) dX5_at_1 (by decide) (fun h1 => ?_) (fun h1 => ?_)
  · have hP := hP.1 h1
    refine V_null X dX5_at_22 ?_
    exact V_aret X (v := none) hr (Or.inl ⟨_, rfl⟩) (Nat.le_of_ble_eq_true rfl) (Nat.le_of_ble_eq_true rfl) dX5_at_23 ⟨_, rfl, hP⟩
  · have hP := hP.2 h1
    refine V_iload_n X dX5_at_4 rfl 1 rfl ?_
    refine V_aload_n X dX5_at_5 rfl 0 rfl ?_
    obtain ⟨h2, hP⟩ := hP
    refine V_getr X kf_RX5_11 rfl h2 dX5_at_6 ?_
    obtain ⟨b1, h3, hP⟩ := hP
    refine V_dr0 h3 ?_
    obtain ⟨n2, h4, hP⟩ := hP
    refine V_alen X (Or.inr (Or.inr (Or.inr rfl))) h4 dX5_at_9 ?_
    refine V_icmp_ge X (tgt := 22) dX5_at_10 (by decide) (fun h5 => ?_) (fun h5 => ?_)
    · have hP := hP.1 h5
      refine V_null X dX5_at_22 ?_
      exact V_aret X (v := none) hr (Or.inl ⟨_, rfl⟩) (Nat.le_of_ble_eq_true rfl) (Nat.le_of_ble_eq_true rfl) dX5_at_23 ⟨_, rfl, hP⟩
    · have hP := hP.2 h5
      refine V_aload_n X dX5_at_13 rfl 0 rfl ?_
      refine V_getr X kf_RX5_11 rfl h2 dX5_at_14 ?_
      refine V_iload_n X dX5_at_17 rfl 1 rfl ?_
      refine V_dr1 h3 ?_
      obtain ⟨h6, hP⟩ := hP
      refine V_aald X (Or.inr rfl) h4 h6 dX5_at_18 ?_
      refine V_goto X (tgt := 23) dX5_at_19 (by decide) ?_
      exact V_aret X (v := (gr σ b1 (Int32.toNatClampNeg x1))) hr (Or.inl ⟨_, rfl⟩) (Nat.le_of_ble_eq_true rfl) (Nat.le_of_ble_eq_true rfl) dX5_at_23 ⟨_, rfl, hP⟩
def P_X5_standing (a0 : Nat) (x1 : Int32) (σ : Hp) (post : Option Nat → Hp → Prop) : Prop :=
  gk σ a0 = some (5, 0) ∧ P_X5_at a0 x1 σ (fun (r1 : Option Nat) (σ1 : Hp) => (r1 = none → post none σ1) ∧ (∀ b2 : Nat, r1 = some b2 → gk σ1 b2 = some (4, 0) ∧ ((gi σ1 b2 5) = 0 → post none σ1) ∧ (¬ ((gi σ1 b2 5) = 0) → post r1 σ1)))
set_option maxHeartbeats 2000000 in
set_option maxRecDepth 100000 in
theorem m_X5_standing (l : Launch) (G : GG) (N0 : Nat) (a0 : Nat) (x1 : Int32) (σ : Hp) (post : Option Nat → Hp → Prop) (hP : P_X5_standing a0 x1 σ post) : MM l G N0 yX5_standing cX5_standing 3 (some (.object "PaperRows$Row")) (1) (21) 0 0 [.ref a0, .int x1] σ (pR post) := by
  refine MM.of (by decide) (Nat.le_of_ble_eq_true rfl) ?_
  intro p e s m args below meth c X hr hnm
  refine V.to (lv2 := [(0, .ref a0), (1, .int x1)]) [0, 1] rfl rfl ?_
  unfold P_X5_standing at hP
  refine V_aload_n X dX5_standing_0 rfl 0 rfl ?_
  refine V_iload_n X dX5_standing_1 rfl 1 rfl ?_
  obtain ⟨h1, hP⟩ := hP
  refine V_callV_r X [.int x1] kw_RX5_21 ki_X5_at ks_X5_at ksg_X5_at (m_X5_at l G N0 _ _ _ _ hP) h1 (by decide) rfl rfl ⟨Nat.le_of_ble_eq_true rfl, Nat.le_of_ble_eq_true rfl⟩ (Nat.le_of_ble_eq_true rfl) ⟨Nat.le_of_ble_eq_true rfl, Nat.le_of_ble_eq_true rfl⟩ rfl dX5_standing_2 (fun r1 σ1 hP => ?_)
  refine V_astore_nr X (x := r1) (lv' := [(2, va_rf r1), (0, .ref a0), (1, .int x1)]) dX5_standing_5 rfl (by decide) rfl ?_
  refine V_aload_nr X dX5_standing_6 rfl 0 rfl ?_
  refine V_ifnull X (tgt := 21) dX5_standing_7 (by decide) (fun h2 => ?_) (fun b2 h2 => ?_)
  · have hP := hP.1 h2
    refine V_null X dX5_standing_21 ?_
    exact V_aret X (v := none) hr (Or.inl ⟨_, rfl⟩) (Nat.le_of_ble_eq_true rfl) (Nat.le_of_ble_eq_true rfl) dX5_standing_22 ⟨_, rfl, hP⟩
  · have hP := hP.2 b2 h2
    refine V_aload_nr X dX5_standing_10 rfl 0 rfl ?_
    refine V_dr0 h2 ?_
    obtain ⟨h3, hP⟩ := hP
    refine V_geti X kf_RX5_25 rfl h3 dX5_standing_11 ?_
    refine V_if_eq X (tgt := 21) dX5_standing_14 (by decide) (fun h4 => ?_) (fun h4 => ?_)
    · have hP := hP.1 h4
      refine V_null X dX5_standing_21 ?_
      exact V_aret X (v := none) hr (Or.inl ⟨_, rfl⟩) (Nat.le_of_ble_eq_true rfl) (Nat.le_of_ble_eq_true rfl) dX5_standing_22 ⟨_, rfl, hP⟩
    · have hP := hP.2 h4
      refine V_aload_nr X dX5_standing_17 rfl 0 rfl ?_
      refine V_goto X (tgt := 22) dX5_standing_18 (by decide) ?_
      exact V_aret X (v := r1) hr (Or.inl ⟨_, rfl⟩) (Nat.le_of_ble_eq_true rfl) (Nat.le_of_ble_eq_true rfl) dX5_standing_22 ⟨_, rfl, hP⟩
def P_X6_isItem (a0 : Nat) (x1 : Int32) (σ : Hp) (post : Int32 → Hp → Prop) : Prop :=
  (x1 < 0 → post (0 : Int32) σ) ∧ (¬ (x1 < 0) → gk σ a0 = some (6, 0) ∧ ((gi σ a0 6) ≤ x1 → post (0 : Int32) σ) ∧ (¬ ((gi σ a0 6) ≤ x1) → ((100 : Int32) ≤ x1 → post (0 : Int32) σ) ∧ (¬ ((100 : Int32) ≤ x1) → post (1 : Int32) σ)))
set_option maxHeartbeats 2000000 in
set_option maxRecDepth 100000 in
theorem m_X6_isItem (l : Launch) (G : GG) (N0 : Nat) (a0 : Nat) (x1 : Int32) (σ : Hp) (post : Int32 → Hp → Prop) (hP : P_X6_isItem a0 x1 σ post) : MM l G N0 yX6_isItem cX6_isItem 2 (some .boolean) (0) (0) 0 0 [.ref a0, .int x1] σ (pI post) := by
  refine MM.of (by decide) (Nat.le_of_ble_eq_true rfl) ?_
  intro p e s m args below meth c X hr hnm
  refine V.to (lv2 := [(0, .ref a0), (1, .int x1)]) [0, 1] rfl rfl ?_
  unfold P_X6_isItem at hP
  refine V_iload_n X dX6_isItem_0 rfl 1 rfl ?_
  refine V_if_lt X (tgt := 22) dX6_isItem_1 (by decide) (fun h1 => ?_) (fun h1 => ?_)
  · have hP := hP.1 h1
    refine V_iconst X (v := (0 : Int32)) dX6_isItem_22 (by decide) ?_
    exact V_iret X hr (Or.inr ⟨rfl, Or.inl rfl⟩) (Nat.le_of_ble_eq_true rfl) (Nat.le_of_ble_eq_true rfl) dX6_isItem_23 ⟨_, rfl, hP⟩
  · have hP := hP.2 h1
    refine V_iload_n X dX6_isItem_4 rfl 1 rfl ?_
    refine V_aload_n X dX6_isItem_5 rfl 0 rfl ?_
    obtain ⟨h2, hP⟩ := hP
    refine V_geti X kf_RX6_31 rfl h2 dX6_isItem_6 ?_
    refine V_icmp_ge X (tgt := 22) dX6_isItem_9 (by decide) (fun h3 => ?_) (fun h3 => ?_)
    · have hP := hP.1 h3
      refine V_iconst X (v := (0 : Int32)) dX6_isItem_22 (by decide) ?_
      exact V_iret X hr (Or.inr ⟨rfl, Or.inl rfl⟩) (Nat.le_of_ble_eq_true rfl) (Nat.le_of_ble_eq_true rfl) dX6_isItem_23 ⟨_, rfl, hP⟩
    · have hP := hP.2 h3
      refine V_iload_n X dX6_isItem_12 rfl 1 rfl ?_
      refine V_bipush X (v := (100 : Int32)) dX6_isItem_13 (by decide) ?_
      refine V_icmp_ge X (tgt := 22) dX6_isItem_15 (by decide) (fun h4 => ?_) (fun h4 => ?_)
      · have hP := hP.1 h4
        refine V_iconst X (v := (0 : Int32)) dX6_isItem_22 (by decide) ?_
        exact V_iret X hr (Or.inr ⟨rfl, Or.inl rfl⟩) (Nat.le_of_ble_eq_true rfl) (Nat.le_of_ble_eq_true rfl) dX6_isItem_23 ⟨_, rfl, hP⟩
      · have hP := hP.2 h4
        refine V_iconst X (v := (1 : Int32)) dX6_isItem_18 (by decide) ?_
        refine V_goto X (tgt := 23) dX6_isItem_19 (by decide) ?_
        exact V_iret X hr (Or.inr ⟨rfl, Or.inr rfl⟩) (Nat.le_of_ble_eq_true rfl) (Nat.le_of_ble_eq_true rfl) dX6_isItem_23 ⟨_, rfl, hP⟩
def P_X6_partWithin (a0 : Nat) (x1 : Int32) (σ : Hp) (post : Int32 → Hp → Prop) : Prop :=
  gk σ a0 = some (6, 0) ∧ P_X6_isItem a0 x1 σ (fun (r1 : Int32) (σ1 : Hp) => (r1 = 0 → post (-1 : Int32) σ1) ∧ (¬ (r1 = 0) → gk σ1 a0 = some (6, 0) ∧ ∃ b2 : Nat, (gr σ1 a0 4) = some b2 ∧ ∃ n3 : Nat, gk σ1 b2 = some (10, n3) ∧ vp_in x1 n3 ∧ post (gi σ1 b2 (Int32.toNatClampNeg x1)) σ1))
set_option maxHeartbeats 2000000 in
set_option maxRecDepth 100000 in
theorem m_X6_partWithin (l : Launch) (G : GG) (N0 : Nat) (a0 : Nat) (x1 : Int32) (σ : Hp) (post : Int32 → Hp → Prop) (hP : P_X6_partWithin a0 x1 σ post) : MM l G N0 yX6_partWithin cX6_partWithin 2 (some .int) (1) (21) 0 0 [.ref a0, .int x1] σ (pI post) := by
  refine MM.of (by decide) (Nat.le_of_ble_eq_true rfl) ?_
  intro p e s m args below meth c X hr hnm
  refine V.to (lv2 := [(0, .ref a0), (1, .int x1)]) [0, 1] rfl rfl ?_
  unfold P_X6_partWithin at hP
  refine V_aload_n X dX6_partWithin_0 rfl 0 rfl ?_
  refine V_iload_n X dX6_partWithin_1 rfl 1 rfl ?_
  obtain ⟨h1, hP⟩ := hP
  refine V_callV_i X [.int x1] kw_RX6_34 ki_X6_isItem ks_X6_isItem ksg_X6_isItem (m_X6_isItem l G N0 _ _ _ _ hP) h1 (by decide) rfl rfl ⟨Nat.le_of_ble_eq_true rfl, Nat.le_of_ble_eq_true rfl⟩ (Nat.le_of_ble_eq_true rfl) ⟨Nat.le_of_ble_eq_true rfl, Nat.le_of_ble_eq_true rfl⟩ rfl dX6_partWithin_2 (fun r1 σ1 hP => ?_)
  refine V_if_eq X (tgt := 17) dX6_partWithin_5 (by decide) (fun h2 => ?_) (fun h2 => ?_)
  · have hP := hP.1 h2
    refine V_iconst X (v := (-1 : Int32)) dX6_partWithin_17 (by decide) ?_
    exact V_iret X hr (Or.inl rfl) (Nat.le_of_ble_eq_true rfl) (Nat.le_of_ble_eq_true rfl) dX6_partWithin_18 ⟨_, rfl, hP⟩
  · have hP := hP.2 h2
    refine V_aload_n X dX6_partWithin_8 rfl 0 rfl ?_
    obtain ⟨h3, hP⟩ := hP
    refine V_getr X kf_RX6_24 rfl h3 dX6_partWithin_9 ?_
    refine V_iload_n X dX6_partWithin_12 rfl 1 rfl ?_
    obtain ⟨b2, h4, hP⟩ := hP
    refine V_dr1 h4 ?_
    obtain ⟨n3, h5, hP⟩ := hP
    obtain ⟨h6, hP⟩ := hP
    refine V_iald X h5 h6 dX6_partWithin_13 ?_
    refine V_goto X (tgt := 18) dX6_partWithin_14 (by decide) ?_
    exact V_iret X hr (Or.inl rfl) (Nat.le_of_ble_eq_true rfl) (Nat.le_of_ble_eq_true rfl) dX6_partWithin_18 ⟨_, rfl, hP⟩
def P_X6_referenceOf (a0 : Nat) (x1 : Int32) (σ : Hp) (post : Int32 → Hp → Prop) : Prop :=
  gk σ a0 = some (6, 0) ∧ P_X6_isItem a0 x1 σ (fun (r1 : Int32) (σ1 : Hp) => (r1 = 0 → post (-1 : Int32) σ1) ∧ (¬ (r1 = 0) → gk σ1 a0 = some (6, 0) ∧ ∃ b2 : Nat, (gr σ1 a0 3) = some b2 ∧ ∃ n3 : Nat, gk σ1 b2 = some (10, n3) ∧ vp_in x1 n3 ∧ post (gi σ1 b2 (Int32.toNatClampNeg x1)) σ1))
set_option maxHeartbeats 2000000 in
set_option maxRecDepth 100000 in
theorem m_X6_referenceOf (l : Launch) (G : GG) (N0 : Nat) (a0 : Nat) (x1 : Int32) (σ : Hp) (post : Int32 → Hp → Prop) (hP : P_X6_referenceOf a0 x1 σ post) : MM l G N0 yX6_referenceOf cX6_referenceOf 2 (some .int) (1) (21) 0 0 [.ref a0, .int x1] σ (pI post) := by
  refine MM.of (by decide) (Nat.le_of_ble_eq_true rfl) ?_
  intro p e s m args below meth c X hr hnm
  refine V.to (lv2 := [(0, .ref a0), (1, .int x1)]) [0, 1] rfl rfl ?_
  unfold P_X6_referenceOf at hP
  refine V_aload_n X dX6_referenceOf_0 rfl 0 rfl ?_
  refine V_iload_n X dX6_referenceOf_1 rfl 1 rfl ?_
  obtain ⟨h1, hP⟩ := hP
  refine V_callV_i X [.int x1] kw_RX6_34 ki_X6_isItem ks_X6_isItem ksg_X6_isItem (m_X6_isItem l G N0 _ _ _ _ hP) h1 (by decide) rfl rfl ⟨Nat.le_of_ble_eq_true rfl, Nat.le_of_ble_eq_true rfl⟩ (Nat.le_of_ble_eq_true rfl) ⟨Nat.le_of_ble_eq_true rfl, Nat.le_of_ble_eq_true rfl⟩ rfl dX6_referenceOf_2 (fun r1 σ1 hP => ?_)
  refine V_if_eq X (tgt := 17) dX6_referenceOf_5 (by decide) (fun h2 => ?_) (fun h2 => ?_)
  · have hP := hP.1 h2
    refine V_iconst X (v := (-1 : Int32)) dX6_referenceOf_17 (by decide) ?_
    exact V_iret X hr (Or.inl rfl) (Nat.le_of_ble_eq_true rfl) (Nat.le_of_ble_eq_true rfl) dX6_referenceOf_18 ⟨_, rfl, hP⟩
  · have hP := hP.2 h2
    refine V_aload_n X dX6_referenceOf_8 rfl 0 rfl ?_
    obtain ⟨h3, hP⟩ := hP
    refine V_getr X kf_RX6_21 rfl h3 dX6_referenceOf_9 ?_
    refine V_iload_n X dX6_referenceOf_12 rfl 1 rfl ?_
    obtain ⟨b2, h4, hP⟩ := hP
    refine V_dr1 h4 ?_
    obtain ⟨n3, h5, hP⟩ := hP
    obtain ⟨h6, hP⟩ := hP
    refine V_iald X h5 h6 dX6_referenceOf_13 ?_
    refine V_goto X (tgt := 18) dX6_referenceOf_14 (by decide) ?_
    exact V_iret X hr (Or.inl rfl) (Nat.le_of_ble_eq_true rfl) (Nat.le_of_ble_eq_true rfl) dX6_referenceOf_18 ⟨_, rfl, hP⟩
def P_X6_tableOf (a0 : Nat) (x1 : Int32) (σ : Hp) (post : Int32 → Hp → Prop) : Prop :=
  (x1 < 0 → post (-1 : Int32) σ) ∧ (¬ (x1 < 0) → gk σ a0 = some (6, 0) ∧ ((gi σ a0 5) ≤ x1 → post (-1 : Int32) σ) ∧ (¬ ((gi σ a0 5) ≤ x1) → ∃ b1 : Nat, (gr σ a0 0) = some b1 ∧ ∃ n2 : Nat, gk σ b1 = some (10, n2) ∧ ((Int32.ofNat n2) ≤ x1 → post (-1 : Int32) σ) ∧ (¬ ((Int32.ofNat n2) ≤ x1) → vp_in x1 n2 ∧ post (gi σ b1 (Int32.toNatClampNeg x1)) σ)))
set_option maxHeartbeats 2000000 in
set_option maxRecDepth 100000 in
theorem m_X6_tableOf (l : Launch) (G : GG) (N0 : Nat) (a0 : Nat) (x1 : Int32) (σ : Hp) (post : Int32 → Hp → Prop) (hP : P_X6_tableOf a0 x1 σ post) : MM l G N0 yX6_tableOf cX6_tableOf 2 (some .int) (0) (0) 0 0 [.ref a0, .int x1] σ (pI post) := by
  refine MM.of (by decide) (Nat.le_of_ble_eq_true rfl) ?_
  intro p e s m args below meth c X hr hnm
  refine V.to (lv2 := [(0, .ref a0), (1, .int x1)]) [0, 1] rfl rfl ?_
  unfold P_X6_tableOf at hP
  refine V_iload_n X dX6_tableOf_0 rfl 1 rfl ?_
  refine V_if_lt X (tgt := 30) dX6_tableOf_1 (by decide) (fun h1 => ?_) (fun h1 => ?_)
  · have hP := hP.1 h1
    refine V_iconst X (v := (-1 : Int32)) dX6_tableOf_30 (by decide) ?_
    exact V_iret X hr (Or.inl rfl) (Nat.le_of_ble_eq_true rfl) (Nat.le_of_ble_eq_true rfl) dX6_tableOf_31 ⟨_, rfl, hP⟩
  · have hP := hP.2 h1
    refine V_iload_n X dX6_tableOf_4 rfl 1 rfl ?_
    refine V_aload_n X dX6_tableOf_5 rfl 0 rfl ?_
    obtain ⟨h2, hP⟩ := hP
    refine V_geti X kf_RX6_27 rfl h2 dX6_tableOf_6 ?_
    refine V_icmp_ge X (tgt := 30) dX6_tableOf_9 (by decide) (fun h3 => ?_) (fun h3 => ?_)
    · have hP := hP.1 h3
      refine V_iconst X (v := (-1 : Int32)) dX6_tableOf_30 (by decide) ?_
      exact V_iret X hr (Or.inl rfl) (Nat.le_of_ble_eq_true rfl) (Nat.le_of_ble_eq_true rfl) dX6_tableOf_31 ⟨_, rfl, hP⟩
    · have hP := hP.2 h3
      refine V_iload_n X dX6_tableOf_12 rfl 1 rfl ?_
      refine V_aload_n X dX6_tableOf_13 rfl 0 rfl ?_
      refine V_getr X kf_RX6_9 rfl h2 dX6_tableOf_14 ?_
      obtain ⟨b1, h4, hP⟩ := hP
      refine V_dr0 h4 ?_
      obtain ⟨n2, h5, hP⟩ := hP
      refine V_alen X (Or.inl rfl) h5 dX6_tableOf_17 ?_
      refine V_icmp_ge X (tgt := 30) dX6_tableOf_18 (by decide) (fun h6 => ?_) (fun h6 => ?_)
      · have hP := hP.1 h6
        refine V_iconst X (v := (-1 : Int32)) dX6_tableOf_30 (by decide) ?_
        exact V_iret X hr (Or.inl rfl) (Nat.le_of_ble_eq_true rfl) (Nat.le_of_ble_eq_true rfl) dX6_tableOf_31 ⟨_, rfl, hP⟩
      · have hP := hP.2 h6
        refine V_aload_n X dX6_tableOf_21 rfl 0 rfl ?_
        refine V_getr X kf_RX6_9 rfl h2 dX6_tableOf_22 ?_
        refine V_iload_n X dX6_tableOf_25 rfl 1 rfl ?_
        refine V_dr1 h4 ?_
        obtain ⟨h7, hP⟩ := hP
        refine V_iald X h5 h7 dX6_tableOf_26 ?_
        refine V_goto X (tgt := 31) dX6_tableOf_27 (by decide) ?_
        exact V_iret X hr (Or.inl rfl) (Nat.le_of_ble_eq_true rfl) (Nat.le_of_ble_eq_true rfl) dX6_tableOf_31 ⟨_, rfl, hP⟩
def P_X1_isFull (a0 : Nat) (σ : Hp) (post : Int32 → Hp → Prop) : Prop :=
  gk σ a0 = some (1, 0) ∧ ∃ b1 : Nat, (gr σ a0 0) = some b1 ∧ ∃ n2 : Nat, gk σ b1 = some (10, n2) ∧ ((gi σ a0 1) < (Int32.ofNat n2) → post (0 : Int32) σ) ∧ (¬ ((gi σ a0 1) < (Int32.ofNat n2)) → post (1 : Int32) σ)
set_option maxHeartbeats 2000000 in
set_option maxRecDepth 100000 in
theorem m_X1_isFull (l : Launch) (G : GG) (N0 : Nat) (a0 : Nat) (σ : Hp) (post : Int32 → Hp → Prop) (hP : P_X1_isFull a0 σ post) : MM l G N0 yX1_isFull cX1_isFull 1 (some .boolean) (0) (0) 0 0 [.ref a0] σ (pI post) := by
  refine MM.of (by decide) (Nat.le_of_ble_eq_true rfl) ?_
  intro p e s m args below meth c X hr hnm
  refine V.to (lv2 := [(0, .ref a0)]) [0] rfl rfl ?_
  unfold P_X1_isFull at hP
  refine V_aload_n X dX1_isFull_0 rfl 0 rfl ?_
  obtain ⟨h1, hP⟩ := hP
  refine V_geti X kf_RX1_15 rfl h1 dX1_isFull_1 ?_
  refine V_aload_n X dX1_isFull_4 rfl 0 rfl ?_
  refine V_getr X kf_RX1_9 rfl h1 dX1_isFull_5 ?_
  obtain ⟨b1, h2, hP⟩ := hP
  refine V_dr0 h2 ?_
  obtain ⟨n2, h3, hP⟩ := hP
  refine V_alen X (Or.inl rfl) h3 dX1_isFull_8 ?_
  refine V_icmp_lt X (tgt := 16) dX1_isFull_9 (by decide) (fun h4 => ?_) (fun h4 => ?_)
  · have hP := hP.1 h4
    refine V_iconst X (v := (0 : Int32)) dX1_isFull_16 (by decide) ?_
    exact V_iret X hr (Or.inr ⟨rfl, Or.inl rfl⟩) (Nat.le_of_ble_eq_true rfl) (Nat.le_of_ble_eq_true rfl) dX1_isFull_17 ⟨_, rfl, hP⟩
  · have hP := hP.2 h4
    refine V_iconst X (v := (1 : Int32)) dX1_isFull_12 (by decide) ?_
    refine V_goto X (tgt := 17) dX1_isFull_13 (by decide) ?_
    exact V_iret X hr (Or.inr ⟨rfl, Or.inr rfl⟩) (Nat.le_of_ble_eq_true rfl) (Nat.le_of_ble_eq_true rfl) dX1_isFull_17 ⟨_, rfl, hP⟩
def P_X6_items (a0 : Nat) (σ : Hp) (post : Int32 → Hp → Prop) : Prop :=
  gk σ a0 = some (6, 0) ∧ post (gi σ a0 6) σ
set_option maxHeartbeats 2000000 in
set_option maxRecDepth 100000 in
theorem m_X6_items (l : Launch) (G : GG) (N0 : Nat) (a0 : Nat) (σ : Hp) (post : Int32 → Hp → Prop) (hP : P_X6_items a0 σ post) : MM l G N0 yX6_items cX6_items 1 (some .int) (0) (0) 0 0 [.ref a0] σ (pI post) := by
  refine MM.of (by decide) (Nat.le_of_ble_eq_true rfl) ?_
  intro p e s m args below meth c X hr hnm
  refine V.to (lv2 := [(0, .ref a0)]) [0] rfl rfl ?_
  unfold P_X6_items at hP
  refine V_aload_n X dX6_items_0 rfl 0 rfl ?_
  obtain ⟨h1, hP⟩ := hP
  refine V_geti X kf_RX6_31 rfl h1 dX6_items_1 ?_
  exact V_iret X hr (Or.inl rfl) (Nat.le_of_ble_eq_true rfl) (Nat.le_of_ble_eq_true rfl) dX6_items_4 ⟨_, rfl, hP⟩
def P_X6_kindOf (a0 : Nat) (x1 : Int32) (σ : Hp) (post : Int32 → Hp → Prop) : Prop :=
  gk σ a0 = some (6, 0) ∧ P_X6_isItem a0 x1 σ (fun (r1 : Int32) (σ1 : Hp) => (r1 = 0 → post (-1 : Int32) σ1) ∧ (¬ (r1 = 0) → gk σ1 a0 = some (6, 0) ∧ ∃ b2 : Nat, (gr σ1 a0 2) = some b2 ∧ ∃ n3 : Nat, gk σ1 b2 = some (10, n3) ∧ vp_in x1 n3 ∧ post (gi σ1 b2 (Int32.toNatClampNeg x1)) σ1))
set_option maxHeartbeats 2000000 in
set_option maxRecDepth 100000 in
theorem m_X6_kindOf (l : Launch) (G : GG) (N0 : Nat) (a0 : Nat) (x1 : Int32) (σ : Hp) (post : Int32 → Hp → Prop) (hP : P_X6_kindOf a0 x1 σ post) : MM l G N0 yX6_kindOf cX6_kindOf 2 (some .int) (1) (21) 0 0 [.ref a0, .int x1] σ (pI post) := by
  refine MM.of (by decide) (Nat.le_of_ble_eq_true rfl) ?_
  intro p e s m args below meth c X hr hnm
  refine V.to (lv2 := [(0, .ref a0), (1, .int x1)]) [0, 1] rfl rfl ?_
  unfold P_X6_kindOf at hP
  refine V_aload_n X dX6_kindOf_0 rfl 0 rfl ?_
  refine V_iload_n X dX6_kindOf_1 rfl 1 rfl ?_
  obtain ⟨h1, hP⟩ := hP
  refine V_callV_i X [.int x1] kw_RX6_34 ki_X6_isItem ks_X6_isItem ksg_X6_isItem (m_X6_isItem l G N0 _ _ _ _ hP) h1 (by decide) rfl rfl ⟨Nat.le_of_ble_eq_true rfl, Nat.le_of_ble_eq_true rfl⟩ (Nat.le_of_ble_eq_true rfl) ⟨Nat.le_of_ble_eq_true rfl, Nat.le_of_ble_eq_true rfl⟩ rfl dX6_kindOf_2 (fun r1 σ1 hP => ?_)
  refine V_if_eq X (tgt := 17) dX6_kindOf_5 (by decide) (fun h2 => ?_) (fun h2 => ?_)
  · have hP := hP.1 h2
    refine V_iconst X (v := (-1 : Int32)) dX6_kindOf_17 (by decide) ?_
    exact V_iret X hr (Or.inl rfl) (Nat.le_of_ble_eq_true rfl) (Nat.le_of_ble_eq_true rfl) dX6_kindOf_18 ⟨_, rfl, hP⟩
  · have hP := hP.2 h2
    refine V_aload_n X dX6_kindOf_8 rfl 0 rfl ?_
    obtain ⟨h3, hP⟩ := hP
    refine V_getr X kf_RX6_18 rfl h3 dX6_kindOf_9 ?_
    refine V_iload_n X dX6_kindOf_12 rfl 1 rfl ?_
    obtain ⟨b2, h4, hP⟩ := hP
    refine V_dr1 h4 ?_
    obtain ⟨n3, h5, hP⟩ := hP
    obtain ⟨h6, hP⟩ := hP
    refine V_iald X h5 h6 dX6_kindOf_13 ?_
    refine V_goto X (tgt := 18) dX6_kindOf_14 (by decide) ?_
    exact V_iret X hr (Or.inl rfl) (Nat.le_of_ble_eq_true rfl) (Nat.le_of_ble_eq_true rfl) dX6_kindOf_18 ⟨_, rfl, hP⟩
def P_X6_ownerOf (a0 : Nat) (x1 : Int32) (σ : Hp) (post : Int32 → Hp → Prop) : Prop :=
  gk σ a0 = some (6, 0) ∧ P_X6_isItem a0 x1 σ (fun (r1 : Int32) (σ1 : Hp) => (r1 = 0 → post (-1 : Int32) σ1) ∧ (¬ (r1 = 0) → gk σ1 a0 = some (6, 0) ∧ ∃ b2 : Nat, (gr σ1 a0 1) = some b2 ∧ ∃ n3 : Nat, gk σ1 b2 = some (10, n3) ∧ vp_in x1 n3 ∧ post (gi σ1 b2 (Int32.toNatClampNeg x1)) σ1))
set_option maxHeartbeats 2000000 in
set_option maxRecDepth 100000 in
theorem m_X6_ownerOf (l : Launch) (G : GG) (N0 : Nat) (a0 : Nat) (x1 : Int32) (σ : Hp) (post : Int32 → Hp → Prop) (hP : P_X6_ownerOf a0 x1 σ post) : MM l G N0 yX6_ownerOf cX6_ownerOf 2 (some .int) (1) (21) 0 0 [.ref a0, .int x1] σ (pI post) := by
  refine MM.of (by decide) (Nat.le_of_ble_eq_true rfl) ?_
  intro p e s m args below meth c X hr hnm
  refine V.to (lv2 := [(0, .ref a0), (1, .int x1)]) [0, 1] rfl rfl ?_
  unfold P_X6_ownerOf at hP
  refine V_aload_n X dX6_ownerOf_0 rfl 0 rfl ?_
  refine V_iload_n X dX6_ownerOf_1 rfl 1 rfl ?_
  obtain ⟨h1, hP⟩ := hP
  refine V_callV_i X [.int x1] kw_RX6_34 ki_X6_isItem ks_X6_isItem ksg_X6_isItem (m_X6_isItem l G N0 _ _ _ _ hP) h1 (by decide) rfl rfl ⟨Nat.le_of_ble_eq_true rfl, Nat.le_of_ble_eq_true rfl⟩ (Nat.le_of_ble_eq_true rfl) ⟨Nat.le_of_ble_eq_true rfl, Nat.le_of_ble_eq_true rfl⟩ rfl dX6_ownerOf_2 (fun r1 σ1 hP => ?_)
  refine V_if_eq X (tgt := 17) dX6_ownerOf_5 (by decide) (fun h2 => ?_) (fun h2 => ?_)
  · have hP := hP.1 h2
    refine V_iconst X (v := (-1 : Int32)) dX6_ownerOf_17 (by decide) ?_
    exact V_iret X hr (Or.inl rfl) (Nat.le_of_ble_eq_true rfl) (Nat.le_of_ble_eq_true rfl) dX6_ownerOf_18 ⟨_, rfl, hP⟩
  · have hP := hP.2 h2
    refine V_aload_n X dX6_ownerOf_8 rfl 0 rfl ?_
    obtain ⟨h3, hP⟩ := hP
    refine V_getr X kf_RX6_15 rfl h3 dX6_ownerOf_9 ?_
    refine V_iload_n X dX6_ownerOf_12 rfl 1 rfl ?_
    obtain ⟨b2, h4, hP⟩ := hP
    refine V_dr1 h4 ?_
    obtain ⟨n3, h5, hP⟩ := hP
    obtain ⟨h6, hP⟩ := hP
    refine V_iald X h5 h6 dX6_ownerOf_13 ?_
    refine V_goto X (tgt := 18) dX6_ownerOf_14 (by decide) ?_
    exact V_iret X hr (Or.inl rfl) (Nat.le_of_ble_eq_true rfl) (Nat.le_of_ble_eq_true rfl) dX6_ownerOf_18 ⟨_, rfl, hP⟩
def P_X5_known (a0 : Nat) (σ : Hp) (post : Int32 → Hp → Prop) : Prop :=
  gk σ a0 = some (5, 0) ∧ post (gi σ a0 1) σ
set_option maxHeartbeats 2000000 in
set_option maxRecDepth 100000 in
theorem m_X5_known (l : Launch) (G : GG) (N0 : Nat) (a0 : Nat) (σ : Hp) (post : Int32 → Hp → Prop) (hP : P_X5_known a0 σ post) : MM l G N0 yX5_known cX5_known 1 (some .int) (0) (0) 0 0 [.ref a0] σ (pI post) := by
  refine MM.of (by decide) (Nat.le_of_ble_eq_true rfl) ?_
  intro p e s m args below meth c X hr hnm
  refine V.to (lv2 := [(0, .ref a0)]) [0] rfl rfl ?_
  unfold P_X5_known at hP
  refine V_aload_n X dX5_known_0 rfl 0 rfl ?_
  obtain ⟨h1, hP⟩ := hP
  refine V_geti X kf_RX5_17 rfl h1 dX5_known_1 ?_
  exact V_iret X hr (Or.inl rfl) (Nat.le_of_ble_eq_true rfl) (Nat.le_of_ble_eq_true rfl) dX5_known_4 ⟨_, rfl, hP⟩
def O_X1_addUp (P_X1_addPart : Nat → Nat → Nat → Int32 → Nat → Int32 → Hp → (Hp → Prop) → Prop) (a0 : Nat) (a1 : Nat) (a2 : Nat) (x3 : Int32) (a4 : Nat) (x5 : Int32) (σ : Hp) (post : Hp → Prop) : Prop :=
  gk σ a1 = some (6, 0) ∧ P_X6_partWithin a1 x3 σ (fun (r1 : Int32) (σ1 : Hp) => gk σ1 a1 = some (6, 0) ∧ P_X6_referenceOf a1 x3 σ1 (fun (r2 : Int32) (σ2 : Hp) => gk σ2 a4 = some (4, 0) ∧ P_X4_referenceBy a4 r2 σ2 (fun (r3 : Int32) (σ3 : Hp) => gk σ3 a2 = some (5, 0) ∧ P_X5_standing a2 r3 σ3 (fun (r4 : Option Nat) (σ4 : Hp) => (r4 = none → post σ4) ∧ (∀ b5 : Nat, r4 = some b5 → gk σ4 b5 = some (4, 0) ∧ gk σ4 a1 = some (6, 0) ∧ P_X6_tableOf a1 r1 σ4 (fun (r6 : Int32) (σ6 : Hp) => (¬ (gi σ4 b5 1) = r6 → post σ6) ∧ ((gi σ4 b5 1) = r6 → gk σ6 a0 = some (1, 0) ∧ P_X1_addPart a0 a1 a2 r1 b5 (x5 + (1 : Int32)) σ6 (fun (σ7 : Hp) => post σ7))))))))
set_option maxHeartbeats 2000000 in
set_option maxRecDepth 100000 in
theorem mO_X1_addUp (l : Launch) (G : GG) (N0 : Nat) {fr lo : Nat} (hfr : 20 ≤ fr) (hlo : 400 ≤ lo) (P_X1_addPart : Nat → Nat → Nat → Int32 → Nat → Int32 → Hp → (Hp → Prop) → Prop) (hX1_addPart : ∀ (a0 : Nat) (a1 : Nat) (a2 : Nat) (x3 : Int32) (a4 : Nat) (x5 : Int32) (σ : Hp) (post : Hp → Prop), P_X1_addPart a0 a1 a2 x3 a4 x5 σ post → MM l G N0 yX1_addPart cX1_addPart 11 none fr lo 0 0 [.ref a0, .ref a1, .ref a2, .int x3, .ref a4, .int x5] σ (pV post)) (a0 : Nat) (a1 : Nat) (a2 : Nat) (x3 : Int32) (a4 : Nat) (x5 : Int32) (σ : Hp) (post : Hp → Prop) (hP : O_X1_addUp P_X1_addPart a0 a1 a2 x3 a4 x5 σ post) : MM l G N0 yX1_addUp cX1_addUp 8 none (fr + 1) (lo + 39) 0 0 [.ref a0, .ref a1, .ref a2, .int x3, .ref a4, .int x5] σ (pV post) := by
  refine MM.of (by decide) (Nat.le_of_ble_eq_true rfl) ?_
  intro p e s m args below meth c X hr hnm
  refine V.to (lv2 := [(0, .ref a0), (1, .ref a1), (2, .ref a2), (3, .int x3), (4, .ref a4), (5, .int x5)]) [0, 1, 2, 3, 4, 5] rfl rfl ?_
  unfold O_X1_addUp at hP
  refine V_aload_n X dX1_addUp_0 rfl 1 rfl ?_
  refine V_iload_n X dX1_addUp_1 rfl 3 rfl ?_
  obtain ⟨h1, hP⟩ := hP
  refine V_callV_i X [.int x3] kw_RX1_90 ki_X6_partWithin ks_X6_partWithin ksg_X6_partWithin (m_X6_partWithin l G N0 _ _ _ _ hP) h1 (by decide) rfl rfl ⟨show 1 + 1 ≤ fr + 1 from by omega, show 8 + (2 + 11) + 21 ≤ lo + 39 from by omega⟩ (Nat.le_of_ble_eq_true rfl) ⟨Nat.le_of_ble_eq_true rfl, Nat.le_of_ble_eq_true rfl⟩ rfl dX1_addUp_2 (fun r1 σ1 hP => ?_)
  refine V_istore X (lv' := [(6, .int r1), (0, .ref a0), (1, .ref a1), (2, .ref a2), (3, .int x3), (4, .ref a4), (5, .int x5)]) dX1_addUp_5 (by decide) rfl ?_
  refine V_aload_n X dX1_addUp_7 rfl 3 rfl ?_
  refine V_aload X dX1_addUp_8 5 rfl ?_
  refine V_aload_n X dX1_addUp_10 rfl 2 rfl ?_
  refine V_iload_n X dX1_addUp_11 rfl 4 rfl ?_
  obtain ⟨h2, hP⟩ := hP
  refine V_callV_i X [.int x3] kw_RX1_93 ki_X6_referenceOf ks_X6_referenceOf ksg_X6_referenceOf (m_X6_referenceOf l G N0 _ _ _ _ hP) h2 (by decide) rfl rfl ⟨show 1 + 1 ≤ fr + 1 from by omega, show 8 + (2 + 11) + 21 ≤ lo + 39 from by omega⟩ (Nat.le_of_ble_eq_true rfl) ⟨Nat.le_of_ble_eq_true rfl, Nat.le_of_ble_eq_true rfl⟩ rfl dX1_addUp_12 (fun r2 σ2 hP => ?_)
  obtain ⟨h3, hP⟩ := hP
  refine V_callV_i X [.int r2] kw_RX1_96 ki_X4_referenceBy ks_X4_referenceBy ksg_X4_referenceBy (m_X4_referenceBy l G N0 _ _ _ _ hP) h3 (by decide) rfl rfl ⟨show 0 + 1 ≤ fr + 1 from by omega, show 8 + (2 + 11) + 0 ≤ lo + 39 from by omega⟩ (Nat.le_of_ble_eq_true rfl) ⟨Nat.le_of_ble_eq_true rfl, Nat.le_of_ble_eq_true rfl⟩ rfl dX1_addUp_15 (fun r3 σ3 hP => ?_)
  obtain ⟨h4, hP⟩ := hP
  refine V_callV_r X [.int r3] kw_RX1_40 ki_X5_standing ks_X5_standing ksg_X5_standing (m_X5_standing l G N0 _ _ _ _ hP) h4 (by decide) rfl rfl ⟨show 1 + 1 ≤ fr + 1 from by omega, show 8 + (3 + 11) + 21 ≤ lo + 39 from by omega⟩ (Nat.le_of_ble_eq_true rfl) ⟨Nat.le_of_ble_eq_true rfl, Nat.le_of_ble_eq_true rfl⟩ rfl dX1_addUp_18 (fun r4 σ4 hP => ?_)
  refine V_astorer X (x := r4) (lv' := [(7, va_rf r4), (6, .int r1), (0, .ref a0), (1, .ref a1), (2, .ref a2), (3, .int x3), (4, .ref a4), (5, .int x5)]) dX1_addUp_21 (by decide) rfl ?_
  refine V_aloadr X dX1_addUp_23 0 rfl ?_
  refine V_ifnull X (tgt := 56) dX1_addUp_25 (by decide) (fun h5 => ?_) (fun b5 h5 => ?_)
  · have hP := hP.1 h5
    exact V_vret X hr (Nat.le_of_ble_eq_true rfl) (Nat.le_of_ble_eq_true rfl) dX1_addUp_56 ⟨rfl, hP⟩
  · have hP := hP.2 b5 h5
    refine V_aloadr X dX1_addUp_28 0 rfl ?_
    refine V_dr0 h5 ?_
    obtain ⟨h6, hP⟩ := hP
    refine V_geti X kf_RX1_46 rfl h6 dX1_addUp_30 ?_
    refine V_aload_n X dX1_addUp_33 rfl 3 rfl ?_
    refine V_iload X dX1_addUp_34 1 rfl ?_
    obtain ⟨h7, hP⟩ := hP
    refine V_callV_i X [.int r1] kw_RX1_51 ki_X6_tableOf ks_X6_tableOf ksg_X6_tableOf (m_X6_tableOf l G N0 _ _ _ _ hP) h7 (by decide) rfl rfl ⟨show 0 + 1 ≤ fr + 1 from by omega, show 8 + (2 + 11) + 0 ≤ lo + 39 from by omega⟩ (Nat.le_of_ble_eq_true rfl) ⟨Nat.le_of_ble_eq_true rfl, Nat.le_of_ble_eq_true rfl⟩ rfl dX1_addUp_36 (fun r6 σ6 hP => ?_)
    refine V_icmp_ne X (tgt := 56) dX1_addUp_39 (by decide) (fun h8 => ?_) (fun h8 => ?_)
    · have hP := hP.1 h8
      exact V_vret X hr (Nat.le_of_ble_eq_true rfl) (Nat.le_of_ble_eq_true rfl) dX1_addUp_56 ⟨rfl, hP⟩
    · have hP := hP.2 h8
      refine V_aload_n X dX1_addUp_42 rfl 2 rfl ?_
      refine V_aload_n X dX1_addUp_43 rfl 3 rfl ?_
      refine V_aload_n X dX1_addUp_44 rfl 4 rfl ?_
      refine V_iload X dX1_addUp_45 1 rfl ?_
      refine V_aloadr X dX1_addUp_47 0 rfl ?_
      refine V_iload X dX1_addUp_49 7 rfl ?_
      refine V_iconst X (v := (1 : Int32)) dX1_addUp_51 (by decide) ?_
      refine V_iadd X dX1_addUp_52 ?_
      refine V_dr1 h5 ?_
      obtain ⟨h9, hP⟩ := hP
      refine V_callV_v X [.ref a1, .ref a2, .int r1, .ref b5, .int (x5 + (1 : Int32))] kw_RX1_56 ki_X1_addPart ks_X1_addPart ksg_X1_addPart (hX1_addPart _ _ _ _ _ _ _ _ hP) h9 (by decide) rfl rfl ⟨show fr + 1 ≤ fr + 1 from Nat.le_refl _, show 8 + (11 + 11) + lo ≤ lo + 39 from by omega⟩ (Nat.le_of_ble_eq_true rfl) ⟨Nat.le_of_ble_eq_true rfl, Nat.le_of_ble_eq_true rfl⟩ rfl dX1_addUp_53 (fun σ7 hP => ?_)
      exact V_vret X hr (Nat.le_of_ble_eq_true rfl) (Nat.le_of_ble_eq_true rfl) dX1_addUp_56 ⟨rfl, hP⟩
def F_X1_addPart_83 (P_X1_addDown : Nat → Nat → Nat → Int32 → Nat → Int32 → Hp → (Hp → Prop) → Prop) (P_X1_addUp : Nat → Nat → Nat → Int32 → Nat → Int32 → Hp → (Hp → Prop) → Prop) (a0 : Nat) (a1 : Nat) (a2 : Nat) (x3 : Int32) (a4 : Nat) (x5 : Int32) (u8 : Int32) (post : Hp → Prop) (K174 : Int32 → Hp → Prop) (I83 : Int32 → Hp → Prop) (v9 : Int32) (σ83 : Hp) : Prop :=
  (u8 ≤ v9 → K174 v9 σ83) ∧ (¬ (u8 ≤ v9) → gk σ83 a1 = some (6, 0) ∧ P_X6_ownerOf a1 v9 σ83 (fun (r8301 : Int32) (σ8301 : Hp) => (¬ r8301 = x3 → (¬ (-1 : Int32) = 0 → (¬ (-1 : Int32) = (1 : Int32) → (¬ (-1 : Int32) = (2 : Int32) → I83 (v9 + (1 : Int32)) σ8301) ∧ ((-1 : Int32) = (2 : Int32) → gk σ8301 a0 = some (1, 0) ∧ P_X1_addDown a0 a1 a2 v9 a4 x5 σ8301 (fun (σ8302 : Hp) => I83 (v9 + (1 : Int32)) σ8302))) ∧ ((-1 : Int32) = (1 : Int32) → gk σ8301 a0 = some (1, 0) ∧ P_X1_addUp a0 a1 a2 v9 a4 x5 σ8301 (fun (σ8303 : Hp) => I83 (v9 + (1 : Int32)) σ8303))) ∧ ((-1 : Int32) = 0 → gk σ8301 a4 = some (4, 0) ∧ gk σ8301 a0 = some (1, 0) ∧ P_X1_add a0 (gi σ8301 a4 2) σ8301 (fun (σ8304 : Hp) => I83 (v9 + (1 : Int32)) σ8304))) ∧ (r8301 = x3 → gk σ8301 a1 = some (6, 0) ∧ P_X6_kindOf a1 v9 σ8301 (fun (r8305 : Int32) (σ8305 : Hp) => (¬ r8305 = 0 → (¬ r8305 = (1 : Int32) → (¬ r8305 = (2 : Int32) → I83 (v9 + (1 : Int32)) σ8305) ∧ (r8305 = (2 : Int32) → gk σ8305 a0 = some (1, 0) ∧ P_X1_addDown a0 a1 a2 v9 a4 x5 σ8305 (fun (σ8306 : Hp) => I83 (v9 + (1 : Int32)) σ8306))) ∧ (r8305 = (1 : Int32) → gk σ8305 a0 = some (1, 0) ∧ P_X1_addUp a0 a1 a2 v9 a4 x5 σ8305 (fun (σ8307 : Hp) => I83 (v9 + (1 : Int32)) σ8307))) ∧ (r8305 = 0 → gk σ8305 a4 = some (4, 0) ∧ gk σ8305 a0 = some (1, 0) ∧ P_X1_add a0 (gi σ8305 a4 2) σ8305 (fun (σ8308 : Hp) => I83 (v9 + (1 : Int32)) σ8308))))))
def O_X1_addPart (P_X1_addDown : Nat → Nat → Nat → Int32 → Nat → Int32 → Hp → (Hp → Prop) → Prop) (P_X1_addUp : Nat → Nat → Nat → Int32 → Nat → Int32 → Hp → (Hp → Prop) → Prop) (a0 : Nat) (a1 : Nat) (a2 : Nat) (x3 : Int32) (a4 : Nat) (x5 : Int32) (σ : Hp) (post : Hp → Prop) : Prop :=
  ((6 : Int32) < x5 → post σ) ∧ (¬ ((6 : Int32) < x5) → gk σ a0 = some (1, 0) ∧ P_X1_isFull a0 σ (fun (r1 : Int32) (σ1 : Hp) => (r1 = 0 → gk σ1 a4 = some (4, 0) ∧ gk σ1 a0 = some (1, 0) ∧ ((lg_cmp ((gl σ1 a0 2) &&& ((1 : Int64) <<< (Int32.toInt64 (gi σ1 a4 0) &&& 63))) (0 : Int64)) = 0 → P_X1_add a0 ((10000 : Int32) + (gi (sl σ1 a0 2 ((gl σ1 a0 2) ||| ((1 : Int64) <<< (Int32.toInt64 (gi σ1 a4 0) &&& 63)))) a4 0)) (sl σ1 a0 2 ((gl σ1 a0 2) ||| ((1 : Int64) <<< (Int32.toInt64 (gi σ1 a4 0) &&& 63)))) (fun (σ2 : Hp) => gk σ2 a1 = some (6, 0) ∧ P_X6_items a1 σ2 (fun (r3 : Int32) (σ3 : Hp) => lfp1 (F_X1_addPart_83 P_X1_addDown P_X1_addUp a0 a1 a2 x3 a4 x5 r3 post (fun (v9_174 : Int32) (σx174 : Hp) => gk σx174 a0 = some (1, 0) ∧ P_X1_add a0 (30000 : Int32) σx174 (fun (σ4 : Hp) => post σ4))) (0 : Int32) σ3))) ∧ (¬ ((lg_cmp ((gl σ1 a0 2) &&& ((1 : Int64) <<< (Int32.toInt64 (gi σ1 a4 0) &&& 63))) (0 : Int64)) = 0) → P_X1_add a0 ((20000 : Int32) + (gi σ1 a4 0)) σ1 (fun (σ5 : Hp) => post σ5))) ∧ (¬ (r1 = 0) → post σ1)))
set_option maxHeartbeats 2000000 in
set_option maxRecDepth 100000 in
theorem mO_X1_addPart (l : Launch) (G : GG) (N0 : Nat) {fr lo : Nat} (hfr : 20 ≤ fr) (hlo : 400 ≤ lo) (P_X1_addDown : Nat → Nat → Nat → Int32 → Nat → Int32 → Hp → (Hp → Prop) → Prop) (hX1_addDown : ∀ (a0 : Nat) (a1 : Nat) (a2 : Nat) (x3 : Int32) (a4 : Nat) (x5 : Int32) (σ : Hp) (post : Hp → Prop), P_X1_addDown a0 a1 a2 x3 a4 x5 σ post → MM l G N0 yX1_addDown cX1_addDown 11 none fr lo 0 0 [.ref a0, .ref a1, .ref a2, .int x3, .ref a4, .int x5] σ (pV post)) (P_X1_addUp : Nat → Nat → Nat → Int32 → Nat → Int32 → Hp → (Hp → Prop) → Prop) (hX1_addUp : ∀ (a0 : Nat) (a1 : Nat) (a2 : Nat) (x3 : Int32) (a4 : Nat) (x5 : Int32) (σ : Hp) (post : Hp → Prop), P_X1_addUp a0 a1 a2 x3 a4 x5 σ post → MM l G N0 yX1_addUp cX1_addUp 8 none fr lo 0 0 [.ref a0, .ref a1, .ref a2, .int x3, .ref a4, .int x5] σ (pV post)) (a0 : Nat) (a1 : Nat) (a2 : Nat) (x3 : Int32) (a4 : Nat) (x5 : Int32) (σ : Hp) (post : Hp → Prop) (hP : O_X1_addPart P_X1_addDown P_X1_addUp a0 a1 a2 x3 a4 x5 σ post) : MM l G N0 yX1_addPart cX1_addPart 11 none (fr + 1) (lo + 39) 0 0 [.ref a0, .ref a1, .ref a2, .int x3, .ref a4, .int x5] σ (pV post) := by
  refine MM.of (by decide) (Nat.le_of_ble_eq_true rfl) ?_
  intro p e s m args below meth c X hr hnm
  refine V.to (lv2 := [(0, .ref a0), (1, .ref a1), (2, .ref a2), (3, .int x3), (4, .ref a4), (5, .int x5)]) [0, 1, 2, 3, 4, 5] rfl rfl ?_
  unfold O_X1_addPart at hP
  refine V_iload X dX1_addPart_0 5 rfl ?_
  refine V_bipush X (v := (6 : Int32)) dX1_addPart_2 (by decide) ?_
  refine V_icmp_gt X (tgt := 14) dX1_addPart_4 (by decide) (fun h1 => ?_) (fun h1 => ?_)
  · have hP := hP.1 h1
    exact V_vret X hr (Nat.le_of_ble_eq_true rfl) (Nat.le_of_ble_eq_true rfl) dX1_addPart_14 ⟨rfl, hP⟩
  · have hP := hP.2 h1
    refine V_aload_n X dX1_addPart_7 rfl 0 rfl ?_
    obtain ⟨h2, hP⟩ := hP
    refine V_callV_i X [] kw_RX1_60 ki_X1_isFull ks_X1_isFull ksg_X1_isFull (m_X1_isFull l G N0 _ _ _ hP) h2 (by decide) rfl rfl ⟨show 0 + 1 ≤ fr + 1 from by omega, show 8 + (1 + 11) + 0 ≤ lo + 39 from by omega⟩ (Nat.le_of_ble_eq_true rfl) ⟨Nat.le_of_ble_eq_true rfl, Nat.le_of_ble_eq_true rfl⟩ rfl dX1_addPart_8 (fun r1 σ1 hP => ?_)
    refine V_if_eq X (tgt := 15) dX1_addPart_11 (by decide) (fun h3 => ?_) (fun h3 => ?_)
    · have hP := hP.1 h3
      refine V_lconst X (v := (1 : Int64)) dX1_addPart_15 (by decide) ?_
      refine V_aload X dX1_addPart_16 4 rfl ?_
      obtain ⟨h4, hP⟩ := hP
      refine V_geti X kf_RX1_64 rfl h4 dX1_addPart_18 ?_
      refine V_lshl X dX1_addPart_21 ?_
      refine V_lstore X (lv' := [(6, .long ((1 : Int64) <<< (Int32.toInt64 (gi σ1 a4 0) &&& 63))), (0, .ref a0), (1, .ref a1), (2, .ref a2), (3, .int x3), (4, .ref a4), (5, .int x5)]) dX1_addPart_22 (by decide) rfl ?_
      refine V_aload_n X dX1_addPart_24 rfl 1 rfl ?_
      obtain ⟨h5, hP⟩ := hP
      refine V_getl X kf_RX1_19 rfl h5 dX1_addPart_25 ?_
      refine V_lload X dX1_addPart_28 0 rfl ?_
      refine V_land X dX1_addPart_30 ?_
      refine V_lconst X (v := (0 : Int64)) dX1_addPart_31 (by decide) ?_
      refine V_lcmp X dX1_addPart_32 ?_
      refine V_if_eq X (tgt := 50) dX1_addPart_33 (by decide) (fun h6 => ?_) (fun h6 => ?_)
      · have hP := hP.1 h6
        refine V_aload_n X dX1_addPart_50 rfl 1 rfl ?_
        refine V_dup X dX1_addPart_51 rfl ?_
        refine V_getl X kf_RX1_19 rfl h5 dX1_addPart_52 ?_
        refine V_lload X dX1_addPart_55 0 rfl ?_
        refine V_lor X dX1_addPart_57 ?_
        refine V_putl X kf_RX1_19 (fun h => by cases h) rfl h5 dX1_addPart_58 ?_
        refine V_aload_n X dX1_addPart_61 rfl 1 rfl ?_
        refine V_sipush X (v := (10000 : Int32)) dX1_addPart_62 (by decide) ?_
        refine V_aload X dX1_addPart_65 5 rfl ?_
        refine V_geti X kf_RX1_64 rfl h4 dX1_addPart_67 ?_
        refine V_iadd X dX1_addPart_70 ?_
        refine V_callV_v X [.int ((10000 : Int32) + (gi (sl σ1 a0 2 ((gl σ1 a0 2) ||| ((1 : Int64) <<< (Int32.toInt64 (gi σ1 a4 0) &&& 63)))) a4 0))] kw_RX1_67 ki_X1_add ks_X1_add ksg_X1_add (m_X1_add l G N0 _ _ _ _ hP) h5 (by decide) rfl rfl ⟨show 0 + 1 ≤ fr + 1 from by omega, show 8 + (2 + 11) + 0 ≤ lo + 39 from by omega⟩ (Nat.le_of_ble_eq_true rfl) ⟨Nat.le_of_ble_eq_true rfl, Nat.le_of_ble_eq_true rfl⟩ rfl dX1_addPart_71 (fun σ2 hP => ?_)
        refine V_aload_n X dX1_addPart_74 rfl 2 rfl ?_
        obtain ⟨h7, hP⟩ := hP
        refine V_callV_i X [] kw_RX1_71 ki_X6_items ks_X6_items ksg_X6_items (m_X6_items l G N0 _ _ _ hP) h7 (by decide) rfl rfl ⟨show 0 + 1 ≤ fr + 1 from by omega, show 8 + (1 + 11) + 0 ≤ lo + 39 from by omega⟩ (Nat.le_of_ble_eq_true rfl) ⟨Nat.le_of_ble_eq_true rfl, Nat.le_of_ble_eq_true rfl⟩ rfl dX1_addPart_75 (fun r3 σ3 hP => ?_)
        refine V_istore X (lv' := [(8, .int r3), (6, .long ((1 : Int64) <<< (Int32.toInt64 (gi σ1 a4 0) &&& 63))), (0, .ref a0), (1, .ref a1), (2, .ref a2), (3, .int x3), (4, .ref a4), (5, .int x5)]) dX1_addPart_78 (by decide) rfl ?_
        refine V_iconst X (v := (0 : Int32)) dX1_addPart_80 (by decide) ?_
        refine V_istore X (lv' := [(9, .int (0 : Int32)), (8, .int r3), (6, .long ((1 : Int64) <<< (Int32.toInt64 (gi σ1 a4 0) &&& 63))), (0, .ref a0), (1, .ref a1), (2, .ref a2), (3, .int x3), (4, .ref a4), (5, .int x5)]) dX1_addPart_81 (by decide) rfl ?_
        have hK174_83 : ∀ (v9_174 : Int32) (σx174 : Hp), (gk σx174 a0 = some (1, 0) ∧ P_X1_add a0 (30000 : Int32) σx174 (fun (σ4 : Hp) => post σ4)) → V p l e { frames := fr + 1, cells := 0, slots := 0, locals := lo + 39 } s m args below meth c (MQ below (QC G N0 (pV post)) args s 0 0 (AN N0)) G N0 11 σx174 0 0 174 [(0, .ref a0), (1, .ref a1), (2, .ref a2), (3, .int x3), (4, .ref a4), (5, .int x5), (8, .int r3), (9, .int v9_174)] [] := by
          intro v9_174 σx174 hP
          refine V_aload_n X dX1_addPart_174 rfl 0 rfl ?_
          refine V_sipush X (v := (30000 : Int32)) dX1_addPart_175 (by decide) ?_
          obtain ⟨h8, hP⟩ := hP
          refine V_callV_v X [.int (30000 : Int32)] kw_RX1_67 ki_X1_add ks_X1_add ksg_X1_add (m_X1_add l G N0 _ _ _ _ hP) h8 (by decide) rfl rfl ⟨show 0 + 1 ≤ fr + 1 from by omega, show 8 + (2 + 11) + 0 ≤ lo + 39 from by omega⟩ (Nat.le_of_ble_eq_true rfl) ⟨Nat.le_of_ble_eq_true rfl, Nat.le_of_ble_eq_true rfl⟩ rfl dX1_addPart_178 (fun σ4 hP => ?_)
          exact V_vret X hr (Nat.le_of_ble_eq_true rfl) (Nat.le_of_ble_eq_true rfl) dX1_addPart_181 ⟨rfl, hP⟩
        refine V.to (lv2 := [(0, .ref a0), (1, .ref a1), (2, .ref a2), (3, .int x3), (4, .ref a4), (5, .int x5), (8, .int r3), (9, .int (0 : Int32))]) [3, 4, 5, 6, 7, 8, 1, 0] rfl rfl ?_
        refine lfp1_use (fun v9 σ83 => V p l e { frames := fr + 1, cells := 0, slots := 0, locals := lo + 39 } s m args below meth c (MQ below (QC G N0 (pV post)) args s 0 0 (AN N0)) G N0 11 σ83 0 0 83 [(0, .ref a0), (1, .ref a1), (2, .ref a2), (3, .int x3), (4, .ref a4), (5, .int x5), (8, .int r3), (9, .int v9)] []) hP ?_
        intro v9 σ83 hP
        unfold F_X1_addPart_83 at hP
        refine V_iload X dX1_addPart_83 7 rfl ?_
        refine V_iload X dX1_addPart_85 6 rfl ?_
        refine V_icmp_ge X (tgt := 174) dX1_addPart_87 (by decide) (fun h83001 => ?_) (fun h83001 => ?_)
        · have hP := hP.1 h83001
          exact V.to [0, 1, 2, 3, 4, 5, 6, 7] rfl rfl (hK174_83 _ _ hP)
        · have hP := hP.2 h83001
          refine V_aload_n X dX1_addPart_90 rfl 1 rfl ?_
          refine V_iload X dX1_addPart_91 7 rfl ?_
          obtain ⟨h83002, hP⟩ := hP
          refine V_callV_i X [.int v9] kw_RX1_75 ki_X6_ownerOf ks_X6_ownerOf ksg_X6_ownerOf (m_X6_ownerOf l G N0 _ _ _ _ hP) h83002 (by decide) rfl rfl ⟨show 1 + 1 ≤ fr + 1 from by omega, show 8 + (2 + 11) + 21 ≤ lo + 39 from by omega⟩ (Nat.le_of_ble_eq_true rfl) ⟨Nat.le_of_ble_eq_true rfl, Nat.le_of_ble_eq_true rfl⟩ rfl dX1_addPart_93 (fun r8301 σ8301 hP => ?_)
          refine V_iload_n X dX1_addPart_96 rfl 3 rfl ?_
          refine V_icmp_ne X (tgt := 109) dX1_addPart_97 (by decide) (fun h83003 => ?_) (fun h83003 => ?_)
          · have hP := hP.1 h83003
            refine V_iconst X (v := (-1 : Int32)) dX1_addPart_109 (by decide) ?_
            refine V_istore X (lv' := [(10, .int (-1 : Int32)), (0, .ref a0), (1, .ref a1), (2, .ref a2), (3, .int x3), (4, .ref a4), (5, .int x5), (8, .int r3), (9, .int v9)]) dX1_addPart_110 (by decide) rfl ?_
            refine V_iload X dX1_addPart_112 0 rfl ?_
            refine V_if_ne X (tgt := 129) dX1_addPart_114 (by decide) (fun h83004 => ?_) (fun h83004 => ?_)
            · have hP := hP.1 h83004
              refine V_iload X dX1_addPart_129 0 rfl ?_
              refine V_iconst X (v := (1 : Int32)) dX1_addPart_131 (by decide) ?_
              refine V_icmp_ne X (tgt := 150) dX1_addPart_132 (by decide) (fun h83005 => ?_) (fun h83005 => ?_)
              · have hP := hP.1 h83005
                refine V_iload X dX1_addPart_150 0 rfl ?_
                refine V_iconst X (v := (2 : Int32)) dX1_addPart_152 (by decide) ?_
                refine V_icmp_ne X (tgt := 168) dX1_addPart_153 (by decide) (fun h83006 => ?_) (fun h83006 => ?_)
                · have hP := hP.1 h83006
                  refine V_iinc X (v := (v9 + (1 : Int32))) (lv' := [(9, .int (v9 + (1 : Int32))), (10, .int (-1 : Int32)), (0, .ref a0), (1, .ref a1), (2, .ref a2), (3, .int x3), (4, .ref a4), (5, .int x5), (8, .int r3)]) dX1_addPart_168 8 rfl rfl (by decide) rfl ?_
                  refine V_goto X (tgt := 83) dX1_addPart_171 (by decide) ?_
                  exact V.to [2, 3, 4, 5, 6, 7, 8, 0] rfl rfl hP
                · have hP := hP.2 h83006
                  refine V_aload_n X dX1_addPart_156 rfl 1 rfl ?_
                  refine V_aload_n X dX1_addPart_157 rfl 2 rfl ?_
                  refine V_aload_n X dX1_addPart_158 rfl 3 rfl ?_
                  refine V_iload X dX1_addPart_159 8 rfl ?_
                  refine V_aload X dX1_addPart_161 5 rfl ?_
                  refine V_iload X dX1_addPart_163 6 rfl ?_
                  obtain ⟨h83007, hP⟩ := hP
                  refine V_callV_v X [.ref a1, .ref a2, .int v9, .ref a4, .int x5] kw_RX1_87 ki_X1_addDown ks_X1_addDown ksg_X1_addDown (hX1_addDown _ _ _ _ _ _ _ _ hP) h83007 (by decide) rfl rfl ⟨show fr + 1 ≤ fr + 1 from Nat.le_refl _, show 8 + (11 + 11) + lo ≤ lo + 39 from by omega⟩ (Nat.le_of_ble_eq_true rfl) ⟨Nat.le_of_ble_eq_true rfl, Nat.le_of_ble_eq_true rfl⟩ rfl dX1_addPart_165 (fun σ8302 hP => ?_)
                  refine V_iinc X (v := (v9 + (1 : Int32))) (lv' := [(9, .int (v9 + (1 : Int32))), (10, .int (-1 : Int32)), (0, .ref a0), (1, .ref a1), (2, .ref a2), (3, .int x3), (4, .ref a4), (5, .int x5), (8, .int r3)]) dX1_addPart_168 8 rfl rfl (by decide) rfl ?_
                  refine V_goto X (tgt := 83) dX1_addPart_171 (by decide) ?_
                  exact V.to [2, 3, 4, 5, 6, 7, 8, 0] rfl rfl hP
              · have hP := hP.2 h83005
                refine V_aload_n X dX1_addPart_135 rfl 1 rfl ?_
                refine V_aload_n X dX1_addPart_136 rfl 2 rfl ?_
                refine V_aload_n X dX1_addPart_137 rfl 3 rfl ?_
                refine V_iload X dX1_addPart_138 8 rfl ?_
                refine V_aload X dX1_addPart_140 5 rfl ?_
                refine V_iload X dX1_addPart_142 6 rfl ?_
                obtain ⟨h83008, hP⟩ := hP
                refine V_callV_v X [.ref a1, .ref a2, .int v9, .ref a4, .int x5] kw_RX1_84 ki_X1_addUp ks_X1_addUp ksg_X1_addUp (hX1_addUp _ _ _ _ _ _ _ _ hP) h83008 (by decide) rfl rfl ⟨show fr + 1 ≤ fr + 1 from Nat.le_refl _, show 8 + (8 + 11) + lo ≤ lo + 39 from by omega⟩ (Nat.le_of_ble_eq_true rfl) ⟨Nat.le_of_ble_eq_true rfl, Nat.le_of_ble_eq_true rfl⟩ rfl dX1_addPart_144 (fun σ8303 hP => ?_)
                refine V_goto X (tgt := 168) dX1_addPart_147 (by decide) ?_
                refine V_iinc X (v := (v9 + (1 : Int32))) (lv' := [(9, .int (v9 + (1 : Int32))), (10, .int (-1 : Int32)), (0, .ref a0), (1, .ref a1), (2, .ref a2), (3, .int x3), (4, .ref a4), (5, .int x5), (8, .int r3)]) dX1_addPart_168 8 rfl rfl (by decide) rfl ?_
                refine V_goto X (tgt := 83) dX1_addPart_171 (by decide) ?_
                exact V.to [2, 3, 4, 5, 6, 7, 8, 0] rfl rfl hP
            · have hP := hP.2 h83004
              refine V_aload_n X dX1_addPart_117 rfl 1 rfl ?_
              refine V_aload X dX1_addPart_118 5 rfl ?_
              obtain ⟨h83009, hP⟩ := hP
              refine V_geti X kf_RX1_81 rfl h83009 dX1_addPart_120 ?_
              obtain ⟨h83010, hP⟩ := hP
              refine V_callV_v X [.int (gi σ8301 a4 2)] kw_RX1_67 ki_X1_add ks_X1_add ksg_X1_add (m_X1_add l G N0 _ _ _ _ hP) h83010 (by decide) rfl rfl ⟨show 0 + 1 ≤ fr + 1 from by omega, show 8 + (2 + 11) + 0 ≤ lo + 39 from by omega⟩ (Nat.le_of_ble_eq_true rfl) ⟨Nat.le_of_ble_eq_true rfl, Nat.le_of_ble_eq_true rfl⟩ rfl dX1_addPart_123 (fun σ8304 hP => ?_)
              refine V_goto X (tgt := 168) dX1_addPart_126 (by decide) ?_
              refine V_iinc X (v := (v9 + (1 : Int32))) (lv' := [(9, .int (v9 + (1 : Int32))), (10, .int (-1 : Int32)), (0, .ref a0), (1, .ref a1), (2, .ref a2), (3, .int x3), (4, .ref a4), (5, .int x5), (8, .int r3)]) dX1_addPart_168 8 rfl rfl (by decide) rfl ?_
              refine V_goto X (tgt := 83) dX1_addPart_171 (by decide) ?_
              exact V.to [2, 3, 4, 5, 6, 7, 8, 0] rfl rfl hP
          · have hP := hP.2 h83003
            refine V_aload_n X dX1_addPart_100 rfl 1 rfl ?_
            refine V_iload X dX1_addPart_101 7 rfl ?_
            obtain ⟨h83011, hP⟩ := hP
            refine V_callV_i X [.int v9] kw_RX1_78 ki_X6_kindOf ks_X6_kindOf ksg_X6_kindOf (m_X6_kindOf l G N0 _ _ _ _ hP) h83011 (by decide) rfl rfl ⟨show 1 + 1 ≤ fr + 1 from by omega, show 8 + (2 + 11) + 21 ≤ lo + 39 from by omega⟩ (Nat.le_of_ble_eq_true rfl) ⟨Nat.le_of_ble_eq_true rfl, Nat.le_of_ble_eq_true rfl⟩ rfl dX1_addPart_103 (fun r8305 σ8305 hP => ?_)
            refine V_goto X (tgt := 110) dX1_addPart_106 (by decide) ?_
            refine V_istore X (lv' := [(10, .int r8305), (0, .ref a0), (1, .ref a1), (2, .ref a2), (3, .int x3), (4, .ref a4), (5, .int x5), (8, .int r3), (9, .int v9)]) dX1_addPart_110 (by decide) rfl ?_
            refine V_iload X dX1_addPart_112 0 rfl ?_
            refine V_if_ne X (tgt := 129) dX1_addPart_114 (by decide) (fun h83012 => ?_) (fun h83012 => ?_)
            · have hP := hP.1 h83012
              refine V_iload X dX1_addPart_129 0 rfl ?_
              refine V_iconst X (v := (1 : Int32)) dX1_addPart_131 (by decide) ?_
              refine V_icmp_ne X (tgt := 150) dX1_addPart_132 (by decide) (fun h83013 => ?_) (fun h83013 => ?_)
              · have hP := hP.1 h83013
                refine V_iload X dX1_addPart_150 0 rfl ?_
                refine V_iconst X (v := (2 : Int32)) dX1_addPart_152 (by decide) ?_
                refine V_icmp_ne X (tgt := 168) dX1_addPart_153 (by decide) (fun h83014 => ?_) (fun h83014 => ?_)
                · have hP := hP.1 h83014
                  refine V_iinc X (v := (v9 + (1 : Int32))) (lv' := [(9, .int (v9 + (1 : Int32))), (10, .int r8305), (0, .ref a0), (1, .ref a1), (2, .ref a2), (3, .int x3), (4, .ref a4), (5, .int x5), (8, .int r3)]) dX1_addPart_168 8 rfl rfl (by decide) rfl ?_
                  refine V_goto X (tgt := 83) dX1_addPart_171 (by decide) ?_
                  exact V.to [2, 3, 4, 5, 6, 7, 8, 0] rfl rfl hP
                · have hP := hP.2 h83014
                  refine V_aload_n X dX1_addPart_156 rfl 1 rfl ?_
                  refine V_aload_n X dX1_addPart_157 rfl 2 rfl ?_
                  refine V_aload_n X dX1_addPart_158 rfl 3 rfl ?_
                  refine V_iload X dX1_addPart_159 8 rfl ?_
                  refine V_aload X dX1_addPart_161 5 rfl ?_
                  refine V_iload X dX1_addPart_163 6 rfl ?_
                  obtain ⟨h83015, hP⟩ := hP
                  refine V_callV_v X [.ref a1, .ref a2, .int v9, .ref a4, .int x5] kw_RX1_87 ki_X1_addDown ks_X1_addDown ksg_X1_addDown (hX1_addDown _ _ _ _ _ _ _ _ hP) h83015 (by decide) rfl rfl ⟨show fr + 1 ≤ fr + 1 from Nat.le_refl _, show 8 + (11 + 11) + lo ≤ lo + 39 from by omega⟩ (Nat.le_of_ble_eq_true rfl) ⟨Nat.le_of_ble_eq_true rfl, Nat.le_of_ble_eq_true rfl⟩ rfl dX1_addPart_165 (fun σ8306 hP => ?_)
                  refine V_iinc X (v := (v9 + (1 : Int32))) (lv' := [(9, .int (v9 + (1 : Int32))), (10, .int r8305), (0, .ref a0), (1, .ref a1), (2, .ref a2), (3, .int x3), (4, .ref a4), (5, .int x5), (8, .int r3)]) dX1_addPart_168 8 rfl rfl (by decide) rfl ?_
                  refine V_goto X (tgt := 83) dX1_addPart_171 (by decide) ?_
                  exact V.to [2, 3, 4, 5, 6, 7, 8, 0] rfl rfl hP
              · have hP := hP.2 h83013
                refine V_aload_n X dX1_addPart_135 rfl 1 rfl ?_
                refine V_aload_n X dX1_addPart_136 rfl 2 rfl ?_
                refine V_aload_n X dX1_addPart_137 rfl 3 rfl ?_
                refine V_iload X dX1_addPart_138 8 rfl ?_
                refine V_aload X dX1_addPart_140 5 rfl ?_
                refine V_iload X dX1_addPart_142 6 rfl ?_
                obtain ⟨h83016, hP⟩ := hP
                refine V_callV_v X [.ref a1, .ref a2, .int v9, .ref a4, .int x5] kw_RX1_84 ki_X1_addUp ks_X1_addUp ksg_X1_addUp (hX1_addUp _ _ _ _ _ _ _ _ hP) h83016 (by decide) rfl rfl ⟨show fr + 1 ≤ fr + 1 from Nat.le_refl _, show 8 + (8 + 11) + lo ≤ lo + 39 from by omega⟩ (Nat.le_of_ble_eq_true rfl) ⟨Nat.le_of_ble_eq_true rfl, Nat.le_of_ble_eq_true rfl⟩ rfl dX1_addPart_144 (fun σ8307 hP => ?_)
                refine V_goto X (tgt := 168) dX1_addPart_147 (by decide) ?_
                refine V_iinc X (v := (v9 + (1 : Int32))) (lv' := [(9, .int (v9 + (1 : Int32))), (10, .int r8305), (0, .ref a0), (1, .ref a1), (2, .ref a2), (3, .int x3), (4, .ref a4), (5, .int x5), (8, .int r3)]) dX1_addPart_168 8 rfl rfl (by decide) rfl ?_
                refine V_goto X (tgt := 83) dX1_addPart_171 (by decide) ?_
                exact V.to [2, 3, 4, 5, 6, 7, 8, 0] rfl rfl hP
            · have hP := hP.2 h83012
              refine V_aload_n X dX1_addPart_117 rfl 1 rfl ?_
              refine V_aload X dX1_addPart_118 5 rfl ?_
              obtain ⟨h83017, hP⟩ := hP
              refine V_geti X kf_RX1_81 rfl h83017 dX1_addPart_120 ?_
              obtain ⟨h83018, hP⟩ := hP
              refine V_callV_v X [.int (gi σ8305 a4 2)] kw_RX1_67 ki_X1_add ks_X1_add ksg_X1_add (m_X1_add l G N0 _ _ _ _ hP) h83018 (by decide) rfl rfl ⟨show 0 + 1 ≤ fr + 1 from by omega, show 8 + (2 + 11) + 0 ≤ lo + 39 from by omega⟩ (Nat.le_of_ble_eq_true rfl) ⟨Nat.le_of_ble_eq_true rfl, Nat.le_of_ble_eq_true rfl⟩ rfl dX1_addPart_123 (fun σ8308 hP => ?_)
              refine V_goto X (tgt := 168) dX1_addPart_126 (by decide) ?_
              refine V_iinc X (v := (v9 + (1 : Int32))) (lv' := [(9, .int (v9 + (1 : Int32))), (10, .int r8305), (0, .ref a0), (1, .ref a1), (2, .ref a2), (3, .int x3), (4, .ref a4), (5, .int x5), (8, .int r3)]) dX1_addPart_168 8 rfl rfl (by decide) rfl ?_
              refine V_goto X (tgt := 83) dX1_addPart_171 (by decide) ?_
              exact V.to [2, 3, 4, 5, 6, 7, 8, 0] rfl rfl hP
      · have hP := hP.2 h6
        refine V_aload_n X dX1_addPart_36 rfl 1 rfl ?_
        refine V_sipush X (v := (20000 : Int32)) dX1_addPart_37 (by decide) ?_
        refine V_aload X dX1_addPart_40 5 rfl ?_
        refine V_geti X kf_RX1_64 rfl h4 dX1_addPart_42 ?_
        refine V_iadd X dX1_addPart_45 ?_
        refine V_callV_v X [.int ((20000 : Int32) + (gi σ1 a4 0))] kw_RX1_67 ki_X1_add ks_X1_add ksg_X1_add (m_X1_add l G N0 _ _ _ _ hP) h5 (by decide) rfl rfl ⟨show 0 + 1 ≤ fr + 1 from by omega, show 8 + (2 + 11) + 0 ≤ lo + 39 from by omega⟩ (Nat.le_of_ble_eq_true rfl) ⟨Nat.le_of_ble_eq_true rfl, Nat.le_of_ble_eq_true rfl⟩ rfl dX1_addPart_46 (fun σ5 hP => ?_)
        exact V_vret X hr (Nat.le_of_ble_eq_true rfl) (Nat.le_of_ble_eq_true rfl) dX1_addPart_49 ⟨rfl, hP⟩
    · have hP := hP.2 h3
      exact V_vret X hr (Nat.le_of_ble_eq_true rfl) (Nat.le_of_ble_eq_true rfl) dX1_addPart_14 ⟨rfl, hP⟩
def F_X1_addDown_23 (P_X1_addPart : Nat → Nat → Nat → Int32 → Nat → Int32 → Hp → (Hp → Prop) → Prop) (a0 : Nat) (a1 : Nat) (a2 : Nat) (a4 : Nat) (x5 : Int32) (u6 : Int32) (u7 : Int32) (u8 : Int32) (post : Hp → Prop) (I23 : Int32 → Hp → Prop) (v9 : Int32) (σ23 : Hp) : Prop :=
  (u8 ≤ v9 → post σ23) ∧ (¬ (u8 ≤ v9) → gk σ23 a0 = some (1, 0) ∧ P_X1_isFull a0 σ23 (fun (r2301 : Int32) (σ2301 : Hp) => (¬ r2301 = 0 → post σ2301) ∧ (r2301 = 0 → gk σ2301 a2 = some (5, 0) ∧ P_X5_standing a2 v9 σ2301 (fun (r2302 : Option Nat) (σ2302 : Hp) => (r2302 = none → I23 (v9 + (1 : Int32)) σ2302) ∧ (∀ b2303 : Nat, r2302 = some b2303 → gk σ2302 b2303 = some (4, 0) ∧ gk σ2302 a1 = some (6, 0) ∧ P_X6_tableOf a1 u6 σ2302 (fun (r2304 : Int32) (σ2304 : Hp) => (¬ (gi σ2302 b2303 1) = r2304 → I23 (v9 + (1 : Int32)) σ2304) ∧ ((gi σ2302 b2303 1) = r2304 → gk σ2304 b2303 = some (4, 0) ∧ P_X4_referenceBy b2303 u7 σ2304 (fun (r2305 : Int32) (σ2305 : Hp) => gk σ2305 a4 = some (4, 0) ∧ (¬ r2305 = (gi σ2305 a4 0) → I23 (v9 + (1 : Int32)) σ2305) ∧ (r2305 = (gi σ2305 a4 0) → gk σ2305 a0 = some (1, 0) ∧ P_X1_addPart a0 a1 a2 u6 b2303 (x5 + (1 : Int32)) σ2305 (fun (σ2306 : Hp) => I23 (v9 + (1 : Int32)) σ2306))))))))))
def O_X1_addDown (P_X1_addPart : Nat → Nat → Nat → Int32 → Nat → Int32 → Hp → (Hp → Prop) → Prop) (a0 : Nat) (a1 : Nat) (a2 : Nat) (x3 : Int32) (a4 : Nat) (x5 : Int32) (σ : Hp) (post : Hp → Prop) : Prop :=
  gk σ a1 = some (6, 0) ∧ P_X6_partWithin a1 x3 σ (fun (r1 : Int32) (σ1 : Hp) => gk σ1 a1 = some (6, 0) ∧ P_X6_referenceOf a1 x3 σ1 (fun (r2 : Int32) (σ2 : Hp) => gk σ2 a2 = some (5, 0) ∧ P_X5_known a2 σ2 (fun (r3 : Int32) (σ3 : Hp) => lfp1 (F_X1_addDown_23 P_X1_addPart a0 a1 a2 a4 x5 r1 r2 r3 post) (0 : Int32) σ3)))
set_option maxHeartbeats 2000000 in
set_option maxRecDepth 100000 in
theorem mO_X1_addDown (l : Launch) (G : GG) (N0 : Nat) {fr lo : Nat} (hfr : 20 ≤ fr) (hlo : 400 ≤ lo) (P_X1_addPart : Nat → Nat → Nat → Int32 → Nat → Int32 → Hp → (Hp → Prop) → Prop) (hX1_addPart : ∀ (a0 : Nat) (a1 : Nat) (a2 : Nat) (x3 : Int32) (a4 : Nat) (x5 : Int32) (σ : Hp) (post : Hp → Prop), P_X1_addPart a0 a1 a2 x3 a4 x5 σ post → MM l G N0 yX1_addPart cX1_addPart 11 none fr lo 0 0 [.ref a0, .ref a1, .ref a2, .int x3, .ref a4, .int x5] σ (pV post)) (a0 : Nat) (a1 : Nat) (a2 : Nat) (x3 : Int32) (a4 : Nat) (x5 : Int32) (σ : Hp) (post : Hp → Prop) (hP : O_X1_addDown P_X1_addPart a0 a1 a2 x3 a4 x5 σ post) : MM l G N0 yX1_addDown cX1_addDown 11 none (fr + 1) (lo + 39) 0 0 [.ref a0, .ref a1, .ref a2, .int x3, .ref a4, .int x5] σ (pV post) := by
  refine MM.of (by decide) (Nat.le_of_ble_eq_true rfl) ?_
  intro p e s m args below meth c X hr hnm
  refine V.to (lv2 := [(0, .ref a0), (1, .ref a1), (2, .ref a2), (3, .int x3), (4, .ref a4), (5, .int x5)]) [0, 1, 2, 3, 4, 5] rfl rfl ?_
  unfold O_X1_addDown at hP
  refine V_aload_n X dX1_addDown_0 rfl 1 rfl ?_
  refine V_iload_n X dX1_addDown_1 rfl 3 rfl ?_
  obtain ⟨h1, hP⟩ := hP
  refine V_callV_i X [.int x3] kw_RX1_90 ki_X6_partWithin ks_X6_partWithin ksg_X6_partWithin (m_X6_partWithin l G N0 _ _ _ _ hP) h1 (by decide) rfl rfl ⟨show 1 + 1 ≤ fr + 1 from by omega, show 8 + (2 + 11) + 21 ≤ lo + 39 from by omega⟩ (Nat.le_of_ble_eq_true rfl) ⟨Nat.le_of_ble_eq_true rfl, Nat.le_of_ble_eq_true rfl⟩ rfl dX1_addDown_2 (fun r1 σ1 hP => ?_)
  refine V_istore X (lv' := [(6, .int r1), (0, .ref a0), (1, .ref a1), (2, .ref a2), (3, .int x3), (4, .ref a4), (5, .int x5)]) dX1_addDown_5 (by decide) rfl ?_
  refine V_aload_n X dX1_addDown_7 rfl 2 rfl ?_
  refine V_iload_n X dX1_addDown_8 rfl 4 rfl ?_
  obtain ⟨h2, hP⟩ := hP
  refine V_callV_i X [.int x3] kw_RX1_93 ki_X6_referenceOf ks_X6_referenceOf ksg_X6_referenceOf (m_X6_referenceOf l G N0 _ _ _ _ hP) h2 (by decide) rfl rfl ⟨show 1 + 1 ≤ fr + 1 from by omega, show 8 + (2 + 11) + 21 ≤ lo + 39 from by omega⟩ (Nat.le_of_ble_eq_true rfl) ⟨Nat.le_of_ble_eq_true rfl, Nat.le_of_ble_eq_true rfl⟩ rfl dX1_addDown_9 (fun r2 σ2 hP => ?_)
  refine V_istore X (lv' := [(7, .int r2), (6, .int r1), (0, .ref a0), (1, .ref a1), (2, .ref a2), (3, .int x3), (4, .ref a4), (5, .int x5)]) dX1_addDown_12 (by decide) rfl ?_
  refine V_aload_n X dX1_addDown_14 rfl 4 rfl ?_
  obtain ⟨h3, hP⟩ := hP
  refine V_callV_i X [] kw_RX1_99 ki_X5_known ks_X5_known ksg_X5_known (m_X5_known l G N0 _ _ _ hP) h3 (by decide) rfl rfl ⟨show 0 + 1 ≤ fr + 1 from by omega, show 8 + (1 + 11) + 0 ≤ lo + 39 from by omega⟩ (Nat.le_of_ble_eq_true rfl) ⟨Nat.le_of_ble_eq_true rfl, Nat.le_of_ble_eq_true rfl⟩ rfl dX1_addDown_15 (fun r3 σ3 hP => ?_)
  refine V_istore X (lv' := [(8, .int r3), (7, .int r2), (6, .int r1), (0, .ref a0), (1, .ref a1), (2, .ref a2), (3, .int x3), (4, .ref a4), (5, .int x5)]) dX1_addDown_18 (by decide) rfl ?_
  refine V_iconst X (v := (0 : Int32)) dX1_addDown_20 (by decide) ?_
  refine V_istore X (lv' := [(9, .int (0 : Int32)), (8, .int r3), (7, .int r2), (6, .int r1), (0, .ref a0), (1, .ref a1), (2, .ref a2), (3, .int x3), (4, .ref a4), (5, .int x5)]) dX1_addDown_21 (by decide) rfl ?_
  refine V.to (lv2 := [(0, .ref a0), (1, .ref a1), (2, .ref a2), (4, .ref a4), (5, .int x5), (6, .int r1), (7, .int r2), (8, .int r3), (9, .int (0 : Int32))]) [4, 5, 6, 8, 9, 3, 2, 1, 0] rfl rfl ?_
  refine lfp1_use (fun v9 σ23 => V p l e { frames := fr + 1, cells := 0, slots := 0, locals := lo + 39 } s m args below meth c (MQ below (QC G N0 (pV post)) args s 0 0 (AN N0)) G N0 11 σ23 0 0 23 [(0, .ref a0), (1, .ref a1), (2, .ref a2), (4, .ref a4), (5, .int x5), (6, .int r1), (7, .int r2), (8, .int r3), (9, .int v9)] []) hP ?_
  intro v9 σ23 hP
  unfold F_X1_addDown_23 at hP
  refine V_iload X dX1_addDown_23 8 rfl ?_
  refine V_iload X dX1_addDown_25 7 rfl ?_
  refine V_icmp_ge X (tgt := 99) dX1_addDown_27 (by decide) (fun h23001 => ?_) (fun h23001 => ?_)
  · have hP := hP.1 h23001
    exact V_vret X hr (Nat.le_of_ble_eq_true rfl) (Nat.le_of_ble_eq_true rfl) dX1_addDown_99 ⟨rfl, hP⟩
  · have hP := hP.2 h23001
    refine V_aload_n X dX1_addDown_30 rfl 0 rfl ?_
    obtain ⟨h23002, hP⟩ := hP
    refine V_callV_i X [] kw_RX1_60 ki_X1_isFull ks_X1_isFull ksg_X1_isFull (m_X1_isFull l G N0 _ _ _ hP) h23002 (by decide) rfl rfl ⟨show 0 + 1 ≤ fr + 1 from by omega, show 8 + (1 + 11) + 0 ≤ lo + 39 from by omega⟩ (Nat.le_of_ble_eq_true rfl) ⟨Nat.le_of_ble_eq_true rfl, Nat.le_of_ble_eq_true rfl⟩ rfl dX1_addDown_31 (fun r2301 σ2301 hP => ?_)
    refine V_if_ne X (tgt := 99) dX1_addDown_34 (by decide) (fun h23003 => ?_) (fun h23003 => ?_)
    · have hP := hP.1 h23003
      exact V_vret X hr (Nat.le_of_ble_eq_true rfl) (Nat.le_of_ble_eq_true rfl) dX1_addDown_99 ⟨rfl, hP⟩
    · have hP := hP.2 h23003
      refine V_aload_n X dX1_addDown_37 rfl 2 rfl ?_
      refine V_iload X dX1_addDown_38 8 rfl ?_
      obtain ⟨h23004, hP⟩ := hP
      refine V_callV_r X [.int v9] kw_RX1_40 ki_X5_standing ks_X5_standing ksg_X5_standing (m_X5_standing l G N0 _ _ _ _ hP) h23004 (by decide) rfl rfl ⟨show 1 + 1 ≤ fr + 1 from by omega, show 8 + (3 + 11) + 21 ≤ lo + 39 from by omega⟩ (Nat.le_of_ble_eq_true rfl) ⟨Nat.le_of_ble_eq_true rfl, Nat.le_of_ble_eq_true rfl⟩ rfl dX1_addDown_40 (fun r2302 σ2302 hP => ?_)
      refine V_astorer X (x := r2302) (lv' := [(10, va_rf r2302), (0, .ref a0), (1, .ref a1), (2, .ref a2), (4, .ref a4), (5, .int x5), (6, .int r1), (7, .int r2), (8, .int r3), (9, .int v9)]) dX1_addDown_43 (by decide) rfl ?_
      refine V_aloadr X dX1_addDown_45 0 rfl ?_
      refine V_ifnull X (tgt := 93) dX1_addDown_47 (by decide) (fun h23005 => ?_) (fun b2303 h23005 => ?_)
      · have hP := hP.1 h23005
        refine V_iinc X (v := (v9 + (1 : Int32))) (lv' := [(9, .int (v9 + (1 : Int32))), (10, va_rf r2302), (0, .ref a0), (1, .ref a1), (2, .ref a2), (4, .ref a4), (5, .int x5), (6, .int r1), (7, .int r2), (8, .int r3)]) dX1_addDown_93 9 rfl rfl (by decide) rfl ?_
        refine V_goto X (tgt := 23) dX1_addDown_96 (by decide) ?_
        exact V.to [2, 3, 4, 5, 6, 7, 8, 9, 0] rfl rfl hP
      · have hP := hP.2 b2303 h23005
        refine V_aloadr X dX1_addDown_50 0 rfl ?_
        refine V_dr0 h23005 ?_
        obtain ⟨h23006, hP⟩ := hP
        refine V_geti X kf_RX1_46 rfl h23006 dX1_addDown_52 ?_
        refine V_aload_n X dX1_addDown_55 rfl 2 rfl ?_
        refine V_iload X dX1_addDown_56 6 rfl ?_
        obtain ⟨h23007, hP⟩ := hP
        refine V_callV_i X [.int r1] kw_RX1_51 ki_X6_tableOf ks_X6_tableOf ksg_X6_tableOf (m_X6_tableOf l G N0 _ _ _ _ hP) h23007 (by decide) rfl rfl ⟨show 0 + 1 ≤ fr + 1 from by omega, show 8 + (2 + 11) + 0 ≤ lo + 39 from by omega⟩ (Nat.le_of_ble_eq_true rfl) ⟨Nat.le_of_ble_eq_true rfl, Nat.le_of_ble_eq_true rfl⟩ rfl dX1_addDown_58 (fun r2304 σ2304 hP => ?_)
        refine V_icmp_ne X (tgt := 93) dX1_addDown_61 (by decide) (fun h23008 => ?_) (fun h23008 => ?_)
        · have hP := hP.1 h23008
          refine V_iinc X (v := (v9 + (1 : Int32))) (lv' := [(9, .int (v9 + (1 : Int32))), (10, va_rf r2302), (0, .ref a0), (1, .ref a1), (2, .ref a2), (4, .ref a4), (5, .int x5), (6, .int r1), (7, .int r2), (8, .int r3)]) dX1_addDown_93 9 rfl rfl (by decide) rfl ?_
          refine V_goto X (tgt := 23) dX1_addDown_96 (by decide) ?_
          exact V.to [2, 3, 4, 5, 6, 7, 8, 9, 0] rfl rfl hP
        · have hP := hP.2 h23008
          refine V_aloadr X dX1_addDown_64 0 rfl ?_
          refine V_iload X dX1_addDown_66 7 rfl ?_
          refine V_dr1 h23005 ?_
          obtain ⟨h23009, hP⟩ := hP
          refine V_callV_i X [.int r2] kw_RX1_96 ki_X4_referenceBy ks_X4_referenceBy ksg_X4_referenceBy (m_X4_referenceBy l G N0 _ _ _ _ hP) h23009 (by decide) rfl rfl ⟨show 0 + 1 ≤ fr + 1 from by omega, show 8 + (2 + 11) + 0 ≤ lo + 39 from by omega⟩ (Nat.le_of_ble_eq_true rfl) ⟨Nat.le_of_ble_eq_true rfl, Nat.le_of_ble_eq_true rfl⟩ rfl dX1_addDown_68 (fun r2305 σ2305 hP => ?_)
          refine V_aload X dX1_addDown_71 4 rfl ?_
          obtain ⟨h23010, hP⟩ := hP
          refine V_geti X kf_RX1_64 rfl h23010 dX1_addDown_73 ?_
          refine V_icmp_ne X (tgt := 93) dX1_addDown_76 (by decide) (fun h23011 => ?_) (fun h23011 => ?_)
          · have hP := hP.1 h23011
            refine V_iinc X (v := (v9 + (1 : Int32))) (lv' := [(9, .int (v9 + (1 : Int32))), (10, va_rf r2302), (0, .ref a0), (1, .ref a1), (2, .ref a2), (4, .ref a4), (5, .int x5), (6, .int r1), (7, .int r2), (8, .int r3)]) dX1_addDown_93 9 rfl rfl (by decide) rfl ?_
            refine V_goto X (tgt := 23) dX1_addDown_96 (by decide) ?_
            exact V.to [2, 3, 4, 5, 6, 7, 8, 9, 0] rfl rfl hP
          · have hP := hP.2 h23011
            refine V_aload_n X dX1_addDown_79 rfl 1 rfl ?_
            refine V_aload_n X dX1_addDown_80 rfl 2 rfl ?_
            refine V_aload_n X dX1_addDown_81 rfl 3 rfl ?_
            refine V_iload X dX1_addDown_82 6 rfl ?_
            refine V_aloadr X dX1_addDown_84 0 rfl ?_
            refine V_iload X dX1_addDown_86 5 rfl ?_
            refine V_iconst X (v := (1 : Int32)) dX1_addDown_88 (by decide) ?_
            refine V_iadd X dX1_addDown_89 ?_
            refine V_dr1 h23005 ?_
            obtain ⟨h23012, hP⟩ := hP
            refine V_callV_v X [.ref a1, .ref a2, .int r1, .ref b2303, .int (x5 + (1 : Int32))] kw_RX1_56 ki_X1_addPart ks_X1_addPart ksg_X1_addPart (hX1_addPart _ _ _ _ _ _ _ _ hP) h23012 (by decide) rfl rfl ⟨show fr + 1 ≤ fr + 1 from Nat.le_refl _, show 8 + (11 + 11) + lo ≤ lo + 39 from by omega⟩ (Nat.le_of_ble_eq_true rfl) ⟨Nat.le_of_ble_eq_true rfl, Nat.le_of_ble_eq_true rfl⟩ rfl dX1_addDown_90 (fun σ2306 hP => ?_)
            refine V_iinc X (v := (v9 + (1 : Int32))) (lv' := [(9, .int (v9 + (1 : Int32))), (10, va_rf r2302), (0, .ref a0), (1, .ref a1), (2, .ref a2), (4, .ref a4), (5, .int x5), (6, .int r1), (7, .int r2), (8, .int r3)]) dX1_addDown_93 9 rfl rfl (by decide) rfl ?_
            refine V_goto X (tgt := 23) dX1_addDown_96 (by decide) ?_
            exact V.to [2, 3, 4, 5, 6, 7, 8, 9, 0] rfl rfl hP
def PD_X1_addPart : Nat → Nat → Nat → Nat → Int32 → Nat → Int32 → Hp → (Hp → Prop) → Prop
  | 0 => fun _ _ _ _ _ _ _ _ => False
  | d + 1 => O_X1_addPart (O_X1_addDown (PD_X1_addPart d)) (O_X1_addUp (PD_X1_addPart d))
theorem mD_X1_addPart (l : Launch) (G : GG) (N0 : Nat) : ∀ (d : Nat) (a0 : Nat) (a1 : Nat) (a2 : Nat) (x3 : Int32) (a4 : Nat) (x5 : Int32) (σ : Hp) (post : Hp → Prop), PD_X1_addPart d a0 a1 a2 x3 a4 x5 σ post → MM l G N0 yX1_addPart cX1_addPart 11 none (20 + 2 * d) (400 + 78 * d) 0 0 [.ref a0, .ref a1, .ref a2, .int x3, .ref a4, .int x5] σ (pV post)
  | 0, _, _, _, _, _, _, _, _, h => h.elim
  | d + 1, a0, a1, a2, x3, a4, x5, σ, post, h => by
    have ih := mD_X1_addPart l G N0 d
    have h1 := mO_X1_addPart l G N0 (fr := 20 + 2 * d + 1) (lo := 400 + 78 * d + 39) (by omega) (by omega) (O_X1_addDown (PD_X1_addPart d)) (mO_X1_addDown l G N0 (fr := 20 + 2 * d) (lo := 400 + 78 * d) (by omega) (by omega) (PD_X1_addPart d) ih) (O_X1_addUp (PD_X1_addPart d)) (mO_X1_addUp l G N0 (fr := 20 + 2 * d) (lo := 400 + 78 * d) (by omega) (by omega) (PD_X1_addPart d) ih) a0 a1 a2 x3 a4 x5 σ post h
    exact h1
def P_X1_addPart : Nat → Nat → Nat → Int32 → Nat → Int32 → Hp → (Hp → Prop) → Prop := PD_X1_addPart 9
theorem m_X1_addPart (l : Launch) (G : GG) (N0 : Nat) (a0 : Nat) (a1 : Nat) (a2 : Nat) (x3 : Int32) (a4 : Nat) (x5 : Int32) (σ : Hp) (post : Hp → Prop) (hP : P_X1_addPart a0 a1 a2 x3 a4 x5 σ post) : MM l G N0 yX1_addPart cX1_addPart 11 none 38 1102 0 0 [.ref a0, .ref a1, .ref a2, .int x3, .ref a4, .int x5] σ (pV post) := mD_X1_addPart l G N0 9 a0 a1 a2 x3 a4 x5 σ post hP
def P_X1_at (a0 : Nat) (x1 : Int32) (σ : Hp) (post : Int32 → Hp → Prop) : Prop :=
  (x1 < 0 → post (-5000 : Int32) σ) ∧ (¬ (x1 < 0) → gk σ a0 = some (1, 0) ∧ ((gi σ a0 1) ≤ x1 → post (-5000 : Int32) σ) ∧ (¬ ((gi σ a0 1) ≤ x1) → ∃ b1 : Nat, (gr σ a0 0) = some b1 ∧ ∃ n2 : Nat, gk σ b1 = some (10, n2) ∧ ((Int32.ofNat n2) ≤ x1 → post (-5000 : Int32) σ) ∧ (¬ ((Int32.ofNat n2) ≤ x1) → vp_in x1 n2 ∧ post (gi σ b1 (Int32.toNatClampNeg x1)) σ)))
set_option maxHeartbeats 2000000 in
set_option maxRecDepth 100000 in
theorem m_X1_at (l : Launch) (G : GG) (N0 : Nat) (a0 : Nat) (x1 : Int32) (σ : Hp) (post : Int32 → Hp → Prop) (hP : P_X1_at a0 x1 σ post) : MM l G N0 yX1_at cX1_at 2 (some .int) (0) (0) 0 0 [.ref a0, .int x1] σ (pI post) := by
  refine MM.of (by decide) (Nat.le_of_ble_eq_true rfl) ?_
  intro p e s m args below meth c X hr hnm
  refine V.to (lv2 := [(0, .ref a0), (1, .int x1)]) [0, 1] rfl rfl ?_
  unfold P_X1_at at hP
  refine V_iload_n X dX1_at_0 rfl 1 rfl ?_
  refine V_if_lt X (tgt := 30) dX1_at_1 (by decide) (fun h1 => ?_) (fun h1 => ?_)
  · have hP := hP.1 h1
    refine V_sipush X (v := (-5000 : Int32)) dX1_at_30 (by decide) ?_
    exact V_iret X hr (Or.inl rfl) (Nat.le_of_ble_eq_true rfl) (Nat.le_of_ble_eq_true rfl) dX1_at_33 ⟨_, rfl, hP⟩
  · have hP := hP.2 h1
    refine V_iload_n X dX1_at_4 rfl 1 rfl ?_
    refine V_aload_n X dX1_at_5 rfl 0 rfl ?_
    obtain ⟨h2, hP⟩ := hP
    refine V_geti X kf_RX1_15 rfl h2 dX1_at_6 ?_
    refine V_icmp_ge X (tgt := 30) dX1_at_9 (by decide) (fun h3 => ?_) (fun h3 => ?_)
    · have hP := hP.1 h3
      refine V_sipush X (v := (-5000 : Int32)) dX1_at_30 (by decide) ?_
      exact V_iret X hr (Or.inl rfl) (Nat.le_of_ble_eq_true rfl) (Nat.le_of_ble_eq_true rfl) dX1_at_33 ⟨_, rfl, hP⟩
    · have hP := hP.2 h3
      refine V_iload_n X dX1_at_12 rfl 1 rfl ?_
      refine V_aload_n X dX1_at_13 rfl 0 rfl ?_
      refine V_getr X kf_RX1_9 rfl h2 dX1_at_14 ?_
      obtain ⟨b1, h4, hP⟩ := hP
      refine V_dr0 h4 ?_
      obtain ⟨n2, h5, hP⟩ := hP
      refine V_alen X (Or.inl rfl) h5 dX1_at_17 ?_
      refine V_icmp_ge X (tgt := 30) dX1_at_18 (by decide) (fun h6 => ?_) (fun h6 => ?_)
      · have hP := hP.1 h6
        refine V_sipush X (v := (-5000 : Int32)) dX1_at_30 (by decide) ?_
        exact V_iret X hr (Or.inl rfl) (Nat.le_of_ble_eq_true rfl) (Nat.le_of_ble_eq_true rfl) dX1_at_33 ⟨_, rfl, hP⟩
      · have hP := hP.2 h6
        refine V_aload_n X dX1_at_21 rfl 0 rfl ?_
        refine V_getr X kf_RX1_9 rfl h2 dX1_at_22 ?_
        refine V_iload_n X dX1_at_25 rfl 1 rfl ?_
        refine V_dr1 h4 ?_
        obtain ⟨h7, hP⟩ := hP
        refine V_iald X h5 h7 dX1_at_26 ?_
        refine V_goto X (tgt := 33) dX1_at_27 (by decide) ?_
        exact V_iret X hr (Or.inl rfl) (Nat.le_of_ble_eq_true rfl) (Nat.le_of_ble_eq_true rfl) dX1_at_33 ⟨_, rfl, hP⟩
def P_X1_gather (a0 : Nat) (a1 : Nat) (a2 : Nat) (x3 : Int32) (σ : Hp) (post : Hp → Prop) : Prop :=
  gk σ a0 = some (1, 0) ∧ gk σ a2 = some (5, 0) ∧ P_X5_standing a2 x3 (sl (si σ a0 1 (0 : Int32)) a0 2 (0 : Int64)) (fun (r1 : Option Nat) (σ1 : Hp) => (r1 = none → post σ1) ∧ (∀ b2 : Nat, r1 = some b2 → gk σ1 b2 = some (4, 0) ∧ gk σ1 a1 = some (6, 0) ∧ P_X6_tableOf a1 (0 : Int32) σ1 (fun (r3 : Int32) (σ3 : Hp) => (¬ (gi σ1 b2 1) = r3 → post σ3) ∧ ((gi σ1 b2 1) = r3 → gk σ3 a0 = some (1, 0) ∧ P_X1_addPart a0 a1 a2 (0 : Int32) b2 (0 : Int32) σ3 (fun (σ4 : Hp) => post σ4)))))
set_option maxHeartbeats 2000000 in
set_option maxRecDepth 100000 in
theorem m_X1_gather (l : Launch) (G : GG) (N0 : Nat) (a0 : Nat) (a1 : Nat) (a2 : Nat) (x3 : Int32) (σ : Hp) (post : Hp → Prop) (hP : P_X1_gather a0 a1 a2 x3 σ post) : MM l G N0 yX1_gather cX1_gather 5 none (39) (1132) 0 0 [.ref a0, .ref a1, .ref a2, .int x3] σ (pV post) := by
  refine MM.of (by decide) (Nat.le_of_ble_eq_true rfl) ?_
  intro p e s m args below meth c X hr hnm
  refine V.to (lv2 := [(0, .ref a0), (1, .ref a1), (2, .ref a2), (3, .int x3)]) [0, 1, 2, 3] rfl rfl ?_
  unfold P_X1_gather at hP
  refine V_aload_n X dX1_gather_0 rfl 0 rfl ?_
  refine V_iconst X (v := (0 : Int32)) dX1_gather_1 (by decide) ?_
  obtain ⟨h1, hP⟩ := hP
  refine V_puti X kf_RX1_15 (fun h => by cases h) rfl h1 (Or.inl rfl) dX1_gather_2 ?_
  refine V_aload_n X dX1_gather_5 rfl 0 rfl ?_
  refine V_lconst X (v := (0 : Int64)) dX1_gather_6 (by decide) ?_
  refine V_putl X kf_RX1_19 (fun h => by cases h) rfl h1 dX1_gather_7 ?_
  refine V_aload_n X dX1_gather_10 rfl 2 rfl ?_
  refine V_iload_n X dX1_gather_11 rfl 3 rfl ?_
  obtain ⟨h2, hP⟩ := hP
  refine V_callV_r X [.int x3] kw_RX1_40 ki_X5_standing ks_X5_standing ksg_X5_standing (m_X5_standing l G N0 _ _ _ _ hP) h2 (by decide) rfl rfl ⟨Nat.le_of_ble_eq_true rfl, Nat.le_of_ble_eq_true rfl⟩ (Nat.le_of_ble_eq_true rfl) ⟨Nat.le_of_ble_eq_true rfl, Nat.le_of_ble_eq_true rfl⟩ rfl dX1_gather_12 (fun r1 σ1 hP => ?_)
  refine V_astorer X (x := r1) (lv' := [(4, va_rf r1), (0, .ref a0), (1, .ref a1), (2, .ref a2), (3, .int x3)]) dX1_gather_15 (by decide) rfl ?_
  refine V_aloadr X dX1_gather_17 0 rfl ?_
  refine V_ifnull X (tgt := 45) dX1_gather_19 (by decide) (fun h3 => ?_) (fun b2 h3 => ?_)
  · have hP := hP.1 h3
    exact V_vret X hr (Nat.le_of_ble_eq_true rfl) (Nat.le_of_ble_eq_true rfl) dX1_gather_45 ⟨rfl, hP⟩
  · have hP := hP.2 b2 h3
    refine V_aloadr X dX1_gather_22 0 rfl ?_
    refine V_dr0 h3 ?_
    obtain ⟨h4, hP⟩ := hP
    refine V_geti X kf_RX1_46 rfl h4 dX1_gather_24 ?_
    refine V_aload_n X dX1_gather_27 rfl 2 rfl ?_
    refine V_iconst X (v := (0 : Int32)) dX1_gather_28 (by decide) ?_
    obtain ⟨h5, hP⟩ := hP
    refine V_callV_i X [.int (0 : Int32)] kw_RX1_51 ki_X6_tableOf ks_X6_tableOf ksg_X6_tableOf (m_X6_tableOf l G N0 _ _ _ _ hP) h5 (by decide) rfl rfl ⟨Nat.le_of_ble_eq_true rfl, Nat.le_of_ble_eq_true rfl⟩ (Nat.le_of_ble_eq_true rfl) ⟨Nat.le_of_ble_eq_true rfl, Nat.le_of_ble_eq_true rfl⟩ rfl dX1_gather_29 (fun r3 σ3 hP => ?_)
    refine V_icmp_ne X (tgt := 45) dX1_gather_32 (by decide) (fun h6 => ?_) (fun h6 => ?_)
    · have hP := hP.1 h6
      exact V_vret X hr (Nat.le_of_ble_eq_true rfl) (Nat.le_of_ble_eq_true rfl) dX1_gather_45 ⟨rfl, hP⟩
    · have hP := hP.2 h6
      refine V_aload_n X dX1_gather_35 rfl 1 rfl ?_
      refine V_aload_n X dX1_gather_36 rfl 2 rfl ?_
      refine V_aload_n X dX1_gather_37 rfl 3 rfl ?_
      refine V_iconst X (v := (0 : Int32)) dX1_gather_38 (by decide) ?_
      refine V_aloadr X dX1_gather_39 0 rfl ?_
      refine V_iconst X (v := (0 : Int32)) dX1_gather_41 (by decide) ?_
      refine V_dr1 h3 ?_
      obtain ⟨h7, hP⟩ := hP
      refine V_callV_v X [.ref a1, .ref a2, .int (0 : Int32), .ref b2, .int (0 : Int32)] kw_RX1_56 ki_X1_addPart ks_X1_addPart ksg_X1_addPart (m_X1_addPart l G N0 _ _ _ _ _ _ _ _ hP) h7 (by decide) rfl rfl ⟨Nat.le_of_ble_eq_true rfl, Nat.le_of_ble_eq_true rfl⟩ (Nat.le_of_ble_eq_true rfl) ⟨Nat.le_of_ble_eq_true rfl, Nat.le_of_ble_eq_true rfl⟩ rfl dX1_gather_42 (fun σ4 hP => ?_)
      exact V_vret X hr (Nat.le_of_ble_eq_true rfl) (Nat.le_of_ble_eq_true rfl) dX1_gather_45 ⟨rfl, hP⟩
def F_X1_hasMarksOf_15 (a0 : Nat) (a1 : Nat) (post : Int32 → Hp → Prop) (I15 : Int32 → Hp → Prop) (v2 : Int32) (σ15 : Hp) : Prop :=
  gk σ15 a0 = some (1, 0) ∧ ((gi σ15 a0 1) ≤ v2 → post (1 : Int32) σ15) ∧ (¬ ((gi σ15 a0 1) ≤ v2) → ((600 : Int32) ≤ v2 → post (1 : Int32) σ15) ∧ (¬ ((600 : Int32) ≤ v2) → P_X1_at a0 v2 σ15 (fun (r1501 : Int32) (σ1501 : Hp) => gk σ1501 a1 = some (1, 0) ∧ P_X1_at a1 v2 σ1501 (fun (r1502 : Int32) (σ1502 : Hp) => (r1501 = r1502 → I15 (v2 + (1 : Int32)) σ1502) ∧ (¬ (r1501 = r1502) → post (0 : Int32) σ1502)))))
def P_X1_hasMarksOf (a0 : Nat) (a1 : Nat) (σ : Hp) (post : Int32 → Hp → Prop) : Prop :=
  gk σ a0 = some (1, 0) ∧ gk σ a1 = some (1, 0) ∧ ((gi σ a0 1) = (gi σ a1 1) → lfp1 (F_X1_hasMarksOf_15 a0 a1 post) (0 : Int32) σ) ∧ (¬ ((gi σ a0 1) = (gi σ a1 1)) → post (0 : Int32) σ)
set_option maxHeartbeats 2000000 in
set_option maxRecDepth 100000 in
theorem m_X1_hasMarksOf (l : Launch) (G : GG) (N0 : Nat) (a0 : Nat) (a1 : Nat) (σ : Hp) (post : Int32 → Hp → Prop) (hP : P_X1_hasMarksOf a0 a1 σ post) : MM l G N0 yX1_hasMarksOf cX1_hasMarksOf 3 (some .boolean) (1) (21) 0 0 [.ref a0, .ref a1] σ (pI post) := by
  refine MM.of (by decide) (Nat.le_of_ble_eq_true rfl) ?_
  intro p e s m args below meth c X hr hnm
  refine V.to (lv2 := [(0, .ref a0), (1, .ref a1)]) [0, 1] rfl rfl ?_
  unfold P_X1_hasMarksOf at hP
  refine V_aload_n X dX1_hasMarksOf_0 rfl 0 rfl ?_
  obtain ⟨h1, hP⟩ := hP
  refine V_geti X kf_RX1_15 rfl h1 dX1_hasMarksOf_1 ?_
  refine V_aload_n X dX1_hasMarksOf_4 rfl 1 rfl ?_
  obtain ⟨h2, hP⟩ := hP
  refine V_geti X kf_RX1_15 rfl h2 dX1_hasMarksOf_5 ?_
  refine V_icmp_eq X (tgt := 13) dX1_hasMarksOf_8 (by decide) (fun h3 => ?_) (fun h3 => ?_)
  · have hP := hP.1 h3
    refine V_iconst X (v := (0 : Int32)) dX1_hasMarksOf_13 (by decide) ?_
    refine V_istore_n X (lv' := [(2, .int (0 : Int32)), (0, .ref a0), (1, .ref a1)]) dX1_hasMarksOf_14 rfl (by decide) rfl ?_
    refine V.to (lv2 := [(0, .ref a0), (1, .ref a1), (2, .int (0 : Int32))]) [1, 2, 0] rfl rfl ?_
    refine lfp1_use (fun v2 σ15 => V p l e { frames := 1, cells := 0, slots := 0, locals := 21 } s m args below meth c (MQ below (QC G N0 (pI post)) args s 0 0 (AN N0)) G N0 3 σ15 0 0 15 [(0, .ref a0), (1, .ref a1), (2, .int v2)] []) hP ?_
    intro v2 σ15 hP
    unfold F_X1_hasMarksOf_15 at hP
    refine V_iload_n X dX1_hasMarksOf_15 rfl 2 rfl ?_
    refine V_aload_n X dX1_hasMarksOf_16 rfl 0 rfl ?_
    obtain ⟨h15001, hP⟩ := hP
    refine V_geti X kf_RX1_15 rfl h15001 dX1_hasMarksOf_17 ?_
    refine V_icmp_ge X (tgt := 51) dX1_hasMarksOf_20 (by decide) (fun h15002 => ?_) (fun h15002 => ?_)
    · have hP := hP.1 h15002
      refine V_iconst X (v := (1 : Int32)) dX1_hasMarksOf_51 (by decide) ?_
      exact V_iret X hr (Or.inr ⟨rfl, Or.inr rfl⟩) (Nat.le_of_ble_eq_true rfl) (Nat.le_of_ble_eq_true rfl) dX1_hasMarksOf_52 ⟨_, rfl, hP⟩
    · have hP := hP.2 h15002
      refine V_iload_n X dX1_hasMarksOf_23 rfl 2 rfl ?_
      refine V_sipush X (v := (600 : Int32)) dX1_hasMarksOf_24 (by decide) ?_
      refine V_icmp_ge X (tgt := 51) dX1_hasMarksOf_27 (by decide) (fun h15003 => ?_) (fun h15003 => ?_)
      · have hP := hP.1 h15003
        refine V_iconst X (v := (1 : Int32)) dX1_hasMarksOf_51 (by decide) ?_
        exact V_iret X hr (Or.inr ⟨rfl, Or.inr rfl⟩) (Nat.le_of_ble_eq_true rfl) (Nat.le_of_ble_eq_true rfl) dX1_hasMarksOf_52 ⟨_, rfl, hP⟩
      · have hP := hP.2 h15003
        refine V_aload_n X dX1_hasMarksOf_30 rfl 0 rfl ?_
        refine V_iload_n X dX1_hasMarksOf_31 rfl 2 rfl ?_
        refine V_callV_i X [.int v2] kw_RX1_23 ki_X1_at ks_X1_at ksg_X1_at (m_X1_at l G N0 _ _ _ _ hP) h15001 (by decide) rfl rfl ⟨Nat.le_of_ble_eq_true rfl, Nat.le_of_ble_eq_true rfl⟩ (Nat.le_of_ble_eq_true rfl) ⟨Nat.le_of_ble_eq_true rfl, Nat.le_of_ble_eq_true rfl⟩ rfl dX1_hasMarksOf_32 (fun r1501 σ1501 hP => ?_)
        refine V_aload_n X dX1_hasMarksOf_35 rfl 1 rfl ?_
        refine V_iload_n X dX1_hasMarksOf_36 rfl 2 rfl ?_
        obtain ⟨h15004, hP⟩ := hP
        refine V_callV_i X [.int v2] kw_RX1_23 ki_X1_at ks_X1_at ksg_X1_at (m_X1_at l G N0 _ _ _ _ hP) h15004 (by decide) rfl rfl ⟨Nat.le_of_ble_eq_true rfl, Nat.le_of_ble_eq_true rfl⟩ (Nat.le_of_ble_eq_true rfl) ⟨Nat.le_of_ble_eq_true rfl, Nat.le_of_ble_eq_true rfl⟩ rfl dX1_hasMarksOf_37 (fun r1502 σ1502 hP => ?_)
        refine V_icmp_eq X (tgt := 45) dX1_hasMarksOf_40 (by decide) (fun h15005 => ?_) (fun h15005 => ?_)
        · have hP := hP.1 h15005
          refine V_iinc X (v := (v2 + (1 : Int32))) (lv' := [(2, .int (v2 + (1 : Int32))), (0, .ref a0), (1, .ref a1)]) dX1_hasMarksOf_45 2 rfl rfl (by decide) rfl ?_
          refine V_goto X (tgt := 15) dX1_hasMarksOf_48 (by decide) ?_
          exact V.to [1, 2, 0] rfl rfl hP
        · have hP := hP.2 h15005
          refine V_iconst X (v := (0 : Int32)) dX1_hasMarksOf_43 (by decide) ?_
          exact V_iret X hr (Or.inr ⟨rfl, Or.inl rfl⟩) (Nat.le_of_ble_eq_true rfl) (Nat.le_of_ble_eq_true rfl) dX1_hasMarksOf_44 ⟨_, rfl, hP⟩
  · have hP := hP.2 h3
    refine V_iconst X (v := (0 : Int32)) dX1_hasMarksOf_11 (by decide) ?_
    exact V_iret X hr (Or.inr ⟨rfl, Or.inl rfl⟩) (Nat.le_of_ble_eq_true rfl) (Nat.le_of_ble_eq_true rfl) dX1_hasMarksOf_12 ⟨_, rfl, hP⟩
def P_X1_init (a0 : Nat) (σ : Hp) (post : Hp → Prop) : Prop :=
  ∀ q1 : Nat, gk σ q1 = none → gk (nw σ q1 10 600) a0 = some (1, 0) ∧ post (sl (si (sr (nw σ q1 10 600) a0 0 (some q1)) a0 1 (0 : Int32)) a0 2 (0 : Int64))
set_option maxHeartbeats 2000000 in
set_option maxRecDepth 100000 in
theorem m_X1_init (l : Launch) (G : GG) (N0 : Nat) (a0 : Nat) (σ : Hp) (post : Hp → Prop) (hP : P_X1_init a0 σ post) : MM l G N0 yX1_init cX1_init 1 none (1) (20) 1 600 [.ref a0] σ (pV post) := by
  refine MM.of (by decide) (Nat.le_of_ble_eq_true rfl) ?_
  intro p e s m args below meth c X hr hnm
  refine V.to (lv2 := [(0, .ref a0)]) [0] rfl rfl ?_
  unfold P_X1_init at hP
  refine V_aload_n X dX1_init_0 rfl 0 rfl ?_
  refine V_objInit X kl_RX1_3 ko_inst ko_code (Nat.le_of_ble_eq_true rfl) ⟨Nat.le_of_ble_eq_true rfl, Nat.le_of_ble_eq_true rfl⟩ dX1_init_1 ?_
  refine V_aload_n X dX1_init_4 rfl 0 rfl ?_
  refine V_sipush X (v := (600 : Int32)) dX1_init_5 (by decide) ?_
  refine V_newi X (N := 600) ka_int (by decide) (by decide) (by decide) (Nat.le_of_ble_eq_true rfl) (Nat.le_of_ble_eq_true rfl) dX1_init_8 (fun q1 h1 => ?_)
  have hP := hP q1 h1
  have h2 : gk (nw σ q1 10 600) q1 = _ := gk_new
  obtain ⟨h3, hP⟩ := hP
  refine V_putr X (v := (some q1)) kf_RX1_9 (fun _ => ⟨hnm, rfl⟩) rfl h3 (Or.inr ⟨_, rfl⟩) dX1_init_10 ?_
  refine V_aload_n X dX1_init_13 rfl 0 rfl ?_
  refine V_iconst X (v := (0 : Int32)) dX1_init_14 (by decide) ?_
  refine V_puti X kf_RX1_15 (fun h => by cases h) rfl h3 (Or.inl rfl) dX1_init_15 ?_
  refine V_aload_n X dX1_init_18 rfl 0 rfl ?_
  refine V_lconst X (v := (0 : Int64)) dX1_init_19 (by decide) ?_
  refine V_putl X kf_RX1_19 (fun h => by cases h) rfl h3 dX1_init_20 ?_
  exact V_vret X hr (Nat.le_of_ble_eq_true rfl) (Nat.le_of_ble_eq_true rfl) dX1_init_23 ⟨rfl, hP⟩
def P_X1_isValueAt (a0 : Nat) (x1 : Int32) (σ : Hp) (post : Int32 → Hp → Prop) : Prop :=
  gk σ a0 = some (1, 0) ∧ P_X1_at a0 x1 σ (fun (r1 : Int32) (σ1 : Hp) => P_X8_isValue r1 σ1 (fun (r2 : Int32) (σ2 : Hp) => (r2 = 0 ∨ r2 = 1) ∧ post r2 σ2))
set_option maxHeartbeats 2000000 in
set_option maxRecDepth 100000 in
theorem m_X1_isValueAt (l : Launch) (G : GG) (N0 : Nat) (a0 : Nat) (x1 : Int32) (σ : Hp) (post : Int32 → Hp → Prop) (hP : P_X1_isValueAt a0 x1 σ post) : MM l G N0 yX1_isValueAt cX1_isValueAt 2 (some .boolean) (1) (21) 0 0 [.ref a0, .int x1] σ (pI post) := by
  refine MM.of (by decide) (Nat.le_of_ble_eq_true rfl) ?_
  intro p e s m args below meth c X hr hnm
  refine V.to (lv2 := [(0, .ref a0), (1, .int x1)]) [0, 1] rfl rfl ?_
  unfold P_X1_isValueAt at hP
  refine V_aload_n X dX1_isValueAt_0 rfl 0 rfl ?_
  refine V_iload_n X dX1_isValueAt_1 rfl 1 rfl ?_
  obtain ⟨h1, hP⟩ := hP
  refine V_callV_i X [.int x1] kw_RX1_23 ki_X1_at ks_X1_at ksg_X1_at (m_X1_at l G N0 _ _ _ _ hP) h1 (by decide) rfl rfl ⟨Nat.le_of_ble_eq_true rfl, Nat.le_of_ble_eq_true rfl⟩ (Nat.le_of_ble_eq_true rfl) ⟨Nat.le_of_ble_eq_true rfl, Nat.le_of_ble_eq_true rfl⟩ rfl dX1_isValueAt_2 (fun r1 σ1 hP => ?_)
  refine V_callSN_i X [.int r1] kw_RX1_27 ki_X8_isValue (m_X8_isValue l G N0 _ _ _ hP) rfl ⟨Nat.le_of_ble_eq_true rfl, Nat.le_of_ble_eq_true rfl⟩ (Nat.le_of_ble_eq_true rfl) ⟨Nat.le_of_ble_eq_true rfl, Nat.le_of_ble_eq_true rfl⟩ rfl dX1_isValueAt_5 (fun r2 σ2 hP => ?_)
  obtain ⟨h2, hP⟩ := hP
  exact V_iret X hr (Or.inr ⟨rfl, h2⟩) (Nat.le_of_ble_eq_true rfl) (Nat.le_of_ble_eq_true rfl) dX1_isValueAt_8 ⟨_, rfl, hP⟩
def P_X1_length (a0 : Nat) (σ : Hp) (post : Int32 → Hp → Prop) : Prop :=
  gk σ a0 = some (1, 0) ∧ post (gi σ a0 1) σ
set_option maxHeartbeats 2000000 in
set_option maxRecDepth 100000 in
theorem m_X1_length (l : Launch) (G : GG) (N0 : Nat) (a0 : Nat) (σ : Hp) (post : Int32 → Hp → Prop) (hP : P_X1_length a0 σ post) : MM l G N0 yX1_length cX1_length 1 (some .int) (0) (0) 0 0 [.ref a0] σ (pI post) := by
  refine MM.of (by decide) (Nat.le_of_ble_eq_true rfl) ?_
  intro p e s m args below meth c X hr hnm
  refine V.to (lv2 := [(0, .ref a0)]) [0] rfl rfl ?_
  unfold P_X1_length at hP
  refine V_aload_n X dX1_length_0 rfl 0 rfl ?_
  obtain ⟨h1, hP⟩ := hP
  refine V_geti X kf_RX1_15 rfl h1 dX1_length_1 ?_
  exact V_iret X hr (Or.inl rfl) (Nat.le_of_ble_eq_true rfl) (Nat.le_of_ble_eq_true rfl) dX1_length_4 ⟨_, rfl, hP⟩
def P_X1_put (a0 : Nat) (x1 : Int32) (x2 : Int32) (σ : Hp) (post : Hp → Prop) : Prop :=
  (x1 < 0 → post σ) ∧ (¬ (x1 < 0) → gk σ a0 = some (1, 0) ∧ ((gi σ a0 1) ≤ x1 → post σ) ∧ (¬ ((gi σ a0 1) ≤ x1) → ∃ b1 : Nat, (gr σ a0 0) = some b1 ∧ ∃ n2 : Nat, gk σ b1 = some (10, n2) ∧ ((Int32.ofNat n2) ≤ x1 → post σ) ∧ (¬ ((Int32.ofNat n2) ≤ x1) → vp_in x1 n2 ∧ post (si σ b1 (Int32.toNatClampNeg x1) x2))))
set_option maxHeartbeats 2000000 in
set_option maxRecDepth 100000 in
theorem m_X1_put (l : Launch) (G : GG) (N0 : Nat) (a0 : Nat) (x1 : Int32) (x2 : Int32) (σ : Hp) (post : Hp → Prop) (hP : P_X1_put a0 x1 x2 σ post) : MM l G N0 yX1_put cX1_put 3 none (0) (0) 0 0 [.ref a0, .int x1, .int x2] σ (pV post) := by
  refine MM.of (by decide) (Nat.le_of_ble_eq_true rfl) ?_
  intro p e s m args below meth c X hr hnm
  refine V.to (lv2 := [(0, .ref a0), (1, .int x1), (2, .int x2)]) [0, 1, 2] rfl rfl ?_
  unfold P_X1_put at hP
  refine V_iload_n X dX1_put_0 rfl 1 rfl ?_
  refine V_if_lt X (tgt := 28) dX1_put_1 (by decide) (fun h1 => ?_) (fun h1 => ?_)
  · have hP := hP.1 h1
    exact V_vret X hr (Nat.le_of_ble_eq_true rfl) (Nat.le_of_ble_eq_true rfl) dX1_put_28 ⟨rfl, hP⟩
  · have hP := hP.2 h1
    refine V_iload_n X dX1_put_4 rfl 1 rfl ?_
    refine V_aload_n X dX1_put_5 rfl 0 rfl ?_
    obtain ⟨h2, hP⟩ := hP
    refine V_geti X kf_RX1_15 rfl h2 dX1_put_6 ?_
    refine V_icmp_ge X (tgt := 28) dX1_put_9 (by decide) (fun h3 => ?_) (fun h3 => ?_)
    · have hP := hP.1 h3
      exact V_vret X hr (Nat.le_of_ble_eq_true rfl) (Nat.le_of_ble_eq_true rfl) dX1_put_28 ⟨rfl, hP⟩
    · have hP := hP.2 h3
      refine V_iload_n X dX1_put_12 rfl 1 rfl ?_
      refine V_aload_n X dX1_put_13 rfl 0 rfl ?_
      refine V_getr X kf_RX1_9 rfl h2 dX1_put_14 ?_
      obtain ⟨b1, h4, hP⟩ := hP
      refine V_dr0 h4 ?_
      obtain ⟨n2, h5, hP⟩ := hP
      refine V_alen X (Or.inl rfl) h5 dX1_put_17 ?_
      refine V_icmp_ge X (tgt := 28) dX1_put_18 (by decide) (fun h6 => ?_) (fun h6 => ?_)
      · have hP := hP.1 h6
        exact V_vret X hr (Nat.le_of_ble_eq_true rfl) (Nat.le_of_ble_eq_true rfl) dX1_put_28 ⟨rfl, hP⟩
      · have hP := hP.2 h6
        refine V_aload_n X dX1_put_21 rfl 0 rfl ?_
        refine V_getr X kf_RX1_9 rfl h2 dX1_put_22 ?_
        refine V_iload_n X dX1_put_25 rfl 1 rfl ?_
        refine V_iload_n X dX1_put_26 rfl 2 rfl ?_
        refine V_dr2 h4 ?_
        obtain ⟨h7, hP⟩ := hP
        refine V_iast X h5 h7 dX1_put_27 ?_
        exact V_vret X hr (Nat.le_of_ble_eq_true rfl) (Nat.le_of_ble_eq_true rfl) dX1_put_28 ⟨rfl, hP⟩
def F_X1_rowAround_17 (a0 : Nat) (post : Int32 → Hp → Prop) (I17 : Int32 → Int32 → Hp → Prop) (v2 : Int32) (v3 : Int32) (σ17 : Hp) : Prop :=
  (v3 < 0 → post (-1 : Int32) σ17) ∧ (¬ (v3 < 0) → gk σ17 a0 = some (1, 0) ∧ P_X1_at a0 v3 σ17 (fun (r1701 : Int32) (σ1701 : Hp) => (¬ r1701 = (30000 : Int32) → (r1701 < (10000 : Int32) → I17 v2 (v3 + (-1 : Int32)) σ1701) ∧ (¬ (r1701 < (10000 : Int32)) → ((20000 : Int32) ≤ r1701 → I17 v2 (v3 + (-1 : Int32)) σ1701) ∧ (¬ ((20000 : Int32) ≤ r1701) → (¬ v2 = 0 → I17 (v2 + (-1 : Int32)) (v3 + (-1 : Int32)) σ1701) ∧ (v2 = 0 → post (r1701 - (10000 : Int32)) σ1701)))) ∧ (r1701 = (30000 : Int32) → I17 (v2 + (1 : Int32)) (v3 + (-1 : Int32)) σ1701)))
def P_X1_rowAround (a0 : Nat) (x1 : Int32) (σ : Hp) (post : Int32 → Hp → Prop) : Prop :=
  gk σ a0 = some (1, 0) ∧ lfp2 (F_X1_rowAround_17 a0 post) (0 : Int32) ((if (gi σ a0 1) < (if x1 < (0 : Int32) then (0 : Int32) else x1) then (gi σ a0 1) else (if x1 < (0 : Int32) then (0 : Int32) else x1)) - (1 : Int32)) σ
set_option maxHeartbeats 2000000 in
set_option maxRecDepth 100000 in
theorem m_X1_rowAround (l : Launch) (G : GG) (N0 : Nat) (a0 : Nat) (x1 : Int32) (σ : Hp) (post : Int32 → Hp → Prop) (hP : P_X1_rowAround a0 x1 σ post) : MM l G N0 yX1_rowAround cX1_rowAround 5 (some .int) (1) (25) 0 0 [.ref a0, .int x1] σ (pI post) := by
  refine MM.of (by decide) (Nat.le_of_ble_eq_true rfl) ?_
  intro p e s m args below meth c X hr hnm
  refine V.to (lv2 := [(0, .ref a0), (1, .int x1)]) [0, 1] rfl rfl ?_
  unfold P_X1_rowAround at hP
  refine V_iconst X (v := (0 : Int32)) dX1_rowAround_0 (by decide) ?_
  refine V_istore_n X (lv' := [(2, .int (0 : Int32)), (0, .ref a0), (1, .int x1)]) dX1_rowAround_1 rfl (by decide) rfl ?_
  refine V_iload_n X dX1_rowAround_2 rfl 2 rfl ?_
  refine V_iconst X (v := (0 : Int32)) dX1_rowAround_3 (by decide) ?_
  refine V_mmax X kl_RX1_31 km_max_s km_ini km_max_c (Nat.le_of_ble_eq_true rfl) ⟨Nat.le_of_ble_eq_true rfl, Nat.le_of_ble_eq_true rfl⟩ ⟨Nat.le_of_ble_eq_true rfl, Nat.le_of_ble_eq_true rfl⟩ dX1_rowAround_4 ?_
  refine V_aload_n X dX1_rowAround_7 rfl 1 rfl ?_
  obtain ⟨h1, hP⟩ := hP
  refine V_geti X kf_RX1_15 rfl h1 dX1_rowAround_8 ?_
  refine V_mmin X kl_RX1_37 km_min_s km_ini km_min_c (Nat.le_of_ble_eq_true rfl) ⟨Nat.le_of_ble_eq_true rfl, Nat.le_of_ble_eq_true rfl⟩ ⟨Nat.le_of_ble_eq_true rfl, Nat.le_of_ble_eq_true rfl⟩ dX1_rowAround_11 ?_
  refine V_iconst X (v := (1 : Int32)) dX1_rowAround_14 (by decide) ?_
  refine V_isub X dX1_rowAround_15 ?_
  refine V_istore_n X (lv' := [(3, .int ((if (gi σ a0 1) < (if x1 < (0 : Int32) then (0 : Int32) else x1) then (gi σ a0 1) else (if x1 < (0 : Int32) then (0 : Int32) else x1)) - (1 : Int32))), (2, .int (0 : Int32)), (0, .ref a0), (1, .int x1)]) dX1_rowAround_16 rfl (by decide) rfl ?_
  refine V.to (lv2 := [(0, .ref a0), (2, .int (0 : Int32)), (3, .int ((if (gi σ a0 1) < (if x1 < (0 : Int32) then (0 : Int32) else x1) then (gi σ a0 1) else (if x1 < (0 : Int32) then (0 : Int32) else x1)) - (1 : Int32)))]) [2, 1, 0] rfl rfl ?_
  refine lfp2_use (fun v2 v3 σ17 => V p l e { frames := 1, cells := 0, slots := 0, locals := 25 } s m args below meth c (MQ below (QC G N0 (pI post)) args s 0 0 (AN N0)) G N0 5 σ17 0 0 17 [(0, .ref a0), (2, .int v2), (3, .int v3)] []) hP ?_
  intro v2 v3 σ17 hP
  unfold F_X1_rowAround_17 at hP
  refine V_iload_n X dX1_rowAround_17 rfl 2 rfl ?_
  refine V_if_lt X (tgt := 78) dX1_rowAround_18 (by decide) (fun h17001 => ?_) (fun h17001 => ?_)
  · have hP := hP.1 h17001
    refine V_iconst X (v := (-1 : Int32)) dX1_rowAround_78 (by decide) ?_
    exact V_iret X hr (Or.inl rfl) (Nat.le_of_ble_eq_true rfl) (Nat.le_of_ble_eq_true rfl) dX1_rowAround_79 ⟨_, rfl, hP⟩
  · have hP := hP.2 h17001
    refine V_aload_n X dX1_rowAround_21 rfl 0 rfl ?_
    refine V_iload_n X dX1_rowAround_22 rfl 2 rfl ?_
    obtain ⟨h17002, hP⟩ := hP
    refine V_callV_i X [.int v3] kw_RX1_23 ki_X1_at ks_X1_at ksg_X1_at (m_X1_at l G N0 _ _ _ _ hP) h17002 (by decide) rfl rfl ⟨Nat.le_of_ble_eq_true rfl, Nat.le_of_ble_eq_true rfl⟩ (Nat.le_of_ble_eq_true rfl) ⟨Nat.le_of_ble_eq_true rfl, Nat.le_of_ble_eq_true rfl⟩ rfl dX1_rowAround_23 (fun r1701 σ1701 hP => ?_)
    refine V_istore X (lv' := [(4, .int r1701), (0, .ref a0), (2, .int v2), (3, .int v3)]) dX1_rowAround_26 (by decide) rfl ?_
    refine V_iload X dX1_rowAround_28 0 rfl ?_
    refine V_sipush X (v := (30000 : Int32)) dX1_rowAround_30 (by decide) ?_
    refine V_icmp_ne X (tgt := 42) dX1_rowAround_33 (by decide) (fun h17003 => ?_) (fun h17003 => ?_)
    · have hP := hP.1 h17003
      refine V_iload X dX1_rowAround_42 0 rfl ?_
      refine V_sipush X (v := (10000 : Int32)) dX1_rowAround_44 (by decide) ?_
      refine V_icmp_lt X (tgt := 72) dX1_rowAround_47 (by decide) (fun h17004 => ?_) (fun h17004 => ?_)
      · have hP := hP.1 h17004
        refine V_iinc X (v := (v3 + (-1 : Int32))) (lv' := [(3, .int (v3 + (-1 : Int32))), (4, .int r1701), (0, .ref a0), (2, .int v2)]) dX1_rowAround_72 3 rfl rfl (by decide) rfl ?_
        refine V_goto X (tgt := 17) dX1_rowAround_75 (by decide) ?_
        exact V.to [2, 3, 0] rfl rfl hP
      · have hP := hP.2 h17004
        refine V_iload X dX1_rowAround_50 0 rfl ?_
        refine V_sipush X (v := (20000 : Int32)) dX1_rowAround_52 (by decide) ?_
        refine V_icmp_ge X (tgt := 72) dX1_rowAround_55 (by decide) (fun h17005 => ?_) (fun h17005 => ?_)
        · have hP := hP.1 h17005
          refine V_iinc X (v := (v3 + (-1 : Int32))) (lv' := [(3, .int (v3 + (-1 : Int32))), (4, .int r1701), (0, .ref a0), (2, .int v2)]) dX1_rowAround_72 3 rfl rfl (by decide) rfl ?_
          refine V_goto X (tgt := 17) dX1_rowAround_75 (by decide) ?_
          exact V.to [2, 3, 0] rfl rfl hP
        · have hP := hP.2 h17005
          refine V_iload_n X dX1_rowAround_58 rfl 2 rfl ?_
          refine V_if_ne X (tgt := 69) dX1_rowAround_59 (by decide) (fun h17006 => ?_) (fun h17006 => ?_)
          · have hP := hP.1 h17006
            refine V_iinc X (v := (v2 + (-1 : Int32))) (lv' := [(2, .int (v2 + (-1 : Int32))), (4, .int r1701), (0, .ref a0), (3, .int v3)]) dX1_rowAround_69 2 rfl rfl (by decide) rfl ?_
            refine V_iinc X (v := (v3 + (-1 : Int32))) (lv' := [(3, .int (v3 + (-1 : Int32))), (2, .int (v2 + (-1 : Int32))), (4, .int r1701), (0, .ref a0)]) dX1_rowAround_72 3 rfl rfl (by decide) rfl ?_
            refine V_goto X (tgt := 17) dX1_rowAround_75 (by decide) ?_
            exact V.to [3, 1, 0] rfl rfl hP
          · have hP := hP.2 h17006
            refine V_iload X dX1_rowAround_62 0 rfl ?_
            refine V_sipush X (v := (10000 : Int32)) dX1_rowAround_64 (by decide) ?_
            refine V_isub X dX1_rowAround_67 ?_
            exact V_iret X hr (Or.inl rfl) (Nat.le_of_ble_eq_true rfl) (Nat.le_of_ble_eq_true rfl) dX1_rowAround_68 ⟨_, rfl, hP⟩
    · have hP := hP.2 h17003
      refine V_iinc X (v := (v2 + (1 : Int32))) (lv' := [(2, .int (v2 + (1 : Int32))), (4, .int r1701), (0, .ref a0), (3, .int v3)]) dX1_rowAround_36 2 rfl rfl (by decide) rfl ?_
      refine V_goto X (tgt := 72) dX1_rowAround_39 (by decide) ?_
      refine V_iinc X (v := (v3 + (-1 : Int32))) (lv' := [(3, .int (v3 + (-1 : Int32))), (2, .int (v2 + (1 : Int32))), (4, .int r1701), (0, .ref a0)]) dX1_rowAround_72 3 rfl rfl (by decide) rfl ?_
      refine V_goto X (tgt := 17) dX1_rowAround_75 (by decide) ?_
      exact V.to [3, 1, 0] rfl rfl hP
def F_X1_takeFrom_10 (a0 : Nat) (a1 : Nat) (post : Hp → Prop) (I10 : Int32 → Hp → Prop) (v2 : Int32) (σ10 : Hp) : Prop :=
  gk σ10 a0 = some (1, 0) ∧ ((gi σ10 a0 1) ≤ v2 → post σ10) ∧ (¬ ((gi σ10 a0 1) ≤ v2) → ∃ b1001 : Nat, (gr σ10 a0 0) = some b1001 ∧ ∃ n1002 : Nat, gk σ10 b1001 = some (10, n1002) ∧ ((Int32.ofNat n1002) ≤ v2 → post σ10) ∧ (¬ ((Int32.ofNat n1002) ≤ v2) → gk σ10 a1 = some (1, 0) ∧ P_X1_at a1 v2 σ10 (fun (r1003 : Int32) (σ1003 : Hp) => ∃ n1004 : Nat, gk σ1003 b1001 = some (10, n1004) ∧ vp_in v2 n1004 ∧ I10 (v2 + (1 : Int32)) (si σ1003 b1001 (Int32.toNatClampNeg v2) r1003))))
def P_X1_takeFrom (a0 : Nat) (a1 : Nat) (σ : Hp) (post : Hp → Prop) : Prop :=
  gk σ a1 = some (1, 0) ∧ gk σ a0 = some (1, 0) ∧ lfp1 (F_X1_takeFrom_10 a0 a1 post) (0 : Int32) (si σ a0 1 (gi σ a1 1))
set_option maxHeartbeats 2000000 in
set_option maxRecDepth 100000 in
theorem m_X1_takeFrom (l : Launch) (G : GG) (N0 : Nat) (a0 : Nat) (a1 : Nat) (σ : Hp) (post : Hp → Prop) (hP : P_X1_takeFrom a0 a1 σ post) : MM l G N0 yX1_takeFrom cX1_takeFrom 3 none (1) (21) 0 0 [.ref a0, .ref a1] σ (pV post) := by
  refine MM.of (by decide) (Nat.le_of_ble_eq_true rfl) ?_
  intro p e s m args below meth c X hr hnm
  refine V.to (lv2 := [(0, .ref a0), (1, .ref a1)]) [0, 1] rfl rfl ?_
  unfold P_X1_takeFrom at hP
  refine V_aload_n X dX1_takeFrom_0 rfl 0 rfl ?_
  refine V_aload_n X dX1_takeFrom_1 rfl 1 rfl ?_
  obtain ⟨h1, hP⟩ := hP
  refine V_geti X kf_RX1_15 rfl h1 dX1_takeFrom_2 ?_
  obtain ⟨h2, hP⟩ := hP
  refine V_puti X kf_RX1_15 (fun h => by cases h) rfl h2 (Or.inl rfl) dX1_takeFrom_5 ?_
  refine V_iconst X (v := (0 : Int32)) dX1_takeFrom_8 (by decide) ?_
  refine V_istore_n X (lv' := [(2, .int (0 : Int32)), (0, .ref a0), (1, .ref a1)]) dX1_takeFrom_9 rfl (by decide) rfl ?_
  refine V.to (lv2 := [(0, .ref a0), (1, .ref a1), (2, .int (0 : Int32))]) [1, 2, 0] rfl rfl ?_
  refine lfp1_use (fun v2 σ10 => V p l e { frames := 1, cells := 0, slots := 0, locals := 21 } s m args below meth c (MQ below (QC G N0 (pV post)) args s 0 0 (AN N0)) G N0 3 σ10 0 0 10 [(0, .ref a0), (1, .ref a1), (2, .int v2)] []) hP ?_
  intro v2 σ10 hP
  unfold F_X1_takeFrom_10 at hP
  refine V_iload_n X dX1_takeFrom_10 rfl 2 rfl ?_
  refine V_aload_n X dX1_takeFrom_11 rfl 0 rfl ?_
  obtain ⟨h10001, hP⟩ := hP
  refine V_geti X kf_RX1_15 rfl h10001 dX1_takeFrom_12 ?_
  refine V_icmp_ge X (tgt := 44) dX1_takeFrom_15 (by decide) (fun h10002 => ?_) (fun h10002 => ?_)
  · have hP := hP.1 h10002
    exact V_vret X hr (Nat.le_of_ble_eq_true rfl) (Nat.le_of_ble_eq_true rfl) dX1_takeFrom_44 ⟨rfl, hP⟩
  · have hP := hP.2 h10002
    refine V_iload_n X dX1_takeFrom_18 rfl 2 rfl ?_
    refine V_aload_n X dX1_takeFrom_19 rfl 0 rfl ?_
    refine V_getr X kf_RX1_9 rfl h10001 dX1_takeFrom_20 ?_
    obtain ⟨b1001, h10003, hP⟩ := hP
    refine V_dr0 h10003 ?_
    obtain ⟨n1002, h10004, hP⟩ := hP
    refine V_alen X (Or.inl rfl) h10004 dX1_takeFrom_23 ?_
    refine V_icmp_ge X (tgt := 44) dX1_takeFrom_24 (by decide) (fun h10005 => ?_) (fun h10005 => ?_)
    · have hP := hP.1 h10005
      exact V_vret X hr (Nat.le_of_ble_eq_true rfl) (Nat.le_of_ble_eq_true rfl) dX1_takeFrom_44 ⟨rfl, hP⟩
    · have hP := hP.2 h10005
      refine V_aload_n X dX1_takeFrom_27 rfl 0 rfl ?_
      refine V_getr X kf_RX1_9 rfl h10001 dX1_takeFrom_28 ?_
      refine V_iload_n X dX1_takeFrom_31 rfl 2 rfl ?_
      refine V_aload_n X dX1_takeFrom_32 rfl 1 rfl ?_
      refine V_iload_n X dX1_takeFrom_33 rfl 2 rfl ?_
      obtain ⟨h10006, hP⟩ := hP
      refine V_callV_i X [.int v2] kw_RX1_23 ki_X1_at ks_X1_at ksg_X1_at (m_X1_at l G N0 _ _ _ _ hP) h10006 (by decide) rfl rfl ⟨Nat.le_of_ble_eq_true rfl, Nat.le_of_ble_eq_true rfl⟩ (by simp only [List.map_cons, vcat]; exact Nat.le_of_ble_eq_true rfl) ⟨Nat.le_of_ble_eq_true rfl, Nat.le_of_ble_eq_true rfl⟩ rfl dX1_takeFrom_34 (fun r1003 σ1003 hP => ?_)
      refine V_dr2 h10003 ?_
      obtain ⟨n1004, h10007, hP⟩ := hP
      obtain ⟨h10008, hP⟩ := hP
      refine V_iast X h10007 h10008 dX1_takeFrom_37 ?_
      refine V_iinc X (v := (v2 + (1 : Int32))) (lv' := [(2, .int (v2 + (1 : Int32))), (0, .ref a0), (1, .ref a1)]) dX1_takeFrom_38 2 rfl rfl (by decide) rfl ?_
      refine V_goto X (tgt := 10) dX1_takeFrom_41 (by decide) ?_
      exact V.to [1, 2, 0] rfl rfl hP
def P_X2_isDigit (x1 : Int32) (σ : Hp) (post : Int32 → Hp → Prop) : Prop :=
  (x1 < (48 : Int32) → post (0 : Int32) σ) ∧ (¬ (x1 < (48 : Int32)) → ((57 : Int32) < x1 → post (0 : Int32) σ) ∧ (¬ ((57 : Int32) < x1) → post (1 : Int32) σ))
set_option maxHeartbeats 2000000 in
set_option maxRecDepth 100000 in
theorem m_X2_isDigit (l : Launch) (G : GG) (N0 : Nat) (x1 : Int32) (σ : Hp) (post : Int32 → Hp → Prop) (hP : P_X2_isDigit x1 σ post) : MM l G N0 yX2_isDigit cX2_isDigit 1 (some .boolean) (0) (0) 0 0 [.int x1] σ (pI post) := by
  refine MM.of (by decide) (Nat.le_of_ble_eq_true rfl) ?_
  intro p e s m args below meth c X hr hnm
  refine V.to (lv2 := [(0, .int x1)]) [0] rfl rfl ?_
  unfold P_X2_isDigit at hP
  refine V_iload_n X dX2_isDigit_0 rfl 0 rfl ?_
  refine V_bipush X (v := (48 : Int32)) dX2_isDigit_1 (by decide) ?_
  refine V_icmp_lt X (tgt := 16) dX2_isDigit_3 (by decide) (fun h1 => ?_) (fun h1 => ?_)
  · have hP := hP.1 h1
    refine V_iconst X (v := (0 : Int32)) dX2_isDigit_16 (by decide) ?_
    exact V_iret X hr (Or.inr ⟨rfl, Or.inl rfl⟩) (Nat.le_of_ble_eq_true rfl) (Nat.le_of_ble_eq_true rfl) dX2_isDigit_17 ⟨_, rfl, hP⟩
  · have hP := hP.2 h1
    refine V_iload_n X dX2_isDigit_6 rfl 0 rfl ?_
    refine V_bipush X (v := (57 : Int32)) dX2_isDigit_7 (by decide) ?_
    refine V_icmp_gt X (tgt := 16) dX2_isDigit_9 (by decide) (fun h2 => ?_) (fun h2 => ?_)
    · have hP := hP.1 h2
      refine V_iconst X (v := (0 : Int32)) dX2_isDigit_16 (by decide) ?_
      exact V_iret X hr (Or.inr ⟨rfl, Or.inl rfl⟩) (Nat.le_of_ble_eq_true rfl) (Nat.le_of_ble_eq_true rfl) dX2_isDigit_17 ⟨_, rfl, hP⟩
    · have hP := hP.2 h2
      refine V_iconst X (v := (1 : Int32)) dX2_isDigit_12 (by decide) ?_
      refine V_goto X (tgt := 17) dX2_isDigit_13 (by decide) ?_
      exact V_iret X hr (Or.inr ⟨rfl, Or.inr rfl⟩) (Nat.le_of_ble_eq_true rfl) (Nat.le_of_ble_eq_true rfl) dX2_isDigit_17 ⟨_, rfl, hP⟩
def P_X2_isLetter (x1 : Int32) (σ : Hp) (post : Int32 → Hp → Prop) : Prop :=
  (x1 < (97 : Int32) → post (0 : Int32) σ) ∧ (¬ (x1 < (97 : Int32)) → ((122 : Int32) < x1 → post (0 : Int32) σ) ∧ (¬ ((122 : Int32) < x1) → post (1 : Int32) σ))
set_option maxHeartbeats 2000000 in
set_option maxRecDepth 100000 in
theorem m_X2_isLetter (l : Launch) (G : GG) (N0 : Nat) (x1 : Int32) (σ : Hp) (post : Int32 → Hp → Prop) (hP : P_X2_isLetter x1 σ post) : MM l G N0 yX2_isLetter cX2_isLetter 1 (some .boolean) (0) (0) 0 0 [.int x1] σ (pI post) := by
  refine MM.of (by decide) (Nat.le_of_ble_eq_true rfl) ?_
  intro p e s m args below meth c X hr hnm
  refine V.to (lv2 := [(0, .int x1)]) [0] rfl rfl ?_
  unfold P_X2_isLetter at hP
  refine V_iload_n X dX2_isLetter_0 rfl 0 rfl ?_
  refine V_bipush X (v := (97 : Int32)) dX2_isLetter_1 (by decide) ?_
  refine V_icmp_lt X (tgt := 16) dX2_isLetter_3 (by decide) (fun h1 => ?_) (fun h1 => ?_)
  · have hP := hP.1 h1
    refine V_iconst X (v := (0 : Int32)) dX2_isLetter_16 (by decide) ?_
    exact V_iret X hr (Or.inr ⟨rfl, Or.inl rfl⟩) (Nat.le_of_ble_eq_true rfl) (Nat.le_of_ble_eq_true rfl) dX2_isLetter_17 ⟨_, rfl, hP⟩
  · have hP := hP.2 h1
    refine V_iload_n X dX2_isLetter_6 rfl 0 rfl ?_
    refine V_bipush X (v := (122 : Int32)) dX2_isLetter_7 (by decide) ?_
    refine V_icmp_gt X (tgt := 16) dX2_isLetter_9 (by decide) (fun h2 => ?_) (fun h2 => ?_)
    · have hP := hP.1 h2
      refine V_iconst X (v := (0 : Int32)) dX2_isLetter_16 (by decide) ?_
      exact V_iret X hr (Or.inr ⟨rfl, Or.inl rfl⟩) (Nat.le_of_ble_eq_true rfl) (Nat.le_of_ble_eq_true rfl) dX2_isLetter_17 ⟨_, rfl, hP⟩
    · have hP := hP.2 h2
      refine V_iconst X (v := (1 : Int32)) dX2_isLetter_12 (by decide) ?_
      refine V_goto X (tgt := 17) dX2_isLetter_13 (by decide) ?_
      exact V_iret X hr (Or.inr ⟨rfl, Or.inr rfl⟩) (Nat.le_of_ble_eq_true rfl) (Nat.le_of_ble_eq_true rfl) dX2_isLetter_17 ⟨_, rfl, hP⟩
def P_X7_byteAt (a0 : Nat) (x1 : Int32) (σ : Hp) (post : Int32 → Hp → Prop) : Prop :=
  (x1 < 0 → post (-1 : Int32) σ) ∧ (¬ (x1 < 0) → gk σ a0 = some (7, 0) ∧ ((gi σ a0 1) ≤ x1 → post (-1 : Int32) σ) ∧ (¬ ((gi σ a0 1) ≤ x1) → ∃ b1 : Nat, (gr σ a0 0) = some b1 ∧ ∃ n2 : Nat, gk σ b1 = some (10, n2) ∧ ((Int32.ofNat n2) ≤ x1 → post (-1 : Int32) σ) ∧ (¬ ((Int32.ofNat n2) ≤ x1) → vp_in x1 n2 ∧ post (gi σ b1 (Int32.toNatClampNeg x1)) σ)))
set_option maxHeartbeats 2000000 in
set_option maxRecDepth 100000 in
theorem m_X7_byteAt (l : Launch) (G : GG) (N0 : Nat) (a0 : Nat) (x1 : Int32) (σ : Hp) (post : Int32 → Hp → Prop) (hP : P_X7_byteAt a0 x1 σ post) : MM l G N0 yX7_byteAt cX7_byteAt 2 (some .int) (0) (0) 0 0 [.ref a0, .int x1] σ (pI post) := by
  refine MM.of (by decide) (Nat.le_of_ble_eq_true rfl) ?_
  intro p e s m args below meth c X hr hnm
  refine V.to (lv2 := [(0, .ref a0), (1, .int x1)]) [0, 1] rfl rfl ?_
  unfold P_X7_byteAt at hP
  refine V_iload_n X dX7_byteAt_0 rfl 1 rfl ?_
  refine V_if_lt X (tgt := 30) dX7_byteAt_1 (by decide) (fun h1 => ?_) (fun h1 => ?_)
  · have hP := hP.1 h1
    refine V_iconst X (v := (-1 : Int32)) dX7_byteAt_30 (by decide) ?_
    exact V_iret X hr (Or.inl rfl) (Nat.le_of_ble_eq_true rfl) (Nat.le_of_ble_eq_true rfl) dX7_byteAt_31 ⟨_, rfl, hP⟩
  · have hP := hP.2 h1
    refine V_iload_n X dX7_byteAt_4 rfl 1 rfl ?_
    refine V_aload_n X dX7_byteAt_5 rfl 0 rfl ?_
    obtain ⟨h2, hP⟩ := hP
    refine V_geti X kf_RX7_15 rfl h2 dX7_byteAt_6 ?_
    refine V_icmp_ge X (tgt := 30) dX7_byteAt_9 (by decide) (fun h3 => ?_) (fun h3 => ?_)
    · have hP := hP.1 h3
      refine V_iconst X (v := (-1 : Int32)) dX7_byteAt_30 (by decide) ?_
      exact V_iret X hr (Or.inl rfl) (Nat.le_of_ble_eq_true rfl) (Nat.le_of_ble_eq_true rfl) dX7_byteAt_31 ⟨_, rfl, hP⟩
    · have hP := hP.2 h3
      refine V_iload_n X dX7_byteAt_12 rfl 1 rfl ?_
      refine V_aload_n X dX7_byteAt_13 rfl 0 rfl ?_
      refine V_getr X kf_RX7_9 rfl h2 dX7_byteAt_14 ?_
      obtain ⟨b1, h4, hP⟩ := hP
      refine V_dr0 h4 ?_
      obtain ⟨n2, h5, hP⟩ := hP
      refine V_alen X (Or.inl rfl) h5 dX7_byteAt_17 ?_
      refine V_icmp_ge X (tgt := 30) dX7_byteAt_18 (by decide) (fun h6 => ?_) (fun h6 => ?_)
      · have hP := hP.1 h6
        refine V_iconst X (v := (-1 : Int32)) dX7_byteAt_30 (by decide) ?_
        exact V_iret X hr (Or.inl rfl) (Nat.le_of_ble_eq_true rfl) (Nat.le_of_ble_eq_true rfl) dX7_byteAt_31 ⟨_, rfl, hP⟩
      · have hP := hP.2 h6
        refine V_aload_n X dX7_byteAt_21 rfl 0 rfl ?_
        refine V_getr X kf_RX7_9 rfl h2 dX7_byteAt_22 ?_
        refine V_iload_n X dX7_byteAt_25 rfl 1 rfl ?_
        refine V_dr1 h4 ?_
        obtain ⟨h7, hP⟩ := hP
        refine V_iald X h5 h7 dX7_byteAt_26 ?_
        refine V_goto X (tgt := 31) dX7_byteAt_27 (by decide) ?_
        exact V_iret X hr (Or.inl rfl) (Nat.le_of_ble_eq_true rfl) (Nat.le_of_ble_eq_true rfl) dX7_byteAt_31 ⟨_, rfl, hP⟩
def F_X2_advance_8 (a0 : Nat) (post : Hp → Prop) (K47 : Hp → Prop) (I8 : Hp → Prop) (σ8 : Hp) : Prop :=
  gk σ8 a0 = some (2, 0) ∧ ((200 : Int32) ≤ (gi σ8 a0 2) → K47 σ8) ∧ (¬ ((200 : Int32) ≤ (gi σ8 a0 2)) → ∃ b801 : Nat, (gr σ8 a0 0) = some b801 ∧ gk σ8 b801 = some (7, 0) ∧ P_X7_byteAt b801 (gi σ8 a0 2) σ8 (fun (r802 : Int32) (σ802 : Hp) => (¬ r802 = (32 : Int32) → K47 σ802) ∧ (r802 = (32 : Int32) → gk σ802 a0 = some (2, 0) ∧ I8 (si σ802 a0 2 ((gi σ802 a0 2) + (1 : Int32))))))
def F_X2_advance_91 (a0 : Nat) (u2 : Int32) (u3 : Int32) (post : Hp → Prop) (I91 : Hp → Prop) (σ91 : Hp) : Prop :=
  gk σ91 a0 = some (2, 0) ∧ ((200 : Int32) ≤ (gi σ91 a0 3) → post σ91) ∧ (¬ ((200 : Int32) ≤ (gi σ91 a0 3)) → (u2 = 0 → (u3 = 0 → post σ91) ∧ (¬ (u3 = 0) → ∃ b9101 : Nat, (gr σ91 a0 0) = some b9101 ∧ gk σ91 b9101 = some (7, 0) ∧ P_X7_byteAt b9101 (gi σ91 a0 3) σ91 (fun (r9102 : Int32) (σ9102 : Hp) => P_X2_isDigit r9102 σ9102 (fun (r9103 : Int32) (σ9103 : Hp) => (r9103 = 0 → post σ9103) ∧ (¬ (r9103 = 0) → gk σ9103 a0 = some (2, 0) ∧ I91 (si σ9103 a0 3 ((gi σ9103 a0 3) + (1 : Int32)))))))) ∧ (¬ (u2 = 0) → ∃ b9104 : Nat, (gr σ91 a0 0) = some b9104 ∧ gk σ91 b9104 = some (7, 0) ∧ P_X7_byteAt b9104 (gi σ91 a0 3) σ91 (fun (r9105 : Int32) (σ9105 : Hp) => P_X2_isLetter r9105 σ9105 (fun (r9106 : Int32) (σ9106 : Hp) => (¬ r9106 = 0 → gk σ9106 a0 = some (2, 0) ∧ I91 (si σ9106 a0 3 ((gi σ9106 a0 3) + (1 : Int32)))) ∧ (r9106 = 0 → (u3 = 0 → post σ9106) ∧ (¬ (u3 = 0) → gk σ9106 a0 = some (2, 0) ∧ ∃ b9107 : Nat, (gr σ9106 a0 0) = some b9107 ∧ gk σ9106 b9107 = some (7, 0) ∧ P_X7_byteAt b9107 (gi σ9106 a0 3) σ9106 (fun (r9108 : Int32) (σ9108 : Hp) => P_X2_isDigit r9108 σ9108 (fun (r9109 : Int32) (σ9109 : Hp) => (r9109 = 0 → post σ9109) ∧ (¬ (r9109 = 0) → gk σ9109 a0 = some (2, 0) ∧ I91 (si σ9109 a0 3 ((gi σ9109 a0 3) + (1 : Int32))))))))))))
def P_X2_advance (a0 : Nat) (σ : Hp) (post : Hp → Prop) : Prop :=
  gk σ a0 = some (2, 0) ∧ lfp0 (F_X2_advance_8 a0 post (fun  (σx47 : Hp) => gk σx47 a0 = some (2, 0) ∧ ∃ b1 : Nat, (gr σx47 a0 0) = some b1 ∧ gk σx47 b1 = some (7, 0) ∧ P_X7_byteAt b1 (gi σx47 a0 2) σx47 (fun (r2 : Int32) (σ2 : Hp) => (¬ r2 = (-1 : Int32) → gk σ2 a0 = some (2, 0) ∧ P_X2_isLetter r2 (si σ2 a0 3 ((gi σ2 a0 2) + (1 : Int32))) (fun (r3 : Int32) (σ3 : Hp) => P_X2_isDigit r2 σ3 (fun (r4 : Int32) (σ4 : Hp) => lfp0 (F_X2_advance_91 a0 r3 r4 post)  σ4))) ∧ (r2 = (-1 : Int32) → gk σ2 a0 = some (2, 0) ∧ P_X2_isLetter r2 (si σ2 a0 3 (gi σ2 a0 2)) (fun (r5 : Int32) (σ5 : Hp) => P_X2_isDigit r2 σ5 (fun (r6 : Int32) (σ6 : Hp) => lfp0 (F_X2_advance_91 a0 r5 r6 post)  σ6))))))  (si σ a0 2 (gi σ a0 3))
set_option maxHeartbeats 2000000 in
set_option maxRecDepth 100000 in
theorem m_X2_advance (l : Launch) (G : GG) (N0 : Nat) (a0 : Nat) (σ : Hp) (post : Hp → Prop) (hP : P_X2_advance a0 σ post) : MM l G N0 yX2_advance cX2_advance 4 none (1) (21) 0 0 [.ref a0] σ (pV post) := by
  refine MM.of (by decide) (Nat.le_of_ble_eq_true rfl) ?_
  intro p e s m args below meth c X hr hnm
  refine V.to (lv2 := [(0, .ref a0)]) [0] rfl rfl ?_
  unfold P_X2_advance at hP
  refine V_aload_n X dX2_advance_0 rfl 0 rfl ?_
  refine V_aload_n X dX2_advance_1 rfl 0 rfl ?_
  obtain ⟨h1, hP⟩ := hP
  refine V_geti X kf_RX2_15 rfl h1 dX2_advance_2 ?_
  refine V_puti X kf_RX2_9 (fun h => by cases h) rfl h1 (Or.inl rfl) dX2_advance_5 ?_
  have hK47_8 : ∀ (σx47 : Hp), (gk σx47 a0 = some (2, 0) ∧ ∃ b1 : Nat, (gr σx47 a0 0) = some b1 ∧ gk σx47 b1 = some (7, 0) ∧ P_X7_byteAt b1 (gi σx47 a0 2) σx47 (fun (r2 : Int32) (σ2 : Hp) => (¬ r2 = (-1 : Int32) → gk σ2 a0 = some (2, 0) ∧ P_X2_isLetter r2 (si σ2 a0 3 ((gi σ2 a0 2) + (1 : Int32))) (fun (r3 : Int32) (σ3 : Hp) => P_X2_isDigit r2 σ3 (fun (r4 : Int32) (σ4 : Hp) => lfp0 (F_X2_advance_91 a0 r3 r4 post)  σ4))) ∧ (r2 = (-1 : Int32) → gk σ2 a0 = some (2, 0) ∧ P_X2_isLetter r2 (si σ2 a0 3 (gi σ2 a0 2)) (fun (r5 : Int32) (σ5 : Hp) => P_X2_isDigit r2 σ5 (fun (r6 : Int32) (σ6 : Hp) => lfp0 (F_X2_advance_91 a0 r5 r6 post)  σ6))))) → V p l e { frames := 1, cells := 0, slots := 0, locals := 21 } s m args below meth c (MQ below (QC G N0 (pV post)) args s 0 0 (AN N0)) G N0 4 σx47 0 0 47 [(0, .ref a0)] [] := by
    intro  σx47 hP
    refine V_aload_n X dX2_advance_47 rfl 0 rfl ?_
    obtain ⟨h2, hP⟩ := hP
    refine V_getr X kf_RX2_18 rfl h2 dX2_advance_48 ?_
    refine V_aload_n X dX2_advance_51 rfl 0 rfl ?_
    refine V_geti X kf_RX2_9 rfl h2 dX2_advance_52 ?_
    obtain ⟨b1, h3, hP⟩ := hP
    refine V_dr1 h3 ?_
    obtain ⟨h4, hP⟩ := hP
    refine V_callV_i X [.int (gi σx47 a0 2)] kw_RX2_81 ki_X7_byteAt ks_X7_byteAt ksg_X7_byteAt (m_X7_byteAt l G N0 _ _ _ _ hP) h4 (by decide) rfl rfl ⟨Nat.le_of_ble_eq_true rfl, Nat.le_of_ble_eq_true rfl⟩ (Nat.le_of_ble_eq_true rfl) ⟨Nat.le_of_ble_eq_true rfl, Nat.le_of_ble_eq_true rfl⟩ rfl dX2_advance_55 (fun r2 σ2 hP => ?_)
    refine V_istore_n X (lv' := [(1, .int r2), (0, .ref a0)]) dX2_advance_58 rfl (by decide) rfl ?_
    refine V_aload_n X dX2_advance_59 rfl 1 rfl ?_
    refine V_iload_n X dX2_advance_60 rfl 0 rfl ?_
    refine V_iconst X (v := (-1 : Int32)) dX2_advance_61 (by decide) ?_
    refine V_icmp_ne X (tgt := 72) dX2_advance_62 (by decide) (fun h5 => ?_) (fun h5 => ?_)
    · have hP := hP.1 h5
      refine V_aload_n X dX2_advance_72 rfl 1 rfl ?_
      obtain ⟨h6, hP⟩ := hP
      refine V_geti X kf_RX2_9 rfl h6 dX2_advance_73 ?_
      refine V_iconst X (v := (1 : Int32)) dX2_advance_76 (by decide) ?_
      refine V_iadd X dX2_advance_77 ?_
      refine V_puti X kf_RX2_15 (fun h => by cases h) rfl h6 (Or.inl rfl) dX2_advance_78 ?_
      refine V_iload_n X dX2_advance_81 rfl 0 rfl ?_
      refine V_callS_i X [.int r2] kw_RX2_87 ki_X2_isLetter (m_X2_isLetter l G N0 _ _ _ hP) rfl ⟨Nat.le_of_ble_eq_true rfl, Nat.le_of_ble_eq_true rfl⟩ (Nat.le_of_ble_eq_true rfl) ⟨Nat.le_of_ble_eq_true rfl, Nat.le_of_ble_eq_true rfl⟩ rfl dX2_advance_82 (fun r3 σ3 hP => ?_)
      refine V_istore_n X (lv' := [(2, .int r3), (1, .int r2), (0, .ref a0)]) dX2_advance_85 rfl (by decide) rfl ?_
      refine V_iload_n X dX2_advance_86 rfl 1 rfl ?_
      refine V_callS_i X [.int r2] kw_RX2_90 ki_X2_isDigit (m_X2_isDigit l G N0 _ _ _ hP) rfl ⟨Nat.le_of_ble_eq_true rfl, Nat.le_of_ble_eq_true rfl⟩ (Nat.le_of_ble_eq_true rfl) ⟨Nat.le_of_ble_eq_true rfl, Nat.le_of_ble_eq_true rfl⟩ rfl dX2_advance_87 (fun r4 σ4 hP => ?_)
      refine V_istore_n X (lv' := [(3, .int r4), (2, .int r3), (1, .int r2), (0, .ref a0)]) dX2_advance_90 rfl (by decide) rfl ?_
      refine V.to (lv2 := [(0, .ref a0), (2, .int r3), (3, .int r4)]) [3, 1, 0] rfl rfl ?_
      refine lfp0_use (fun  σ91 => V p l e { frames := 1, cells := 0, slots := 0, locals := 21 } s m args below meth c (MQ below (QC G N0 (pV post)) args s 0 0 (AN N0)) G N0 4 σ91 0 0 91 [(0, .ref a0), (2, .int r3), (3, .int r4)] []) hP ?_
      intro  σ91 hP
      unfold F_X2_advance_91 at hP
      refine V_aload_n X dX2_advance_91 rfl 0 rfl ?_
      obtain ⟨h91001, hP⟩ := hP
      refine V_geti X kf_RX2_15 rfl h91001 dX2_advance_92 ?_
      refine V_sipush X (v := (200 : Int32)) dX2_advance_95 (by decide) ?_
      refine V_icmp_ge X (tgt := 156) dX2_advance_98 (by decide) (fun h91002 => ?_) (fun h91002 => ?_)
      · have hP := hP.1 h91002
        exact V_vret X hr (Nat.le_of_ble_eq_true rfl) (Nat.le_of_ble_eq_true rfl) dX2_advance_156 ⟨rfl, hP⟩
      · have hP := hP.2 h91002
        refine V_iload_n X dX2_advance_101 rfl 1 rfl ?_
        refine V_if_eq X (tgt := 122) dX2_advance_102 (by decide) (fun h91003 => ?_) (fun h91003 => ?_)
        · have hP := hP.1 h91003
          refine V_iload_n X dX2_advance_122 rfl 2 rfl ?_
          refine V_if_eq X (tgt := 156) dX2_advance_123 (by decide) (fun h91004 => ?_) (fun h91004 => ?_)
          · have hP := hP.1 h91004
            exact V_vret X hr (Nat.le_of_ble_eq_true rfl) (Nat.le_of_ble_eq_true rfl) dX2_advance_156 ⟨rfl, hP⟩
          · have hP := hP.2 h91004
            refine V_aload_n X dX2_advance_126 rfl 0 rfl ?_
            refine V_getr X kf_RX2_18 rfl h91001 dX2_advance_127 ?_
            refine V_aload_n X dX2_advance_130 rfl 0 rfl ?_
            refine V_geti X kf_RX2_15 rfl h91001 dX2_advance_131 ?_
            obtain ⟨b9101, h91005, hP⟩ := hP
            refine V_dr1 h91005 ?_
            obtain ⟨h91006, hP⟩ := hP
            refine V_callV_i X [.int (gi σ91 a0 3)] kw_RX2_81 ki_X7_byteAt ks_X7_byteAt ksg_X7_byteAt (m_X7_byteAt l G N0 _ _ _ _ hP) h91006 (by decide) rfl rfl ⟨Nat.le_of_ble_eq_true rfl, Nat.le_of_ble_eq_true rfl⟩ (Nat.le_of_ble_eq_true rfl) ⟨Nat.le_of_ble_eq_true rfl, Nat.le_of_ble_eq_true rfl⟩ rfl dX2_advance_134 (fun r9102 σ9102 hP => ?_)
            refine V_callS_i X [.int r9102] kw_RX2_90 ki_X2_isDigit (m_X2_isDigit l G N0 _ _ _ hP) rfl ⟨Nat.le_of_ble_eq_true rfl, Nat.le_of_ble_eq_true rfl⟩ (Nat.le_of_ble_eq_true rfl) ⟨Nat.le_of_ble_eq_true rfl, Nat.le_of_ble_eq_true rfl⟩ rfl dX2_advance_137 (fun r9103 σ9103 hP => ?_)
            refine V_if_eq X (tgt := 156) dX2_advance_140 (by decide) (fun h91007 => ?_) (fun h91007 => ?_)
            · have hP := hP.1 h91007
              exact V_vret X hr (Nat.le_of_ble_eq_true rfl) (Nat.le_of_ble_eq_true rfl) dX2_advance_156 ⟨rfl, hP⟩
            · have hP := hP.2 h91007
              refine V_aload_n X dX2_advance_143 rfl 0 rfl ?_
              refine V_dup X dX2_advance_144 rfl ?_
              obtain ⟨h91008, hP⟩ := hP
              refine V_geti X kf_RX2_15 rfl h91008 dX2_advance_145 ?_
              refine V_iconst X (v := (1 : Int32)) dX2_advance_148 (by decide) ?_
              refine V_iadd X dX2_advance_149 ?_
              refine V_puti X kf_RX2_15 (fun h => by cases h) rfl h91008 (Or.inl rfl) dX2_advance_150 ?_
              refine V_goto X (tgt := 91) dX2_advance_153 (by decide) ?_
              exact V.to [0, 1, 2] rfl rfl hP
        · have hP := hP.2 h91003
          refine V_aload_n X dX2_advance_105 rfl 0 rfl ?_
          refine V_getr X kf_RX2_18 rfl h91001 dX2_advance_106 ?_
          refine V_aload_n X dX2_advance_109 rfl 0 rfl ?_
          refine V_geti X kf_RX2_15 rfl h91001 dX2_advance_110 ?_
          obtain ⟨b9104, h91009, hP⟩ := hP
          refine V_dr1 h91009 ?_
          obtain ⟨h91010, hP⟩ := hP
          refine V_callV_i X [.int (gi σ91 a0 3)] kw_RX2_81 ki_X7_byteAt ks_X7_byteAt ksg_X7_byteAt (m_X7_byteAt l G N0 _ _ _ _ hP) h91010 (by decide) rfl rfl ⟨Nat.le_of_ble_eq_true rfl, Nat.le_of_ble_eq_true rfl⟩ (Nat.le_of_ble_eq_true rfl) ⟨Nat.le_of_ble_eq_true rfl, Nat.le_of_ble_eq_true rfl⟩ rfl dX2_advance_113 (fun r9105 σ9105 hP => ?_)
          refine V_callS_i X [.int r9105] kw_RX2_87 ki_X2_isLetter (m_X2_isLetter l G N0 _ _ _ hP) rfl ⟨Nat.le_of_ble_eq_true rfl, Nat.le_of_ble_eq_true rfl⟩ (Nat.le_of_ble_eq_true rfl) ⟨Nat.le_of_ble_eq_true rfl, Nat.le_of_ble_eq_true rfl⟩ rfl dX2_advance_116 (fun r9106 σ9106 hP => ?_)
          refine V_if_ne X (tgt := 143) dX2_advance_119 (by decide) (fun h91011 => ?_) (fun h91011 => ?_)
          · have hP := hP.1 h91011
            refine V_aload_n X dX2_advance_143 rfl 0 rfl ?_
            refine V_dup X dX2_advance_144 rfl ?_
            obtain ⟨h91012, hP⟩ := hP
            refine V_geti X kf_RX2_15 rfl h91012 dX2_advance_145 ?_
            refine V_iconst X (v := (1 : Int32)) dX2_advance_148 (by decide) ?_
            refine V_iadd X dX2_advance_149 ?_
            refine V_puti X kf_RX2_15 (fun h => by cases h) rfl h91012 (Or.inl rfl) dX2_advance_150 ?_
            refine V_goto X (tgt := 91) dX2_advance_153 (by decide) ?_
            exact V.to [0, 1, 2] rfl rfl hP
          · have hP := hP.2 h91011
            refine V_iload_n X dX2_advance_122 rfl 2 rfl ?_
            refine V_if_eq X (tgt := 156) dX2_advance_123 (by decide) (fun h91013 => ?_) (fun h91013 => ?_)
            · have hP := hP.1 h91013
              exact V_vret X hr (Nat.le_of_ble_eq_true rfl) (Nat.le_of_ble_eq_true rfl) dX2_advance_156 ⟨rfl, hP⟩
            · have hP := hP.2 h91013
              refine V_aload_n X dX2_advance_126 rfl 0 rfl ?_
              obtain ⟨h91014, hP⟩ := hP
              refine V_getr X kf_RX2_18 rfl h91014 dX2_advance_127 ?_
              refine V_aload_n X dX2_advance_130 rfl 0 rfl ?_
              refine V_geti X kf_RX2_15 rfl h91014 dX2_advance_131 ?_
              obtain ⟨b9107, h91015, hP⟩ := hP
              refine V_dr1 h91015 ?_
              obtain ⟨h91016, hP⟩ := hP
              refine V_callV_i X [.int (gi σ9106 a0 3)] kw_RX2_81 ki_X7_byteAt ks_X7_byteAt ksg_X7_byteAt (m_X7_byteAt l G N0 _ _ _ _ hP) h91016 (by decide) rfl rfl ⟨Nat.le_of_ble_eq_true rfl, Nat.le_of_ble_eq_true rfl⟩ (Nat.le_of_ble_eq_true rfl) ⟨Nat.le_of_ble_eq_true rfl, Nat.le_of_ble_eq_true rfl⟩ rfl dX2_advance_134 (fun r9108 σ9108 hP => ?_)
              refine V_callS_i X [.int r9108] kw_RX2_90 ki_X2_isDigit (m_X2_isDigit l G N0 _ _ _ hP) rfl ⟨Nat.le_of_ble_eq_true rfl, Nat.le_of_ble_eq_true rfl⟩ (Nat.le_of_ble_eq_true rfl) ⟨Nat.le_of_ble_eq_true rfl, Nat.le_of_ble_eq_true rfl⟩ rfl dX2_advance_137 (fun r9109 σ9109 hP => ?_)
              refine V_if_eq X (tgt := 156) dX2_advance_140 (by decide) (fun h91017 => ?_) (fun h91017 => ?_)
              · have hP := hP.1 h91017
                exact V_vret X hr (Nat.le_of_ble_eq_true rfl) (Nat.le_of_ble_eq_true rfl) dX2_advance_156 ⟨rfl, hP⟩
              · have hP := hP.2 h91017
                refine V_aload_n X dX2_advance_143 rfl 0 rfl ?_
                refine V_dup X dX2_advance_144 rfl ?_
                obtain ⟨h91018, hP⟩ := hP
                refine V_geti X kf_RX2_15 rfl h91018 dX2_advance_145 ?_
                refine V_iconst X (v := (1 : Int32)) dX2_advance_148 (by decide) ?_
                refine V_iadd X dX2_advance_149 ?_
                refine V_puti X kf_RX2_15 (fun h => by cases h) rfl h91018 (Or.inl rfl) dX2_advance_150 ?_
                refine V_goto X (tgt := 91) dX2_advance_153 (by decide) ?_
                exact V.to [0, 1, 2] rfl rfl hP
    · have hP := hP.2 h5
      refine V_aload_n X dX2_advance_65 rfl 1 rfl ?_
      obtain ⟨h7, hP⟩ := hP
      refine V_geti X kf_RX2_9 rfl h7 dX2_advance_66 ?_
      refine V_goto X (tgt := 78) dX2_advance_69 (by decide) ?_
      refine V_puti X kf_RX2_15 (fun h => by cases h) rfl h7 (Or.inl rfl) dX2_advance_78 ?_
      refine V_iload_n X dX2_advance_81 rfl 0 rfl ?_
      refine V_callS_i X [.int r2] kw_RX2_87 ki_X2_isLetter (m_X2_isLetter l G N0 _ _ _ hP) rfl ⟨Nat.le_of_ble_eq_true rfl, Nat.le_of_ble_eq_true rfl⟩ (Nat.le_of_ble_eq_true rfl) ⟨Nat.le_of_ble_eq_true rfl, Nat.le_of_ble_eq_true rfl⟩ rfl dX2_advance_82 (fun r5 σ5 hP => ?_)
      refine V_istore_n X (lv' := [(2, .int r5), (1, .int r2), (0, .ref a0)]) dX2_advance_85 rfl (by decide) rfl ?_
      refine V_iload_n X dX2_advance_86 rfl 1 rfl ?_
      refine V_callS_i X [.int r2] kw_RX2_90 ki_X2_isDigit (m_X2_isDigit l G N0 _ _ _ hP) rfl ⟨Nat.le_of_ble_eq_true rfl, Nat.le_of_ble_eq_true rfl⟩ (Nat.le_of_ble_eq_true rfl) ⟨Nat.le_of_ble_eq_true rfl, Nat.le_of_ble_eq_true rfl⟩ rfl dX2_advance_87 (fun r6 σ6 hP => ?_)
      refine V_istore_n X (lv' := [(3, .int r6), (2, .int r5), (1, .int r2), (0, .ref a0)]) dX2_advance_90 rfl (by decide) rfl ?_
      refine V.to (lv2 := [(0, .ref a0), (2, .int r5), (3, .int r6)]) [3, 1, 0] rfl rfl ?_
      refine lfp0_use (fun  σ91 => V p l e { frames := 1, cells := 0, slots := 0, locals := 21 } s m args below meth c (MQ below (QC G N0 (pV post)) args s 0 0 (AN N0)) G N0 4 σ91 0 0 91 [(0, .ref a0), (2, .int r5), (3, .int r6)] []) hP ?_
      intro  σ91 hP
      unfold F_X2_advance_91 at hP
      refine V_aload_n X dX2_advance_91 rfl 0 rfl ?_
      obtain ⟨h91001, hP⟩ := hP
      refine V_geti X kf_RX2_15 rfl h91001 dX2_advance_92 ?_
      refine V_sipush X (v := (200 : Int32)) dX2_advance_95 (by decide) ?_
      refine V_icmp_ge X (tgt := 156) dX2_advance_98 (by decide) (fun h91002 => ?_) (fun h91002 => ?_)
      · have hP := hP.1 h91002
        exact V_vret X hr (Nat.le_of_ble_eq_true rfl) (Nat.le_of_ble_eq_true rfl) dX2_advance_156 ⟨rfl, hP⟩
      · have hP := hP.2 h91002
        refine V_iload_n X dX2_advance_101 rfl 1 rfl ?_
        refine V_if_eq X (tgt := 122) dX2_advance_102 (by decide) (fun h91003 => ?_) (fun h91003 => ?_)
        · have hP := hP.1 h91003
          refine V_iload_n X dX2_advance_122 rfl 2 rfl ?_
          refine V_if_eq X (tgt := 156) dX2_advance_123 (by decide) (fun h91004 => ?_) (fun h91004 => ?_)
          · have hP := hP.1 h91004
            exact V_vret X hr (Nat.le_of_ble_eq_true rfl) (Nat.le_of_ble_eq_true rfl) dX2_advance_156 ⟨rfl, hP⟩
          · have hP := hP.2 h91004
            refine V_aload_n X dX2_advance_126 rfl 0 rfl ?_
            refine V_getr X kf_RX2_18 rfl h91001 dX2_advance_127 ?_
            refine V_aload_n X dX2_advance_130 rfl 0 rfl ?_
            refine V_geti X kf_RX2_15 rfl h91001 dX2_advance_131 ?_
            obtain ⟨b9101, h91005, hP⟩ := hP
            refine V_dr1 h91005 ?_
            obtain ⟨h91006, hP⟩ := hP
            refine V_callV_i X [.int (gi σ91 a0 3)] kw_RX2_81 ki_X7_byteAt ks_X7_byteAt ksg_X7_byteAt (m_X7_byteAt l G N0 _ _ _ _ hP) h91006 (by decide) rfl rfl ⟨Nat.le_of_ble_eq_true rfl, Nat.le_of_ble_eq_true rfl⟩ (Nat.le_of_ble_eq_true rfl) ⟨Nat.le_of_ble_eq_true rfl, Nat.le_of_ble_eq_true rfl⟩ rfl dX2_advance_134 (fun r9102 σ9102 hP => ?_)
            refine V_callS_i X [.int r9102] kw_RX2_90 ki_X2_isDigit (m_X2_isDigit l G N0 _ _ _ hP) rfl ⟨Nat.le_of_ble_eq_true rfl, Nat.le_of_ble_eq_true rfl⟩ (Nat.le_of_ble_eq_true rfl) ⟨Nat.le_of_ble_eq_true rfl, Nat.le_of_ble_eq_true rfl⟩ rfl dX2_advance_137 (fun r9103 σ9103 hP => ?_)
            refine V_if_eq X (tgt := 156) dX2_advance_140 (by decide) (fun h91007 => ?_) (fun h91007 => ?_)
            · have hP := hP.1 h91007
              exact V_vret X hr (Nat.le_of_ble_eq_true rfl) (Nat.le_of_ble_eq_true rfl) dX2_advance_156 ⟨rfl, hP⟩
            · have hP := hP.2 h91007
              refine V_aload_n X dX2_advance_143 rfl 0 rfl ?_
              refine V_dup X dX2_advance_144 rfl ?_
              obtain ⟨h91008, hP⟩ := hP
              refine V_geti X kf_RX2_15 rfl h91008 dX2_advance_145 ?_
              refine V_iconst X (v := (1 : Int32)) dX2_advance_148 (by decide) ?_
              refine V_iadd X dX2_advance_149 ?_
              refine V_puti X kf_RX2_15 (fun h => by cases h) rfl h91008 (Or.inl rfl) dX2_advance_150 ?_
              refine V_goto X (tgt := 91) dX2_advance_153 (by decide) ?_
              exact V.to [0, 1, 2] rfl rfl hP
        · have hP := hP.2 h91003
          refine V_aload_n X dX2_advance_105 rfl 0 rfl ?_
          refine V_getr X kf_RX2_18 rfl h91001 dX2_advance_106 ?_
          refine V_aload_n X dX2_advance_109 rfl 0 rfl ?_
          refine V_geti X kf_RX2_15 rfl h91001 dX2_advance_110 ?_
          obtain ⟨b9104, h91009, hP⟩ := hP
          refine V_dr1 h91009 ?_
          obtain ⟨h91010, hP⟩ := hP
          refine V_callV_i X [.int (gi σ91 a0 3)] kw_RX2_81 ki_X7_byteAt ks_X7_byteAt ksg_X7_byteAt (m_X7_byteAt l G N0 _ _ _ _ hP) h91010 (by decide) rfl rfl ⟨Nat.le_of_ble_eq_true rfl, Nat.le_of_ble_eq_true rfl⟩ (Nat.le_of_ble_eq_true rfl) ⟨Nat.le_of_ble_eq_true rfl, Nat.le_of_ble_eq_true rfl⟩ rfl dX2_advance_113 (fun r9105 σ9105 hP => ?_)
          refine V_callS_i X [.int r9105] kw_RX2_87 ki_X2_isLetter (m_X2_isLetter l G N0 _ _ _ hP) rfl ⟨Nat.le_of_ble_eq_true rfl, Nat.le_of_ble_eq_true rfl⟩ (Nat.le_of_ble_eq_true rfl) ⟨Nat.le_of_ble_eq_true rfl, Nat.le_of_ble_eq_true rfl⟩ rfl dX2_advance_116 (fun r9106 σ9106 hP => ?_)
          refine V_if_ne X (tgt := 143) dX2_advance_119 (by decide) (fun h91011 => ?_) (fun h91011 => ?_)
          · have hP := hP.1 h91011
            refine V_aload_n X dX2_advance_143 rfl 0 rfl ?_
            refine V_dup X dX2_advance_144 rfl ?_
            obtain ⟨h91012, hP⟩ := hP
            refine V_geti X kf_RX2_15 rfl h91012 dX2_advance_145 ?_
            refine V_iconst X (v := (1 : Int32)) dX2_advance_148 (by decide) ?_
            refine V_iadd X dX2_advance_149 ?_
            refine V_puti X kf_RX2_15 (fun h => by cases h) rfl h91012 (Or.inl rfl) dX2_advance_150 ?_
            refine V_goto X (tgt := 91) dX2_advance_153 (by decide) ?_
            exact V.to [0, 1, 2] rfl rfl hP
          · have hP := hP.2 h91011
            refine V_iload_n X dX2_advance_122 rfl 2 rfl ?_
            refine V_if_eq X (tgt := 156) dX2_advance_123 (by decide) (fun h91013 => ?_) (fun h91013 => ?_)
            · have hP := hP.1 h91013
              exact V_vret X hr (Nat.le_of_ble_eq_true rfl) (Nat.le_of_ble_eq_true rfl) dX2_advance_156 ⟨rfl, hP⟩
            · have hP := hP.2 h91013
              refine V_aload_n X dX2_advance_126 rfl 0 rfl ?_
              obtain ⟨h91014, hP⟩ := hP
              refine V_getr X kf_RX2_18 rfl h91014 dX2_advance_127 ?_
              refine V_aload_n X dX2_advance_130 rfl 0 rfl ?_
              refine V_geti X kf_RX2_15 rfl h91014 dX2_advance_131 ?_
              obtain ⟨b9107, h91015, hP⟩ := hP
              refine V_dr1 h91015 ?_
              obtain ⟨h91016, hP⟩ := hP
              refine V_callV_i X [.int (gi σ9106 a0 3)] kw_RX2_81 ki_X7_byteAt ks_X7_byteAt ksg_X7_byteAt (m_X7_byteAt l G N0 _ _ _ _ hP) h91016 (by decide) rfl rfl ⟨Nat.le_of_ble_eq_true rfl, Nat.le_of_ble_eq_true rfl⟩ (Nat.le_of_ble_eq_true rfl) ⟨Nat.le_of_ble_eq_true rfl, Nat.le_of_ble_eq_true rfl⟩ rfl dX2_advance_134 (fun r9108 σ9108 hP => ?_)
              refine V_callS_i X [.int r9108] kw_RX2_90 ki_X2_isDigit (m_X2_isDigit l G N0 _ _ _ hP) rfl ⟨Nat.le_of_ble_eq_true rfl, Nat.le_of_ble_eq_true rfl⟩ (Nat.le_of_ble_eq_true rfl) ⟨Nat.le_of_ble_eq_true rfl, Nat.le_of_ble_eq_true rfl⟩ rfl dX2_advance_137 (fun r9109 σ9109 hP => ?_)
              refine V_if_eq X (tgt := 156) dX2_advance_140 (by decide) (fun h91017 => ?_) (fun h91017 => ?_)
              · have hP := hP.1 h91017
                exact V_vret X hr (Nat.le_of_ble_eq_true rfl) (Nat.le_of_ble_eq_true rfl) dX2_advance_156 ⟨rfl, hP⟩
              · have hP := hP.2 h91017
                refine V_aload_n X dX2_advance_143 rfl 0 rfl ?_
                refine V_dup X dX2_advance_144 rfl ?_
                obtain ⟨h91018, hP⟩ := hP
                refine V_geti X kf_RX2_15 rfl h91018 dX2_advance_145 ?_
                refine V_iconst X (v := (1 : Int32)) dX2_advance_148 (by decide) ?_
                refine V_iadd X dX2_advance_149 ?_
                refine V_puti X kf_RX2_15 (fun h => by cases h) rfl h91018 (Or.inl rfl) dX2_advance_150 ?_
                refine V_goto X (tgt := 91) dX2_advance_153 (by decide) ?_
                exact V.to [0, 1, 2] rfl rfl hP
  refine V.to (lv2 := [(0, .ref a0)]) [0] rfl rfl ?_
  refine lfp0_use (fun  σ8 => V p l e { frames := 1, cells := 0, slots := 0, locals := 21 } s m args below meth c (MQ below (QC G N0 (pV post)) args s 0 0 (AN N0)) G N0 4 σ8 0 0 8 [(0, .ref a0)] []) hP ?_
  intro  σ8 hP
  unfold F_X2_advance_8 at hP
  refine V_aload_n X dX2_advance_8 rfl 0 rfl ?_
  obtain ⟨h8001, hP⟩ := hP
  refine V_geti X kf_RX2_9 rfl h8001 dX2_advance_9 ?_
  refine V_sipush X (v := (200 : Int32)) dX2_advance_12 (by decide) ?_
  refine V_icmp_ge X (tgt := 47) dX2_advance_15 (by decide) (fun h8002 => ?_) (fun h8002 => ?_)
  · have hP := hP.1 h8002
    exact V.to [0] rfl rfl (hK47_8  _ hP)
  · have hP := hP.2 h8002
    refine V_aload_n X dX2_advance_18 rfl 0 rfl ?_
    refine V_getr X kf_RX2_18 rfl h8001 dX2_advance_19 ?_
    refine V_aload_n X dX2_advance_22 rfl 0 rfl ?_
    refine V_geti X kf_RX2_9 rfl h8001 dX2_advance_23 ?_
    obtain ⟨b801, h8003, hP⟩ := hP
    refine V_dr1 h8003 ?_
    obtain ⟨h8004, hP⟩ := hP
    refine V_callV_i X [.int (gi σ8 a0 2)] kw_RX2_81 ki_X7_byteAt ks_X7_byteAt ksg_X7_byteAt (m_X7_byteAt l G N0 _ _ _ _ hP) h8004 (by decide) rfl rfl ⟨Nat.le_of_ble_eq_true rfl, Nat.le_of_ble_eq_true rfl⟩ (Nat.le_of_ble_eq_true rfl) ⟨Nat.le_of_ble_eq_true rfl, Nat.le_of_ble_eq_true rfl⟩ rfl dX2_advance_26 (fun r802 σ802 hP => ?_)
    refine V_bipush X (v := (32 : Int32)) dX2_advance_29 (by decide) ?_
    refine V_icmp_ne X (tgt := 47) dX2_advance_31 (by decide) (fun h8005 => ?_) (fun h8005 => ?_)
    · have hP := hP.1 h8005
      exact V.to [0] rfl rfl (hK47_8  _ hP)
    · have hP := hP.2 h8005
      refine V_aload_n X dX2_advance_34 rfl 0 rfl ?_
      refine V_dup X dX2_advance_35 rfl ?_
      obtain ⟨h8006, hP⟩ := hP
      refine V_geti X kf_RX2_9 rfl h8006 dX2_advance_36 ?_
      refine V_iconst X (v := (1 : Int32)) dX2_advance_39 (by decide) ?_
      refine V_iadd X dX2_advance_40 ?_
      refine V_puti X kf_RX2_9 (fun h => by cases h) rfl h8006 (Or.inl rfl) dX2_advance_41 ?_
      refine V_goto X (tgt := 8) dX2_advance_44 (by decide) ?_
      exact V.to [0] rfl rfl hP
def P_X2_init (a0 : Nat) (a1 : Nat) (a2 : Nat) (σ : Hp) (post : Hp → Prop) : Prop :=
  gk σ a0 = some (2, 0) ∧ post (sr (sr (si (si σ a0 2 (0 : Int32)) a0 3 (0 : Int32)) a0 0 (some a1)) a0 1 (some a2))
set_option maxHeartbeats 2000000 in
set_option maxRecDepth 100000 in
theorem m_X2_init (l : Launch) (G : GG) (N0 : Nat) (a0 : Nat) (a1 : Nat) (a2 : Nat) (σ : Hp) (post : Hp → Prop) (hP : P_X2_init a0 a1 a2 σ post) : MM l G N0 yX2_init cX2_init 3 none (1) (20) 0 0 [.ref a0, .ref a1, .ref a2] σ (pV post) := by
  refine MM.of (by decide) (Nat.le_of_ble_eq_true rfl) ?_
  intro p e s m args below meth c X hr hnm
  refine V.to (lv2 := [(0, .ref a0), (1, .ref a1), (2, .ref a2)]) [0, 1, 2] rfl rfl ?_
  unfold P_X2_init at hP
  refine V_aload_n X dX2_init_0 rfl 0 rfl ?_
  refine V_objInit X kl_RX2_3 ko_inst ko_code (Nat.le_of_ble_eq_true rfl) ⟨Nat.le_of_ble_eq_true rfl, Nat.le_of_ble_eq_true rfl⟩ dX2_init_1 ?_
  refine V_aload_n X dX2_init_4 rfl 0 rfl ?_
  refine V_iconst X (v := (0 : Int32)) dX2_init_5 (by decide) ?_
  obtain ⟨h1, hP⟩ := hP
  refine V_puti X kf_RX2_9 (fun h => by cases h) rfl h1 (Or.inl rfl) dX2_init_6 ?_
  refine V_aload_n X dX2_init_9 rfl 0 rfl ?_
  refine V_iconst X (v := (0 : Int32)) dX2_init_10 (by decide) ?_
  refine V_puti X kf_RX2_15 (fun h => by cases h) rfl h1 (Or.inl rfl) dX2_init_11 ?_
  refine V_aload_n X dX2_init_14 rfl 0 rfl ?_
  refine V_aload_n X dX2_init_15 rfl 1 rfl ?_
  refine V_putr X (v := (some a1)) kf_RX2_18 (fun _ => ⟨hnm, rfl⟩) rfl h1 (Or.inl ⟨_, rfl⟩) dX2_init_16 ?_
  refine V_aload_n X dX2_init_19 rfl 0 rfl ?_
  refine V_aload_n X dX2_init_20 rfl 2 rfl ?_
  refine V_putr X (v := (some a2)) kf_RX2_22 (fun _ => ⟨hnm, rfl⟩) rfl h1 (Or.inl ⟨_, rfl⟩) dX2_init_21 ?_
  exact V_vret X hr (Nat.le_of_ble_eq_true rfl) (Nat.le_of_ble_eq_true rfl) dX2_init_24 ⟨rfl, hP⟩
def P_X7_length (a0 : Nat) (σ : Hp) (post : Int32 → Hp → Prop) : Prop :=
  gk σ a0 = some (7, 0) ∧ post (gi σ a0 1) σ
set_option maxHeartbeats 2000000 in
set_option maxRecDepth 100000 in
theorem m_X7_length (l : Launch) (G : GG) (N0 : Nat) (a0 : Nat) (σ : Hp) (post : Int32 → Hp → Prop) (hP : P_X7_length a0 σ post) : MM l G N0 yX7_length cX7_length 1 (some .int) (0) (0) 0 0 [.ref a0] σ (pI post) := by
  refine MM.of (by decide) (Nat.le_of_ble_eq_true rfl) ?_
  intro p e s m args below meth c X hr hnm
  refine V.to (lv2 := [(0, .ref a0)]) [0] rfl rfl ?_
  unfold P_X7_length at hP
  refine V_aload_n X dX7_length_0 rfl 0 rfl ?_
  obtain ⟨h1, hP⟩ := hP
  refine V_geti X kf_RX7_15 rfl h1 dX7_length_1 ?_
  exact V_iret X hr (Or.inl rfl) (Nat.le_of_ble_eq_true rfl) (Nat.le_of_ble_eq_true rfl) dX7_length_4 ⟨_, rfl, hP⟩
def P_X2_isAtEnd (a0 : Nat) (σ : Hp) (post : Int32 → Hp → Prop) : Prop :=
  gk σ a0 = some (2, 0) ∧ ∃ b1 : Nat, (gr σ a0 0) = some b1 ∧ gk σ b1 = some (7, 0) ∧ P_X7_length b1 σ (fun (r2 : Int32) (σ2 : Hp) => ((gi σ a0 2) < r2 → post (0 : Int32) σ2) ∧ (¬ ((gi σ a0 2) < r2) → post (1 : Int32) σ2))
set_option maxHeartbeats 2000000 in
set_option maxRecDepth 100000 in
theorem m_X2_isAtEnd (l : Launch) (G : GG) (N0 : Nat) (a0 : Nat) (σ : Hp) (post : Int32 → Hp → Prop) (hP : P_X2_isAtEnd a0 σ post) : MM l G N0 yX2_isAtEnd cX2_isAtEnd 1 (some .boolean) (1) (20) 0 0 [.ref a0] σ (pI post) := by
  refine MM.of (by decide) (Nat.le_of_ble_eq_true rfl) ?_
  intro p e s m args below meth c X hr hnm
  refine V.to (lv2 := [(0, .ref a0)]) [0] rfl rfl ?_
  unfold P_X2_isAtEnd at hP
  refine V_aload_n X dX2_isAtEnd_0 rfl 0 rfl ?_
  obtain ⟨h1, hP⟩ := hP
  refine V_geti X kf_RX2_9 rfl h1 dX2_isAtEnd_1 ?_
  refine V_aload_n X dX2_isAtEnd_4 rfl 0 rfl ?_
  refine V_getr X kf_RX2_18 rfl h1 dX2_isAtEnd_5 ?_
  obtain ⟨b1, h2, hP⟩ := hP
  refine V_dr0 h2 ?_
  obtain ⟨h3, hP⟩ := hP
  refine V_callV_i X [] kw_RX2_93 ki_X7_length ks_X7_length ksg_X7_length (m_X7_length l G N0 _ _ _ hP) h3 (by decide) rfl rfl ⟨Nat.le_of_ble_eq_true rfl, Nat.le_of_ble_eq_true rfl⟩ (Nat.le_of_ble_eq_true rfl) ⟨Nat.le_of_ble_eq_true rfl, Nat.le_of_ble_eq_true rfl⟩ rfl dX2_isAtEnd_8 (fun r2 σ2 hP => ?_)
  refine V_icmp_lt X (tgt := 18) dX2_isAtEnd_11 (by decide) (fun h4 => ?_) (fun h4 => ?_)
  · have hP := hP.1 h4
    refine V_iconst X (v := (0 : Int32)) dX2_isAtEnd_18 (by decide) ?_
    exact V_iret X hr (Or.inr ⟨rfl, Or.inl rfl⟩) (Nat.le_of_ble_eq_true rfl) (Nat.le_of_ble_eq_true rfl) dX2_isAtEnd_19 ⟨_, rfl, hP⟩
  · have hP := hP.2 h4
    refine V_iconst X (v := (1 : Int32)) dX2_isAtEnd_14 (by decide) ?_
    refine V_goto X (tgt := 19) dX2_isAtEnd_15 (by decide) ?_
    exact V_iret X hr (Or.inr ⟨rfl, Or.inr rfl⟩) (Nat.le_of_ble_eq_true rfl) (Nat.le_of_ble_eq_true rfl) dX2_isAtEnd_19 ⟨_, rfl, hP⟩
def P_X2_isSign (a0 : Nat) (x1 : Int32) (σ : Hp) (post : Int32 → Hp → Prop) : Prop :=
  gk σ a0 = some (2, 0) ∧ ∃ b1 : Nat, (gr σ a0 0) = some b1 ∧ gk σ b1 = some (7, 0) ∧ P_X7_byteAt b1 (gi σ a0 2) σ (fun (r2 : Int32) (σ2 : Hp) => (¬ r2 = x1 → post (0 : Int32) σ2) ∧ (r2 = x1 → post (1 : Int32) σ2))
set_option maxHeartbeats 2000000 in
set_option maxRecDepth 100000 in
theorem m_X2_isSign (l : Launch) (G : GG) (N0 : Nat) (a0 : Nat) (x1 : Int32) (σ : Hp) (post : Int32 → Hp → Prop) (hP : P_X2_isSign a0 x1 σ post) : MM l G N0 yX2_isSign cX2_isSign 2 (some .boolean) (1) (21) 0 0 [.ref a0, .int x1] σ (pI post) := by
  refine MM.of (by decide) (Nat.le_of_ble_eq_true rfl) ?_
  intro p e s m args below meth c X hr hnm
  refine V.to (lv2 := [(0, .ref a0), (1, .int x1)]) [0, 1] rfl rfl ?_
  unfold P_X2_isSign at hP
  refine V_aload_n X dX2_isSign_0 rfl 0 rfl ?_
  obtain ⟨h1, hP⟩ := hP
  refine V_getr X kf_RX2_18 rfl h1 dX2_isSign_1 ?_
  refine V_aload_n X dX2_isSign_4 rfl 0 rfl ?_
  refine V_geti X kf_RX2_9 rfl h1 dX2_isSign_5 ?_
  obtain ⟨b1, h2, hP⟩ := hP
  refine V_dr1 h2 ?_
  obtain ⟨h3, hP⟩ := hP
  refine V_callV_i X [.int (gi σ a0 2)] kw_RX2_81 ki_X7_byteAt ks_X7_byteAt ksg_X7_byteAt (m_X7_byteAt l G N0 _ _ _ _ hP) h3 (by decide) rfl rfl ⟨Nat.le_of_ble_eq_true rfl, Nat.le_of_ble_eq_true rfl⟩ (Nat.le_of_ble_eq_true rfl) ⟨Nat.le_of_ble_eq_true rfl, Nat.le_of_ble_eq_true rfl⟩ rfl dX2_isSign_8 (fun r2 σ2 hP => ?_)
  refine V_iload_n X dX2_isSign_11 rfl 1 rfl ?_
  refine V_icmp_ne X (tgt := 19) dX2_isSign_12 (by decide) (fun h4 => ?_) (fun h4 => ?_)
  · have hP := hP.1 h4
    refine V_iconst X (v := (0 : Int32)) dX2_isSign_19 (by decide) ?_
    exact V_iret X hr (Or.inr ⟨rfl, Or.inl rfl⟩) (Nat.le_of_ble_eq_true rfl) (Nat.le_of_ble_eq_true rfl) dX2_isSign_20 ⟨_, rfl, hP⟩
  · have hP := hP.2 h4
    refine V_iconst X (v := (1 : Int32)) dX2_isSign_15 (by decide) ?_
    refine V_goto X (tgt := 20) dX2_isSign_16 (by decide) ?_
    exact V_iret X hr (Or.inr ⟨rfl, Or.inr rfl⟩) (Nat.le_of_ble_eq_true rfl) (Nat.le_of_ble_eq_true rfl) dX2_isSign_20 ⟨_, rfl, hP⟩
def F_X2_isWord_20 (a0 : Nat) (w1 : Nat) (post : Int32 → Hp → Prop) (I20 : Int32 → Hp → Prop) (v2 : Int32) (σ20 : Hp) : Prop :=
  w1 < 3 ∧ ((nI (strL.getD w1 0)) ≤ v2 → post (1 : Int32) σ20) ∧ (¬ ((nI (strL.getD w1 0)) ≤ v2) → gk σ20 a0 = some (2, 0) ∧ ∃ b2002 : Nat, (gr σ20 a0 0) = some b2002 ∧ gk σ20 b2002 = some (7, 0) ∧ P_X7_byteAt b2002 ((gi σ20 a0 2) + v2) σ20 (fun (r2003 : Int32) (σ2003 : Hp) => w1 < 3 ∧ vp_in v2 (strL.getD w1 0) ∧ (r2003 = ((strB.getD w1 []).getD (Int32.toNatClampNeg v2) 0) → I20 (v2 + (1 : Int32)) σ2003) ∧ (¬ (r2003 = ((strB.getD w1 []).getD (Int32.toNatClampNeg v2) 0)) → post (0 : Int32) σ2003)))
def P_X2_isWord (a0 : Nat) (w1 : Nat) (σ : Hp) (post : Int32 → Hp → Prop) : Prop :=
  gk σ a0 = some (2, 0) ∧ w1 < 3 ∧ (((gi σ a0 3) - (gi σ a0 2)) = (nI (strL.getD w1 0)) → lfp1 (F_X2_isWord_20 a0 w1 post) (0 : Int32) σ) ∧ (¬ (((gi σ a0 3) - (gi σ a0 2)) = (nI (strL.getD w1 0))) → post (0 : Int32) σ)
set_option maxHeartbeats 2000000 in
set_option maxRecDepth 100000 in
theorem m_X2_isWord (l : Launch) (G : GG) (N0 : Nat) (a0 : Nat) (w1 : Nat) (σ : Hp) (post : Int32 → Hp → Prop) (hP : P_X2_isWord a0 w1 σ post) : MM l G N0 yX2_isWord cX2_isWord 3 (some .boolean) (8) (300) 0 0 [.ref a0, .ref (G.2.2.1 w1)] σ (pI post) := by
  refine MM.of (by decide) (Nat.le_of_ble_eq_true rfl) ?_
  intro p e s m args below meth c X hr hnm
  refine V.to (lv2 := [(0, .ref a0), (1, .ref (G.2.2.1 w1))]) [0, 1] rfl rfl ?_
  unfold P_X2_isWord at hP
  refine V_aload_n X dX2_isWord_0 rfl 0 rfl ?_
  obtain ⟨h1, hP⟩ := hP
  refine V_geti X kf_RX2_15 rfl h1 dX2_isWord_1 ?_
  refine V_aload_n X dX2_isWord_4 rfl 0 rfl ?_
  refine V_geti X kf_RX2_9 rfl h1 dX2_isWord_5 ?_
  refine V_isub X dX2_isWord_8 ?_
  refine V_aload_n X dX2_isWord_9 rfl 1 rfl ?_
  obtain ⟨h2, hP⟩ := hP
  refine V_strlen X h2 kl_RX2_96 (Nat.le_of_ble_eq_true rfl) ⟨Nat.le_of_ble_eq_true rfl, Nat.le_of_ble_eq_true rfl⟩ ⟨Nat.le_of_ble_eq_true rfl, Nat.le_of_ble_eq_true rfl⟩ dX2_isWord_10 ?_
  refine V_icmp_eq X (tgt := 18) dX2_isWord_13 (by decide) (fun h3 => ?_) (fun h3 => ?_)
  · have hP := hP.1 h3
    refine V_iconst X (v := (0 : Int32)) dX2_isWord_18 (by decide) ?_
    refine V_istore_n X (lv' := [(2, .int (0 : Int32)), (0, .ref a0), (1, .ref (G.2.2.1 w1))]) dX2_isWord_19 rfl (by decide) rfl ?_
    refine V.to (lv2 := [(0, .ref a0), (1, .ref (G.2.2.1 w1)), (2, .int (0 : Int32))]) [1, 2, 0] rfl rfl ?_
    refine lfp1_use (fun v2 σ20 => V p l e { frames := 8, cells := 0, slots := 0, locals := 300 } s m args below meth c (MQ below (QC G N0 (pI post)) args s 0 0 (AN N0)) G N0 3 σ20 0 0 20 [(0, .ref a0), (1, .ref (G.2.2.1 w1)), (2, .int v2)] []) hP ?_
    intro v2 σ20 hP
    unfold F_X2_isWord_20 at hP
    refine V_iload_n X dX2_isWord_20 rfl 2 rfl ?_
    refine V_aload_n X dX2_isWord_21 rfl 1 rfl ?_
    obtain ⟨h20001, hP⟩ := hP
    refine V_strlen X h20001 kl_RX2_96 (Nat.le_of_ble_eq_true rfl) ⟨Nat.le_of_ble_eq_true rfl, Nat.le_of_ble_eq_true rfl⟩ ⟨Nat.le_of_ble_eq_true rfl, Nat.le_of_ble_eq_true rfl⟩ dX2_isWord_22 ?_
    refine V_icmp_ge X (tgt := 57) dX2_isWord_25 (by decide) (fun h20002 => ?_) (fun h20002 => ?_)
    · have hP := hP.1 h20002
      refine V_iconst X (v := (1 : Int32)) dX2_isWord_57 (by decide) ?_
      exact V_iret X hr (Or.inr ⟨rfl, Or.inr rfl⟩) (Nat.le_of_ble_eq_true rfl) (Nat.le_of_ble_eq_true rfl) dX2_isWord_58 ⟨_, rfl, hP⟩
    · have hP := hP.2 h20002
      refine V_aload_n X dX2_isWord_28 rfl 0 rfl ?_
      obtain ⟨h20003, hP⟩ := hP
      refine V_getr X kf_RX2_18 rfl h20003 dX2_isWord_29 ?_
      refine V_aload_n X dX2_isWord_32 rfl 0 rfl ?_
      refine V_geti X kf_RX2_9 rfl h20003 dX2_isWord_33 ?_
      refine V_iload_n X dX2_isWord_36 rfl 2 rfl ?_
      refine V_iadd X dX2_isWord_37 ?_
      obtain ⟨b2002, h20004, hP⟩ := hP
      refine V_dr1 h20004 ?_
      obtain ⟨h20005, hP⟩ := hP
      refine V_callV_i X [.int ((gi σ20 a0 2) + v2)] kw_RX2_81 ki_X7_byteAt ks_X7_byteAt ksg_X7_byteAt (m_X7_byteAt l G N0 _ _ _ _ hP) h20005 (by decide) rfl rfl ⟨Nat.le_of_ble_eq_true rfl, Nat.le_of_ble_eq_true rfl⟩ (Nat.le_of_ble_eq_true rfl) ⟨Nat.le_of_ble_eq_true rfl, Nat.le_of_ble_eq_true rfl⟩ rfl dX2_isWord_38 (fun r2003 σ2003 hP => ?_)
      refine V_aload_n X dX2_isWord_41 rfl 1 rfl ?_
      refine V_iload_n X dX2_isWord_42 rfl 2 rfl ?_
      obtain ⟨h20006, hP⟩ := hP
      obtain ⟨h20007, hP⟩ := hP
      refine V_strchr X h20006 h20007 kl_RX2_99 (Nat.le_of_ble_eq_true rfl) ⟨Nat.le_of_ble_eq_true rfl, Nat.le_of_ble_eq_true rfl⟩ ⟨Nat.le_of_ble_eq_true rfl, Nat.le_of_ble_eq_true rfl⟩ dX2_isWord_43 ?_
      refine V_icmp_eq X (tgt := 51) dX2_isWord_46 (by decide) (fun h20008 => ?_) (fun h20008 => ?_)
      · have hP := hP.1 h20008
        refine V_iinc X (v := (v2 + (1 : Int32))) (lv' := [(2, .int (v2 + (1 : Int32))), (0, .ref a0), (1, .ref (G.2.2.1 w1))]) dX2_isWord_51 2 rfl rfl (by decide) rfl ?_
        refine V_goto X (tgt := 20) dX2_isWord_54 (by decide) ?_
        exact V.to [1, 2, 0] rfl rfl hP
      · have hP := hP.2 h20008
        refine V_iconst X (v := (0 : Int32)) dX2_isWord_49 (by decide) ?_
        exact V_iret X hr (Or.inr ⟨rfl, Or.inl rfl⟩) (Nat.le_of_ble_eq_true rfl) (Nat.le_of_ble_eq_true rfl) dX2_isWord_50 ⟨_, rfl, hP⟩
  · have hP := hP.2 h3
    refine V_iconst X (v := (0 : Int32)) dX2_isWord_16 (by decide) ?_
    exact V_iret X hr (Or.inr ⟨rfl, Or.inl rfl⟩) (Nat.le_of_ble_eq_true rfl) (Nat.le_of_ble_eq_true rfl) dX2_isWord_17 ⟨_, rfl, hP⟩
def P_X2_place (a0 : Nat) (σ : Hp) (post : Int32 → Hp → Prop) : Prop :=
  gk σ a0 = some (2, 0) ∧ post (gi σ a0 2) σ
set_option maxHeartbeats 2000000 in
set_option maxRecDepth 100000 in
theorem m_X2_place (l : Launch) (G : GG) (N0 : Nat) (a0 : Nat) (σ : Hp) (post : Int32 → Hp → Prop) (hP : P_X2_place a0 σ post) : MM l G N0 yX2_place cX2_place 1 (some .int) (0) (0) 0 0 [.ref a0] σ (pI post) := by
  refine MM.of (by decide) (Nat.le_of_ble_eq_true rfl) ?_
  intro p e s m args below meth c X hr hnm
  refine V.to (lv2 := [(0, .ref a0)]) [0] rfl rfl ?_
  unfold P_X2_place at hP
  refine V_aload_n X dX2_place_0 rfl 0 rfl ?_
  obtain ⟨h1, hP⟩ := hP
  refine V_geti X kf_RX2_9 rfl h1 dX2_place_1 ?_
  exact V_iret X hr (Or.inl rfl) (Nat.le_of_ble_eq_true rfl) (Nat.le_of_ble_eq_true rfl) dX2_place_4 ⟨_, rfl, hP⟩
def P_X2_tableHere (a0 : Nat) (σ : Hp) (post : Int32 → Hp → Prop) : Prop :=
  gk σ a0 = some (2, 0) ∧ ∃ b1 : Nat, (gr σ a0 0) = some b1 ∧ gk σ b1 = some (7, 0) ∧ P_X7_byteAt b1 (gi σ a0 2) σ (fun (r2 : Int32) (σ2 : Hp) => gk σ2 a0 = some (2, 0) ∧ (¬ ((gi σ2 a0 3) - (gi σ2 a0 2)) = (1 : Int32) → post (-1 : Int32) σ2) ∧ (((gi σ2 a0 3) - (gi σ2 a0 2)) = (1 : Int32) → ((r2 - (97 : Int32)) < 0 → post (-1 : Int32) σ2) ∧ (¬ ((r2 - (97 : Int32)) < 0) → ((4 : Int32) ≤ (r2 - (97 : Int32)) → post (-1 : Int32) σ2) ∧ (¬ ((4 : Int32) ≤ (r2 - (97 : Int32))) → post (r2 - (97 : Int32)) σ2))))
set_option maxHeartbeats 2000000 in
set_option maxRecDepth 100000 in
theorem m_X2_tableHere (l : Launch) (G : GG) (N0 : Nat) (a0 : Nat) (σ : Hp) (post : Int32 → Hp → Prop) (hP : P_X2_tableHere a0 σ post) : MM l G N0 yX2_tableHere cX2_tableHere 2 (some .int) (1) (21) 0 0 [.ref a0] σ (pI post) := by
  refine MM.of (by decide) (Nat.le_of_ble_eq_true rfl) ?_
  intro p e s m args below meth c X hr hnm
  refine V.to (lv2 := [(0, .ref a0)]) [0] rfl rfl ?_
  unfold P_X2_tableHere at hP
  refine V_aload_n X dX2_tableHere_0 rfl 0 rfl ?_
  obtain ⟨h1, hP⟩ := hP
  refine V_getr X kf_RX2_18 rfl h1 dX2_tableHere_1 ?_
  refine V_aload_n X dX2_tableHere_4 rfl 0 rfl ?_
  refine V_geti X kf_RX2_9 rfl h1 dX2_tableHere_5 ?_
  obtain ⟨b1, h2, hP⟩ := hP
  refine V_dr1 h2 ?_
  obtain ⟨h3, hP⟩ := hP
  refine V_callV_i X [.int (gi σ a0 2)] kw_RX2_81 ki_X7_byteAt ks_X7_byteAt ksg_X7_byteAt (m_X7_byteAt l G N0 _ _ _ _ hP) h3 (by decide) rfl rfl ⟨Nat.le_of_ble_eq_true rfl, Nat.le_of_ble_eq_true rfl⟩ (Nat.le_of_ble_eq_true rfl) ⟨Nat.le_of_ble_eq_true rfl, Nat.le_of_ble_eq_true rfl⟩ rfl dX2_tableHere_8 (fun r2 σ2 hP => ?_)
  refine V_bipush X (v := (97 : Int32)) dX2_tableHere_11 (by decide) ?_
  refine V_isub X dX2_tableHere_13 ?_
  refine V_istore_n X (lv' := [(1, .int (r2 - (97 : Int32))), (0, .ref a0)]) dX2_tableHere_14 rfl (by decide) rfl ?_
  refine V_aload_n X dX2_tableHere_15 rfl 1 rfl ?_
  obtain ⟨h4, hP⟩ := hP
  refine V_geti X kf_RX2_15 rfl h4 dX2_tableHere_16 ?_
  refine V_aload_n X dX2_tableHere_19 rfl 1 rfl ?_
  refine V_geti X kf_RX2_9 rfl h4 dX2_tableHere_20 ?_
  refine V_isub X dX2_tableHere_23 ?_
  refine V_iconst X (v := (1 : Int32)) dX2_tableHere_24 (by decide) ?_
  refine V_icmp_ne X (tgt := 41) dX2_tableHere_25 (by decide) (fun h5 => ?_) (fun h5 => ?_)
  · have hP := hP.1 h5
    refine V_iconst X (v := (-1 : Int32)) dX2_tableHere_41 (by decide) ?_
    exact V_iret X hr (Or.inl rfl) (Nat.le_of_ble_eq_true rfl) (Nat.le_of_ble_eq_true rfl) dX2_tableHere_42 ⟨_, rfl, hP⟩
  · have hP := hP.2 h5
    refine V_iload_n X dX2_tableHere_28 rfl 0 rfl ?_
    refine V_if_lt X (tgt := 41) dX2_tableHere_29 (by decide) (fun h6 => ?_) (fun h6 => ?_)
    · have hP := hP.1 h6
      refine V_iconst X (v := (-1 : Int32)) dX2_tableHere_41 (by decide) ?_
      exact V_iret X hr (Or.inl rfl) (Nat.le_of_ble_eq_true rfl) (Nat.le_of_ble_eq_true rfl) dX2_tableHere_42 ⟨_, rfl, hP⟩
    · have hP := hP.2 h6
      refine V_iload_n X dX2_tableHere_32 rfl 0 rfl ?_
      refine V_iconst X (v := (4 : Int32)) dX2_tableHere_33 (by decide) ?_
      refine V_icmp_ge X (tgt := 41) dX2_tableHere_34 (by decide) (fun h7 => ?_) (fun h7 => ?_)
      · have hP := hP.1 h7
        refine V_iconst X (v := (-1 : Int32)) dX2_tableHere_41 (by decide) ?_
        exact V_iret X hr (Or.inl rfl) (Nat.le_of_ble_eq_true rfl) (Nat.le_of_ble_eq_true rfl) dX2_tableHere_42 ⟨_, rfl, hP⟩
      · have hP := hP.2 h7
        refine V_iload_n X dX2_tableHere_37 rfl 0 rfl ?_
        refine V_goto X (tgt := 42) dX2_tableHere_38 (by decide) ?_
        exact V_iret X hr (Or.inl rfl) (Nat.le_of_ble_eq_true rfl) (Nat.le_of_ble_eq_true rfl) dX2_tableHere_42 ⟨_, rfl, hP⟩
def P_X6_addPart (a0 : Nat) (x1 : Int32) (σ : Hp) (post : Hp → Prop) : Prop :=
  gk σ a0 = some (6, 0) ∧ ((gi σ a0 5) < 0 → post σ) ∧ (¬ ((gi σ a0 5) < 0) → ∃ b1 : Nat, (gr σ a0 0) = some b1 ∧ ∃ n2 : Nat, gk σ b1 = some (10, n2) ∧ ((gi σ a0 5) < (Int32.ofNat n2) → vp_in (gi σ a0 5) n2 ∧ post (si (si σ b1 (Int32.toNatClampNeg (gi σ a0 5)) x1) a0 5 ((gi (si σ b1 (Int32.toNatClampNeg (gi σ a0 5)) x1) a0 5) + (1 : Int32)))) ∧ (¬ ((gi σ a0 5) < (Int32.ofNat n2)) → post σ))
set_option maxHeartbeats 2000000 in
set_option maxRecDepth 100000 in
theorem m_X6_addPart (l : Launch) (G : GG) (N0 : Nat) (a0 : Nat) (x1 : Int32) (σ : Hp) (post : Hp → Prop) (hP : P_X6_addPart a0 x1 σ post) : MM l G N0 yX6_addPart cX6_addPart 2 none (0) (0) 0 0 [.ref a0, .int x1] σ (pV post) := by
  refine MM.of (by decide) (Nat.le_of_ble_eq_true rfl) ?_
  intro p e s m args below meth c X hr hnm
  refine V.to (lv2 := [(0, .ref a0), (1, .int x1)]) [0, 1] rfl rfl ?_
  unfold P_X6_addPart at hP
  refine V_aload_n X dX6_addPart_0 rfl 0 rfl ?_
  obtain ⟨h1, hP⟩ := hP
  refine V_geti X kf_RX6_27 rfl h1 dX6_addPart_1 ?_
  refine V_if_lt X (tgt := 19) dX6_addPart_4 (by decide) (fun h2 => ?_) (fun h2 => ?_)
  · have hP := hP.1 h2
    exact V_vret X hr (Nat.le_of_ble_eq_true rfl) (Nat.le_of_ble_eq_true rfl) dX6_addPart_19 ⟨rfl, hP⟩
  · have hP := hP.2 h2
    refine V_aload_n X dX6_addPart_7 rfl 0 rfl ?_
    refine V_geti X kf_RX6_27 rfl h1 dX6_addPart_8 ?_
    refine V_aload_n X dX6_addPart_11 rfl 0 rfl ?_
    refine V_getr X kf_RX6_9 rfl h1 dX6_addPart_12 ?_
    obtain ⟨b1, h3, hP⟩ := hP
    refine V_dr0 h3 ?_
    obtain ⟨n2, h4, hP⟩ := hP
    refine V_alen X (Or.inl rfl) h4 dX6_addPart_15 ?_
    refine V_icmp_lt X (tgt := 20) dX6_addPart_16 (by decide) (fun h5 => ?_) (fun h5 => ?_)
    · have hP := hP.1 h5
      refine V_aload_n X dX6_addPart_20 rfl 0 rfl ?_
      refine V_getr X kf_RX6_9 rfl h1 dX6_addPart_21 ?_
      refine V_aload_n X dX6_addPart_24 rfl 0 rfl ?_
      refine V_geti X kf_RX6_27 rfl h1 dX6_addPart_25 ?_
      refine V_iload_n X dX6_addPart_28 rfl 1 rfl ?_
      refine V_dr2 h3 ?_
      obtain ⟨h6, hP⟩ := hP
      refine V_iast X h4 h6 dX6_addPart_29 ?_
      refine V_aload_n X dX6_addPart_30 rfl 0 rfl ?_
      refine V_dup X dX6_addPart_31 rfl ?_
      refine V_geti X kf_RX6_27 rfl h1 dX6_addPart_32 ?_
      refine V_iconst X (v := (1 : Int32)) dX6_addPart_35 (by decide) ?_
      refine V_iadd X dX6_addPart_36 ?_
      refine V_puti X kf_RX6_27 (fun h => by cases h) rfl h1 (Or.inl rfl) dX6_addPart_37 ?_
      exact V_vret X hr (Nat.le_of_ble_eq_true rfl) (Nat.le_of_ble_eq_true rfl) dX6_addPart_40 ⟨rfl, hP⟩
    · have hP := hP.2 h5
      exact V_vret X hr (Nat.le_of_ble_eq_true rfl) (Nat.le_of_ble_eq_true rfl) dX6_addPart_19 ⟨rfl, hP⟩
def P_X6_hasRoomForPart (a0 : Nat) (σ : Hp) (post : Int32 → Hp → Prop) : Prop :=
  gk σ a0 = some (6, 0) ∧ ∃ b1 : Nat, (gr σ a0 0) = some b1 ∧ ∃ n2 : Nat, gk σ b1 = some (10, n2) ∧ ((Int32.ofNat n2) ≤ (gi σ a0 5) → post (0 : Int32) σ) ∧ (¬ ((Int32.ofNat n2) ≤ (gi σ a0 5)) → post (1 : Int32) σ)
set_option maxHeartbeats 2000000 in
set_option maxRecDepth 100000 in
theorem m_X6_hasRoomForPart (l : Launch) (G : GG) (N0 : Nat) (a0 : Nat) (σ : Hp) (post : Int32 → Hp → Prop) (hP : P_X6_hasRoomForPart a0 σ post) : MM l G N0 yX6_hasRoomForPart cX6_hasRoomForPart 1 (some .boolean) (0) (0) 0 0 [.ref a0] σ (pI post) := by
  refine MM.of (by decide) (Nat.le_of_ble_eq_true rfl) ?_
  intro p e s m args below meth c X hr hnm
  refine V.to (lv2 := [(0, .ref a0)]) [0] rfl rfl ?_
  unfold P_X6_hasRoomForPart at hP
  refine V_aload_n X dX6_hasRoomForPart_0 rfl 0 rfl ?_
  obtain ⟨h1, hP⟩ := hP
  refine V_geti X kf_RX6_27 rfl h1 dX6_hasRoomForPart_1 ?_
  refine V_aload_n X dX6_hasRoomForPart_4 rfl 0 rfl ?_
  refine V_getr X kf_RX6_9 rfl h1 dX6_hasRoomForPart_5 ?_
  obtain ⟨b1, h2, hP⟩ := hP
  refine V_dr0 h2 ?_
  obtain ⟨n2, h3, hP⟩ := hP
  refine V_alen X (Or.inl rfl) h3 dX6_hasRoomForPart_8 ?_
  refine V_icmp_ge X (tgt := 16) dX6_hasRoomForPart_9 (by decide) (fun h4 => ?_) (fun h4 => ?_)
  · have hP := hP.1 h4
    refine V_iconst X (v := (0 : Int32)) dX6_hasRoomForPart_16 (by decide) ?_
    exact V_iret X hr (Or.inr ⟨rfl, Or.inl rfl⟩) (Nat.le_of_ble_eq_true rfl) (Nat.le_of_ble_eq_true rfl) dX6_hasRoomForPart_17 ⟨_, rfl, hP⟩
  · have hP := hP.2 h4
    refine V_iconst X (v := (1 : Int32)) dX6_hasRoomForPart_12 (by decide) ?_
    refine V_goto X (tgt := 17) dX6_hasRoomForPart_13 (by decide) ?_
    exact V_iret X hr (Or.inr ⟨rfl, Or.inr rfl⟩) (Nat.le_of_ble_eq_true rfl) (Nat.le_of_ble_eq_true rfl) dX6_hasRoomForPart_17 ⟨_, rfl, hP⟩
def P_X6_parts (a0 : Nat) (σ : Hp) (post : Int32 → Hp → Prop) : Prop :=
  gk σ a0 = some (6, 0) ∧ post (gi σ a0 5) σ
set_option maxHeartbeats 2000000 in
set_option maxRecDepth 100000 in
theorem m_X6_parts (l : Launch) (G : GG) (N0 : Nat) (a0 : Nat) (σ : Hp) (post : Int32 → Hp → Prop) (hP : P_X6_parts a0 σ post) : MM l G N0 yX6_parts cX6_parts 1 (some .int) (0) (0) 0 0 [.ref a0] σ (pI post) := by
  refine MM.of (by decide) (Nat.le_of_ble_eq_true rfl) ?_
  intro p e s m args below meth c X hr hnm
  refine V.to (lv2 := [(0, .ref a0)]) [0] rfl rfl ?_
  unfold P_X6_parts at hP
  refine V_aload_n X dX6_parts_0 rfl 0 rfl ?_
  obtain ⟨h1, hP⟩ := hP
  refine V_geti X kf_RX6_27 rfl h1 dX6_parts_1 ?_
  exact V_iret X hr (Or.inl rfl) (Nat.le_of_ble_eq_true rfl) (Nat.le_of_ble_eq_true rfl) dX6_parts_4 ⟨_, rfl, hP⟩
def F_X2_referenceHere_5 (a0 : Nat) (post : Int32 → Hp → Prop) (K43 : Int32 → Hp → Prop) (I5 : Int32 → Hp → Prop) (v1 : Int32) (σ5 : Hp) : Prop :=
  gk σ5 a0 = some (2, 0) ∧ (((gi σ5 a0 3) - (1 : Int32)) ≤ v1 → K43 v1 σ5) ∧ (¬ (((gi σ5 a0 3) - (1 : Int32)) ≤ v1) → ((200 : Int32) ≤ v1 → K43 v1 σ5) ∧ (¬ ((200 : Int32) ≤ v1) → ∃ b501 : Nat, (gr σ5 a0 0) = some b501 ∧ gk σ5 b501 = some (7, 0) ∧ P_X7_byteAt b501 v1 σ5 (fun (r502 : Int32) (σ502 : Hp) => (r502 = (48 : Int32) → I5 (v1 + (1 : Int32)) σ502) ∧ (¬ (r502 = (48 : Int32)) → post (-1 : Int32) σ502))))
def P_X2_referenceHere (a0 : Nat) (σ : Hp) (post : Int32 → Hp → Prop) : Prop :=
  gk σ a0 = some (2, 0) ∧ lfp1 (F_X2_referenceHere_5 a0 post (fun (v1_43 : Int32) (σx43 : Hp) => gk σx43 a0 = some (2, 0) ∧ ∃ b1 : Nat, (gr σx43 a0 0) = some b1 ∧ gk σx43 b1 = some (7, 0) ∧ P_X7_byteAt b1 ((gi σx43 a0 3) - (1 : Int32)) σx43 (fun (r2 : Int32) (σ2 : Hp) => gk σ2 a0 = some (2, 0) ∧ ∃ b3 : Nat, (gr σ2 a0 0) = some b3 ∧ gk σ2 b3 = some (7, 0) ∧ P_X7_byteAt b3 (gi σ2 a0 2) σ2 (fun (r4 : Int32) (σ4 : Hp) => P_X2_isDigit r4 σ4 (fun (r5 : Int32) (σ5 : Hp) => (r5 = 0 → post (-1 : Int32) σ5) ∧ (¬ (r5 = 0) → ((r2 - (48 : Int32)) = 0 → post (r2 - (48 : Int32)) σ5) ∧ (¬ ((r2 - (48 : Int32)) = 0) → (¬ (r2 - (48 : Int32)) = (1 : Int32) → post (-1 : Int32) σ5) ∧ ((r2 - (48 : Int32)) = (1 : Int32) → post (r2 - (48 : Int32)) σ5)))))))) (gi σ a0 2) σ
set_option maxHeartbeats 2000000 in
set_option maxRecDepth 100000 in
theorem m_X2_referenceHere (l : Launch) (G : GG) (N0 : Nat) (a0 : Nat) (σ : Hp) (post : Int32 → Hp → Prop) (hP : P_X2_referenceHere a0 σ post) : MM l G N0 yX2_referenceHere cX2_referenceHere 2 (some .int) (1) (21) 0 0 [.ref a0] σ (pI post) := by
  refine MM.of (by decide) (Nat.le_of_ble_eq_true rfl) ?_
  intro p e s m args below meth c X hr hnm
  refine V.to (lv2 := [(0, .ref a0)]) [0] rfl rfl ?_
  unfold P_X2_referenceHere at hP
  refine V_aload_n X dX2_referenceHere_0 rfl 0 rfl ?_
  obtain ⟨h1, hP⟩ := hP
  refine V_geti X kf_RX2_9 rfl h1 dX2_referenceHere_1 ?_
  refine V_istore_n X (lv' := [(1, .int (gi σ a0 2)), (0, .ref a0)]) dX2_referenceHere_4 rfl (by decide) rfl ?_
  have hK43_5 : ∀ (v1_43 : Int32) (σx43 : Hp), (gk σx43 a0 = some (2, 0) ∧ ∃ b1 : Nat, (gr σx43 a0 0) = some b1 ∧ gk σx43 b1 = some (7, 0) ∧ P_X7_byteAt b1 ((gi σx43 a0 3) - (1 : Int32)) σx43 (fun (r2 : Int32) (σ2 : Hp) => gk σ2 a0 = some (2, 0) ∧ ∃ b3 : Nat, (gr σ2 a0 0) = some b3 ∧ gk σ2 b3 = some (7, 0) ∧ P_X7_byteAt b3 (gi σ2 a0 2) σ2 (fun (r4 : Int32) (σ4 : Hp) => P_X2_isDigit r4 σ4 (fun (r5 : Int32) (σ5 : Hp) => (r5 = 0 → post (-1 : Int32) σ5) ∧ (¬ (r5 = 0) → ((r2 - (48 : Int32)) = 0 → post (r2 - (48 : Int32)) σ5) ∧ (¬ ((r2 - (48 : Int32)) = 0) → (¬ (r2 - (48 : Int32)) = (1 : Int32) → post (-1 : Int32) σ5) ∧ ((r2 - (48 : Int32)) = (1 : Int32) → post (r2 - (48 : Int32)) σ5))))))) → V p l e { frames := 1, cells := 0, slots := 0, locals := 21 } s m args below meth c (MQ below (QC G N0 (pI post)) args s 0 0 (AN N0)) G N0 2 σx43 0 0 43 [(0, .ref a0), (1, .int v1_43)] [] := by
    intro v1_43 σx43 hP
    refine V_aload_n X dX2_referenceHere_43 rfl 0 rfl ?_
    obtain ⟨h2, hP⟩ := hP
    refine V_getr X kf_RX2_18 rfl h2 dX2_referenceHere_44 ?_
    refine V_aload_n X dX2_referenceHere_47 rfl 0 rfl ?_
    refine V_geti X kf_RX2_15 rfl h2 dX2_referenceHere_48 ?_
    refine V_iconst X (v := (1 : Int32)) dX2_referenceHere_51 (by decide) ?_
    refine V_isub X dX2_referenceHere_52 ?_
    obtain ⟨b1, h3, hP⟩ := hP
    refine V_dr1 h3 ?_
    obtain ⟨h4, hP⟩ := hP
    refine V_callV_i X [.int ((gi σx43 a0 3) - (1 : Int32))] kw_RX2_81 ki_X7_byteAt ks_X7_byteAt ksg_X7_byteAt (m_X7_byteAt l G N0 _ _ _ _ hP) h4 (by decide) rfl rfl ⟨Nat.le_of_ble_eq_true rfl, Nat.le_of_ble_eq_true rfl⟩ (Nat.le_of_ble_eq_true rfl) ⟨Nat.le_of_ble_eq_true rfl, Nat.le_of_ble_eq_true rfl⟩ rfl dX2_referenceHere_53 (fun r2 σ2 hP => ?_)
    refine V_bipush X (v := (48 : Int32)) dX2_referenceHere_56 (by decide) ?_
    refine V_isub X dX2_referenceHere_58 ?_
    refine V_istore_n X (lv' := [(1, .int (r2 - (48 : Int32))), (0, .ref a0)]) dX2_referenceHere_59 rfl (by decide) rfl ?_
    refine V_aload_n X dX2_referenceHere_60 rfl 1 rfl ?_
    obtain ⟨h5, hP⟩ := hP
    refine V_getr X kf_RX2_18 rfl h5 dX2_referenceHere_61 ?_
    refine V_aload_n X dX2_referenceHere_64 rfl 1 rfl ?_
    refine V_geti X kf_RX2_9 rfl h5 dX2_referenceHere_65 ?_
    obtain ⟨b3, h6, hP⟩ := hP
    refine V_dr1 h6 ?_
    obtain ⟨h7, hP⟩ := hP
    refine V_callV_i X [.int (gi σ2 a0 2)] kw_RX2_81 ki_X7_byteAt ks_X7_byteAt ksg_X7_byteAt (m_X7_byteAt l G N0 _ _ _ _ hP) h7 (by decide) rfl rfl ⟨Nat.le_of_ble_eq_true rfl, Nat.le_of_ble_eq_true rfl⟩ (Nat.le_of_ble_eq_true rfl) ⟨Nat.le_of_ble_eq_true rfl, Nat.le_of_ble_eq_true rfl⟩ rfl dX2_referenceHere_68 (fun r4 σ4 hP => ?_)
    refine V_callS_i X [.int r4] kw_RX2_90 ki_X2_isDigit (m_X2_isDigit l G N0 _ _ _ hP) rfl ⟨Nat.le_of_ble_eq_true rfl, Nat.le_of_ble_eq_true rfl⟩ (Nat.le_of_ble_eq_true rfl) ⟨Nat.le_of_ble_eq_true rfl, Nat.le_of_ble_eq_true rfl⟩ rfl dX2_referenceHere_71 (fun r5 σ5 hP => ?_)
    refine V_if_eq X (tgt := 90) dX2_referenceHere_74 (by decide) (fun h8 => ?_) (fun h8 => ?_)
    · have hP := hP.1 h8
      refine V_iconst X (v := (-1 : Int32)) dX2_referenceHere_90 (by decide) ?_
      exact V_iret X hr (Or.inl rfl) (Nat.le_of_ble_eq_true rfl) (Nat.le_of_ble_eq_true rfl) dX2_referenceHere_91 ⟨_, rfl, hP⟩
    · have hP := hP.2 h8
      refine V_iload_n X dX2_referenceHere_77 rfl 0 rfl ?_
      refine V_if_eq X (tgt := 86) dX2_referenceHere_78 (by decide) (fun h9 => ?_) (fun h9 => ?_)
      · have hP := hP.1 h9
        refine V_iload_n X dX2_referenceHere_86 rfl 0 rfl ?_
        refine V_goto X (tgt := 91) dX2_referenceHere_87 (by decide) ?_
        exact V_iret X hr (Or.inl rfl) (Nat.le_of_ble_eq_true rfl) (Nat.le_of_ble_eq_true rfl) dX2_referenceHere_91 ⟨_, rfl, hP⟩
      · have hP := hP.2 h9
        refine V_iload_n X dX2_referenceHere_81 rfl 0 rfl ?_
        refine V_iconst X (v := (1 : Int32)) dX2_referenceHere_82 (by decide) ?_
        refine V_icmp_ne X (tgt := 90) dX2_referenceHere_83 (by decide) (fun h10 => ?_) (fun h10 => ?_)
        · have hP := hP.1 h10
          refine V_iconst X (v := (-1 : Int32)) dX2_referenceHere_90 (by decide) ?_
          exact V_iret X hr (Or.inl rfl) (Nat.le_of_ble_eq_true rfl) (Nat.le_of_ble_eq_true rfl) dX2_referenceHere_91 ⟨_, rfl, hP⟩
        · have hP := hP.2 h10
          refine V_iload_n X dX2_referenceHere_86 rfl 0 rfl ?_
          refine V_goto X (tgt := 91) dX2_referenceHere_87 (by decide) ?_
          exact V_iret X hr (Or.inl rfl) (Nat.le_of_ble_eq_true rfl) (Nat.le_of_ble_eq_true rfl) dX2_referenceHere_91 ⟨_, rfl, hP⟩
  refine V.to (lv2 := [(0, .ref a0), (1, .int (gi σ a0 2))]) [1, 0] rfl rfl ?_
  refine lfp1_use (fun v1 σ5 => V p l e { frames := 1, cells := 0, slots := 0, locals := 21 } s m args below meth c (MQ below (QC G N0 (pI post)) args s 0 0 (AN N0)) G N0 2 σ5 0 0 5 [(0, .ref a0), (1, .int v1)] []) hP ?_
  intro v1 σ5 hP
  unfold F_X2_referenceHere_5 at hP
  refine V_iload_n X dX2_referenceHere_5 rfl 1 rfl ?_
  refine V_aload_n X dX2_referenceHere_6 rfl 0 rfl ?_
  obtain ⟨h5001, hP⟩ := hP
  refine V_geti X kf_RX2_15 rfl h5001 dX2_referenceHere_7 ?_
  refine V_iconst X (v := (1 : Int32)) dX2_referenceHere_10 (by decide) ?_
  refine V_isub X dX2_referenceHere_11 ?_
  refine V_icmp_ge X (tgt := 43) dX2_referenceHere_12 (by decide) (fun h5002 => ?_) (fun h5002 => ?_)
  · have hP := hP.1 h5002
    exact V.to [0, 1] rfl rfl (hK43_5 _ _ hP)
  · have hP := hP.2 h5002
    refine V_iload_n X dX2_referenceHere_15 rfl 1 rfl ?_
    refine V_sipush X (v := (200 : Int32)) dX2_referenceHere_16 (by decide) ?_
    refine V_icmp_ge X (tgt := 43) dX2_referenceHere_19 (by decide) (fun h5003 => ?_) (fun h5003 => ?_)
    · have hP := hP.1 h5003
      exact V.to [0, 1] rfl rfl (hK43_5 _ _ hP)
    · have hP := hP.2 h5003
      refine V_aload_n X dX2_referenceHere_22 rfl 0 rfl ?_
      refine V_getr X kf_RX2_18 rfl h5001 dX2_referenceHere_23 ?_
      refine V_iload_n X dX2_referenceHere_26 rfl 1 rfl ?_
      obtain ⟨b501, h5004, hP⟩ := hP
      refine V_dr1 h5004 ?_
      obtain ⟨h5005, hP⟩ := hP
      refine V_callV_i X [.int v1] kw_RX2_81 ki_X7_byteAt ks_X7_byteAt ksg_X7_byteAt (m_X7_byteAt l G N0 _ _ _ _ hP) h5005 (by decide) rfl rfl ⟨Nat.le_of_ble_eq_true rfl, Nat.le_of_ble_eq_true rfl⟩ (Nat.le_of_ble_eq_true rfl) ⟨Nat.le_of_ble_eq_true rfl, Nat.le_of_ble_eq_true rfl⟩ rfl dX2_referenceHere_27 (fun r502 σ502 hP => ?_)
      refine V_bipush X (v := (48 : Int32)) dX2_referenceHere_30 (by decide) ?_
      refine V_icmp_eq X (tgt := 37) dX2_referenceHere_32 (by decide) (fun h5006 => ?_) (fun h5006 => ?_)
      · have hP := hP.1 h5006
        refine V_iinc X (v := (v1 + (1 : Int32))) (lv' := [(1, .int (v1 + (1 : Int32))), (0, .ref a0)]) dX2_referenceHere_37 1 rfl rfl (by decide) rfl ?_
        refine V_goto X (tgt := 5) dX2_referenceHere_40 (by decide) ?_
        exact V.to [1, 0] rfl rfl hP
      · have hP := hP.2 h5006
        refine V_iconst X (v := (-1 : Int32)) dX2_referenceHere_35 (by decide) ?_
        exact V_iret X hr (Or.inl rfl) (Nat.le_of_ble_eq_true rfl) (Nat.le_of_ble_eq_true rfl) dX2_referenceHere_36 ⟨_, rfl, hP⟩
def P_X6_addItem (a0 : Nat) (x1 : Int32) (x2 : Int32) (x3 : Int32) (x4 : Int32) (σ : Hp) (post : Hp → Prop) : Prop :=
  gk σ a0 = some (6, 0) ∧ ((gi σ a0 6) < 0 → post σ) ∧ (¬ ((gi σ a0 6) < 0) → ((gi σ a0 6) < (100 : Int32) → ∃ b1 : Nat, (gr σ a0 1) = some b1 ∧ ∃ n2 : Nat, gk σ b1 = some (10, n2) ∧ vp_in (gi σ a0 6) n2 ∧ ∃ b3 : Nat, (gr (si σ b1 (Int32.toNatClampNeg (gi σ a0 6)) x1) a0 2) = some b3 ∧ ∃ n4 : Nat, gk σ b3 = some (10, n4) ∧ vp_in (gi (si σ b1 (Int32.toNatClampNeg (gi σ a0 6)) x1) a0 6) n4 ∧ ∃ b5 : Nat, (gr (si (si σ b1 (Int32.toNatClampNeg (gi σ a0 6)) x1) b3 (Int32.toNatClampNeg (gi (si σ b1 (Int32.toNatClampNeg (gi σ a0 6)) x1) a0 6)) x2) a0 3) = some b5 ∧ ∃ n6 : Nat, gk σ b5 = some (10, n6) ∧ vp_in (gi (si (si σ b1 (Int32.toNatClampNeg (gi σ a0 6)) x1) b3 (Int32.toNatClampNeg (gi (si σ b1 (Int32.toNatClampNeg (gi σ a0 6)) x1) a0 6)) x2) a0 6) n6 ∧ ∃ b7 : Nat, (gr (si (si (si σ b1 (Int32.toNatClampNeg (gi σ a0 6)) x1) b3 (Int32.toNatClampNeg (gi (si σ b1 (Int32.toNatClampNeg (gi σ a0 6)) x1) a0 6)) x2) b5 (Int32.toNatClampNeg (gi (si (si σ b1 (Int32.toNatClampNeg (gi σ a0 6)) x1) b3 (Int32.toNatClampNeg (gi (si σ b1 (Int32.toNatClampNeg (gi σ a0 6)) x1) a0 6)) x2) a0 6)) x3) a0 4) = some b7 ∧ ∃ n8 : Nat, gk σ b7 = some (10, n8) ∧ vp_in (gi (si (si (si σ b1 (Int32.toNatClampNeg (gi σ a0 6)) x1) b3 (Int32.toNatClampNeg (gi (si σ b1 (Int32.toNatClampNeg (gi σ a0 6)) x1) a0 6)) x2) b5 (Int32.toNatClampNeg (gi (si (si σ b1 (Int32.toNatClampNeg (gi σ a0 6)) x1) b3 (Int32.toNatClampNeg (gi (si σ b1 (Int32.toNatClampNeg (gi σ a0 6)) x1) a0 6)) x2) a0 6)) x3) a0 6) n8 ∧ post (si (si (si (si (si σ b1 (Int32.toNatClampNeg (gi σ a0 6)) x1) b3 (Int32.toNatClampNeg (gi (si σ b1 (Int32.toNatClampNeg (gi σ a0 6)) x1) a0 6)) x2) b5 (Int32.toNatClampNeg (gi (si (si σ b1 (Int32.toNatClampNeg (gi σ a0 6)) x1) b3 (Int32.toNatClampNeg (gi (si σ b1 (Int32.toNatClampNeg (gi σ a0 6)) x1) a0 6)) x2) a0 6)) x3) b7 (Int32.toNatClampNeg (gi (si (si (si σ b1 (Int32.toNatClampNeg (gi σ a0 6)) x1) b3 (Int32.toNatClampNeg (gi (si σ b1 (Int32.toNatClampNeg (gi σ a0 6)) x1) a0 6)) x2) b5 (Int32.toNatClampNeg (gi (si (si σ b1 (Int32.toNatClampNeg (gi σ a0 6)) x1) b3 (Int32.toNatClampNeg (gi (si σ b1 (Int32.toNatClampNeg (gi σ a0 6)) x1) a0 6)) x2) a0 6)) x3) a0 6)) x4) a0 6 ((gi (si (si (si (si σ b1 (Int32.toNatClampNeg (gi σ a0 6)) x1) b3 (Int32.toNatClampNeg (gi (si σ b1 (Int32.toNatClampNeg (gi σ a0 6)) x1) a0 6)) x2) b5 (Int32.toNatClampNeg (gi (si (si σ b1 (Int32.toNatClampNeg (gi σ a0 6)) x1) b3 (Int32.toNatClampNeg (gi (si σ b1 (Int32.toNatClampNeg (gi σ a0 6)) x1) a0 6)) x2) a0 6)) x3) b7 (Int32.toNatClampNeg (gi (si (si (si σ b1 (Int32.toNatClampNeg (gi σ a0 6)) x1) b3 (Int32.toNatClampNeg (gi (si σ b1 (Int32.toNatClampNeg (gi σ a0 6)) x1) a0 6)) x2) b5 (Int32.toNatClampNeg (gi (si (si σ b1 (Int32.toNatClampNeg (gi σ a0 6)) x1) b3 (Int32.toNatClampNeg (gi (si σ b1 (Int32.toNatClampNeg (gi σ a0 6)) x1) a0 6)) x2) a0 6)) x3) a0 6)) x4) a0 6) + (1 : Int32)))) ∧ (¬ ((gi σ a0 6) < (100 : Int32)) → post σ))
set_option maxHeartbeats 2000000 in
set_option maxRecDepth 100000 in
theorem m_X6_addItem (l : Launch) (G : GG) (N0 : Nat) (a0 : Nat) (x1 : Int32) (x2 : Int32) (x3 : Int32) (x4 : Int32) (σ : Hp) (post : Hp → Prop) (hP : P_X6_addItem a0 x1 x2 x3 x4 σ post) : MM l G N0 yX6_addItem cX6_addItem 5 none (0) (0) 0 0 [.ref a0, .int x1, .int x2, .int x3, .int x4] σ (pV post) := by
  refine MM.of (by decide) (Nat.le_of_ble_eq_true rfl) ?_
  intro p e s m args below meth c X hr hnm
  refine V.to (lv2 := [(0, .ref a0), (1, .int x1), (2, .int x2), (3, .int x3), (4, .int x4)]) [0, 1, 2, 3, 4] rfl rfl ?_
  unfold P_X6_addItem at hP
  refine V_aload_n X dX6_addItem_0 rfl 0 rfl ?_
  obtain ⟨h1, hP⟩ := hP
  refine V_geti X kf_RX6_31 rfl h1 dX6_addItem_1 ?_
  refine V_if_lt X (tgt := 16) dX6_addItem_4 (by decide) (fun h2 => ?_) (fun h2 => ?_)
  · have hP := hP.1 h2
    exact V_vret X hr (Nat.le_of_ble_eq_true rfl) (Nat.le_of_ble_eq_true rfl) dX6_addItem_16 ⟨rfl, hP⟩
  · have hP := hP.2 h2
    refine V_aload_n X dX6_addItem_7 rfl 0 rfl ?_
    refine V_geti X kf_RX6_31 rfl h1 dX6_addItem_8 ?_
    refine V_bipush X (v := (100 : Int32)) dX6_addItem_11 (by decide) ?_
    refine V_icmp_lt X (tgt := 17) dX6_addItem_13 (by decide) (fun h3 => ?_) (fun h3 => ?_)
    · have hP := hP.1 h3
      refine V_aload_n X dX6_addItem_17 rfl 0 rfl ?_
      refine V_getr X kf_RX6_15 rfl h1 dX6_addItem_18 ?_
      refine V_aload_n X dX6_addItem_21 rfl 0 rfl ?_
      refine V_geti X kf_RX6_31 rfl h1 dX6_addItem_22 ?_
      refine V_iload_n X dX6_addItem_25 rfl 1 rfl ?_
      obtain ⟨b1, h4, hP⟩ := hP
      refine V_dr2 h4 ?_
      obtain ⟨n2, h5, hP⟩ := hP
      obtain ⟨h6, hP⟩ := hP
      refine V_iast X h5 h6 dX6_addItem_26 ?_
      refine V_aload_n X dX6_addItem_27 rfl 0 rfl ?_
      refine V_getr X kf_RX6_18 rfl h1 dX6_addItem_28 ?_
      refine V_aload_n X dX6_addItem_31 rfl 0 rfl ?_
      refine V_geti X kf_RX6_31 rfl h1 dX6_addItem_32 ?_
      refine V_iload_n X dX6_addItem_35 rfl 2 rfl ?_
      obtain ⟨b3, h7, hP⟩ := hP
      refine V_dr2 h7 ?_
      obtain ⟨n4, h8, hP⟩ := hP
      obtain ⟨h9, hP⟩ := hP
      refine V_iast X h8 h9 dX6_addItem_36 ?_
      refine V_aload_n X dX6_addItem_37 rfl 0 rfl ?_
      refine V_getr X kf_RX6_21 rfl h1 dX6_addItem_38 ?_
      refine V_aload_n X dX6_addItem_41 rfl 0 rfl ?_
      refine V_geti X kf_RX6_31 rfl h1 dX6_addItem_42 ?_
      refine V_iload_n X dX6_addItem_45 rfl 3 rfl ?_
      obtain ⟨b5, h10, hP⟩ := hP
      refine V_dr2 h10 ?_
      obtain ⟨n6, h11, hP⟩ := hP
      obtain ⟨h12, hP⟩ := hP
      refine V_iast X h11 h12 dX6_addItem_46 ?_
      refine V_aload_n X dX6_addItem_47 rfl 0 rfl ?_
      refine V_getr X kf_RX6_24 rfl h1 dX6_addItem_48 ?_
      refine V_aload_n X dX6_addItem_51 rfl 0 rfl ?_
      refine V_geti X kf_RX6_31 rfl h1 dX6_addItem_52 ?_
      refine V_iload X dX6_addItem_55 4 rfl ?_
      obtain ⟨b7, h13, hP⟩ := hP
      refine V_dr2 h13 ?_
      obtain ⟨n8, h14, hP⟩ := hP
      obtain ⟨h15, hP⟩ := hP
      refine V_iast X h14 h15 dX6_addItem_57 ?_
      refine V_aload_n X dX6_addItem_58 rfl 0 rfl ?_
      refine V_dup X dX6_addItem_59 rfl ?_
      refine V_geti X kf_RX6_31 rfl h1 dX6_addItem_60 ?_
      refine V_iconst X (v := (1 : Int32)) dX6_addItem_63 (by decide) ?_
      refine V_iadd X dX6_addItem_64 ?_
      refine V_puti X kf_RX6_31 (fun h => by cases h) rfl h1 (Or.inl rfl) dX6_addItem_65 ?_
      exact V_vret X hr (Nat.le_of_ble_eq_true rfl) (Nat.le_of_ble_eq_true rfl) dX6_addItem_68 ⟨rfl, hP⟩
    · have hP := hP.2 h3
      exact V_vret X hr (Nat.le_of_ble_eq_true rfl) (Nat.le_of_ble_eq_true rfl) dX6_addItem_16 ⟨rfl, hP⟩
def F_X2_readItems_2 (P_X2_readItem : Nat → Int32 → Int32 → Hp → (Int32 → Hp → Prop) → Prop) (a0 : Nat) (x1 : Int32) (x2 : Int32) (post : Int32 → Hp → Prop) (I2 : Int32 → Hp → Prop) (v3 : Int32) (σ2 : Hp) : Prop :=
  ((100 : Int32) ≤ v3 → post (0 : Int32) σ2) ∧ (¬ ((100 : Int32) ≤ v3) → gk σ2 a0 = some (2, 0) ∧ P_X2_readItem a0 x1 x2 σ2 (fun (r201 : Int32) (σ201 : Hp) => (¬ r201 = 0 → gk σ201 a0 = some (2, 0) ∧ P_X2_isSign a0 (125 : Int32) σ201 (fun (r202 : Int32) (σ202 : Hp) => (¬ r202 = 0 → gk σ202 a0 = some (2, 0) ∧ P_X2_advance a0 σ202 (fun (σ203 : Hp) => (r202 = 0 → I2 (v3 + (1 : Int32)) σ203) ∧ (¬ (r202 = 0) → post (1 : Int32) σ203))) ∧ (r202 = 0 → gk σ202 a0 = some (2, 0) ∧ P_X2_isSign a0 (44 : Int32) σ202 (fun (r204 : Int32) (σ204 : Hp) => (¬ r204 = 0 → gk σ204 a0 = some (2, 0) ∧ P_X2_advance a0 σ204 (fun (σ205 : Hp) => (r202 = 0 → I2 (v3 + (1 : Int32)) σ205) ∧ (¬ (r202 = 0) → post (1 : Int32) σ205))) ∧ (r204 = 0 → post (0 : Int32) σ204))))) ∧ (r201 = 0 → post (0 : Int32) σ201)))
def O_X2_readItems (P_X2_readItem : Nat → Int32 → Int32 → Hp → (Int32 → Hp → Prop) → Prop) (a0 : Nat) (x1 : Int32) (x2 : Int32) (σ : Hp) (post : Int32 → Hp → Prop) : Prop :=
  lfp1 (F_X2_readItems_2 P_X2_readItem a0 x1 x2 post) (0 : Int32) σ
set_option maxHeartbeats 2000000 in
set_option maxRecDepth 100000 in
theorem mO_X2_readItems (l : Launch) (G : GG) (N0 : Nat) {fr lo : Nat} (hfr : 20 ≤ fr) (hlo : 400 ≤ lo) (P_X2_readItem : Nat → Int32 → Int32 → Hp → (Int32 → Hp → Prop) → Prop) (hX2_readItem : ∀ (a0 : Nat) (x1 : Int32) (x2 : Int32) (σ : Hp) (post : Int32 → Hp → Prop), P_X2_readItem a0 x1 x2 σ post → MM l G N0 yX2_readItem cX2_readItem 5 (some .boolean) fr lo 0 0 [.ref a0, .int x1, .int x2] σ (pI post)) (a0 : Nat) (x1 : Int32) (x2 : Int32) (σ : Hp) (post : Int32 → Hp → Prop) (hP : O_X2_readItems P_X2_readItem a0 x1 x2 σ post) : MM l G N0 yX2_readItems cX2_readItems 5 (some .boolean) (fr + 1) (lo + 39) 0 0 [.ref a0, .int x1, .int x2] σ (pI post) := by
  refine MM.of (by decide) (Nat.le_of_ble_eq_true rfl) ?_
  intro p e s m args below meth c X hr hnm
  refine V.to (lv2 := [(0, .ref a0), (1, .int x1), (2, .int x2)]) [0, 1, 2] rfl rfl ?_
  unfold O_X2_readItems at hP
  refine V_iconst X (v := (0 : Int32)) dX2_readItems_0 (by decide) ?_
  refine V_istore_n X (lv' := [(3, .int (0 : Int32)), (0, .ref a0), (1, .int x1), (2, .int x2)]) dX2_readItems_1 rfl (by decide) rfl ?_
  refine V.to (lv2 := [(0, .ref a0), (1, .int x1), (2, .int x2), (3, .int (0 : Int32))]) [1, 2, 3, 0] rfl rfl ?_
  refine lfp1_use (fun v3 σ2 => V p l e { frames := fr + 1, cells := 0, slots := 0, locals := lo + 39 } s m args below meth c (MQ below (QC G N0 (pI post)) args s 0 0 (AN N0)) G N0 5 σ2 0 0 2 [(0, .ref a0), (1, .int x1), (2, .int x2), (3, .int v3)] []) hP ?_
  intro v3 σ2 hP
  unfold F_X2_readItems_2 at hP
  refine V_iload_n X dX2_readItems_2 rfl 3 rfl ?_
  refine V_bipush X (v := (100 : Int32)) dX2_readItems_3 (by decide) ?_
  refine V_icmp_ge X (tgt := 60) dX2_readItems_5 (by decide) (fun h2001 => ?_) (fun h2001 => ?_)
  · have hP := hP.1 h2001
    refine V_iconst X (v := (0 : Int32)) dX2_readItems_60 (by decide) ?_
    exact V_iret X hr (Or.inr ⟨rfl, Or.inl rfl⟩) (Nat.le_of_ble_eq_true rfl) (Nat.le_of_ble_eq_true rfl) dX2_readItems_61 ⟨_, rfl, hP⟩
  · have hP := hP.2 h2001
    refine V_aload_n X dX2_readItems_8 rfl 0 rfl ?_
    refine V_iload_n X dX2_readItems_9 rfl 1 rfl ?_
    refine V_iload_n X dX2_readItems_10 rfl 2 rfl ?_
    obtain ⟨h2002, hP⟩ := hP
    refine V_callV_i X [.int x1, .int x2] kw_RX2_61 ki_X2_readItem ks_X2_readItem ksg_X2_readItem (hX2_readItem _ _ _ _ _ hP) h2002 (by decide) rfl rfl ⟨show fr + 1 ≤ fr + 1 from Nat.le_refl _, show 8 + (5 + 11) + lo ≤ lo + 39 from by omega⟩ (Nat.le_of_ble_eq_true rfl) ⟨Nat.le_of_ble_eq_true rfl, Nat.le_of_ble_eq_true rfl⟩ rfl dX2_readItems_11 (fun r201 σ201 hP => ?_)
    refine V_if_ne X (tgt := 19) dX2_readItems_14 (by decide) (fun h2003 => ?_) (fun h2003 => ?_)
    · have hP := hP.1 h2003
      refine V_aload_n X dX2_readItems_19 rfl 0 rfl ?_
      refine V_bipush X (v := (125 : Int32)) dX2_readItems_20 (by decide) ?_
      obtain ⟨h2004, hP⟩ := hP
      refine V_callV_i X [.int (125 : Int32)] kw_RX2_53 ki_X2_isSign ks_X2_isSign ksg_X2_isSign (m_X2_isSign l G N0 _ _ _ _ hP) h2004 (by decide) rfl rfl ⟨show 1 + 1 ≤ fr + 1 from by omega, show 8 + (2 + 11) + 21 ≤ lo + 39 from by omega⟩ (Nat.le_of_ble_eq_true rfl) ⟨Nat.le_of_ble_eq_true rfl, Nat.le_of_ble_eq_true rfl⟩ rfl dX2_readItems_22 (fun r202 σ202 hP => ?_)
      refine V_istore X (lv' := [(4, .int r202), (0, .ref a0), (1, .int x1), (2, .int x2), (3, .int v3)]) dX2_readItems_25 (by decide) rfl ?_
      refine V_iload X dX2_readItems_27 0 rfl ?_
      refine V_if_ne X (tgt := 43) dX2_readItems_29 (by decide) (fun h2005 => ?_) (fun h2005 => ?_)
      · have hP := hP.1 h2005
        refine V_aload_n X dX2_readItems_43 rfl 1 rfl ?_
        obtain ⟨h2006, hP⟩ := hP
        refine V_callV_v X [] kw_RX2_26 ki_X2_advance ks_X2_advance ksg_X2_advance (m_X2_advance l G N0 _ _ _ hP) h2006 (by decide) rfl rfl ⟨show 1 + 1 ≤ fr + 1 from by omega, show 8 + (4 + 11) + 21 ≤ lo + 39 from by omega⟩ (Nat.le_of_ble_eq_true rfl) ⟨Nat.le_of_ble_eq_true rfl, Nat.le_of_ble_eq_true rfl⟩ rfl dX2_readItems_44 (fun σ203 hP => ?_)
        refine V_iload X dX2_readItems_47 0 rfl ?_
        refine V_if_eq X (tgt := 54) dX2_readItems_49 (by decide) (fun h2007 => ?_) (fun h2007 => ?_)
        · have hP := hP.1 h2007
          refine V_iinc X (v := (v3 + (1 : Int32))) (lv' := [(3, .int (v3 + (1 : Int32))), (4, .int r202), (0, .ref a0), (1, .int x1), (2, .int x2)]) dX2_readItems_54 4 rfl rfl (by decide) rfl ?_
          refine V_goto X (tgt := 2) dX2_readItems_57 (by decide) ?_
          exact V.to [2, 3, 4, 0] rfl rfl hP
        · have hP := hP.2 h2007
          refine V_iconst X (v := (1 : Int32)) dX2_readItems_52 (by decide) ?_
          exact V_iret X hr (Or.inr ⟨rfl, Or.inr rfl⟩) (Nat.le_of_ble_eq_true rfl) (Nat.le_of_ble_eq_true rfl) dX2_readItems_53 ⟨_, rfl, hP⟩
      · have hP := hP.2 h2005
        refine V_aload_n X dX2_readItems_32 rfl 1 rfl ?_
        refine V_bipush X (v := (44 : Int32)) dX2_readItems_33 (by decide) ?_
        obtain ⟨h2008, hP⟩ := hP
        refine V_callV_i X [.int (44 : Int32)] kw_RX2_53 ki_X2_isSign ks_X2_isSign ksg_X2_isSign (m_X2_isSign l G N0 _ _ _ _ hP) h2008 (by decide) rfl rfl ⟨show 1 + 1 ≤ fr + 1 from by omega, show 8 + (2 + 11) + 21 ≤ lo + 39 from by omega⟩ (Nat.le_of_ble_eq_true rfl) ⟨Nat.le_of_ble_eq_true rfl, Nat.le_of_ble_eq_true rfl⟩ rfl dX2_readItems_35 (fun r204 σ204 hP => ?_)
        refine V_if_ne X (tgt := 43) dX2_readItems_38 (by decide) (fun h2009 => ?_) (fun h2009 => ?_)
        · have hP := hP.1 h2009
          refine V_aload_n X dX2_readItems_43 rfl 1 rfl ?_
          obtain ⟨h2010, hP⟩ := hP
          refine V_callV_v X [] kw_RX2_26 ki_X2_advance ks_X2_advance ksg_X2_advance (m_X2_advance l G N0 _ _ _ hP) h2010 (by decide) rfl rfl ⟨show 1 + 1 ≤ fr + 1 from by omega, show 8 + (4 + 11) + 21 ≤ lo + 39 from by omega⟩ (Nat.le_of_ble_eq_true rfl) ⟨Nat.le_of_ble_eq_true rfl, Nat.le_of_ble_eq_true rfl⟩ rfl dX2_readItems_44 (fun σ205 hP => ?_)
          refine V_iload X dX2_readItems_47 0 rfl ?_
          refine V_if_eq X (tgt := 54) dX2_readItems_49 (by decide) (fun h2011 => ?_) (fun h2011 => ?_)
          · have hP := hP.1 h2011
            refine V_iinc X (v := (v3 + (1 : Int32))) (lv' := [(3, .int (v3 + (1 : Int32))), (4, .int r202), (0, .ref a0), (1, .int x1), (2, .int x2)]) dX2_readItems_54 4 rfl rfl (by decide) rfl ?_
            refine V_goto X (tgt := 2) dX2_readItems_57 (by decide) ?_
            exact V.to [2, 3, 4, 0] rfl rfl hP
          · have hP := hP.2 h2011
            refine V_iconst X (v := (1 : Int32)) dX2_readItems_52 (by decide) ?_
            exact V_iret X hr (Or.inr ⟨rfl, Or.inr rfl⟩) (Nat.le_of_ble_eq_true rfl) (Nat.le_of_ble_eq_true rfl) dX2_readItems_53 ⟨_, rfl, hP⟩
        · have hP := hP.2 h2009
          refine V_iconst X (v := (0 : Int32)) dX2_readItems_41 (by decide) ?_
          exact V_iret X hr (Or.inr ⟨rfl, Or.inl rfl⟩) (Nat.le_of_ble_eq_true rfl) (Nat.le_of_ble_eq_true rfl) dX2_readItems_42 ⟨_, rfl, hP⟩
    · have hP := hP.2 h2003
      refine V_iconst X (v := (0 : Int32)) dX2_readItems_17 (by decide) ?_
      exact V_iret X hr (Or.inr ⟨rfl, Or.inl rfl⟩) (Nat.le_of_ble_eq_true rfl) (Nat.le_of_ble_eq_true rfl) dX2_readItems_18 ⟨_, rfl, hP⟩
def O_X2_readPart (P_X2_readItems : Nat → Int32 → Int32 → Hp → (Int32 → Hp → Prop) → Prop) (a0 : Nat) (x1 : Int32) (σ : Hp) (post : Int32 → Hp → Prop) : Prop :=
  gk σ a0 = some (2, 0) ∧ P_X2_tableHere a0 σ (fun (r1 : Int32) (σ1 : Hp) => (r1 = (-1 : Int32) → post (0 : Int32) σ1) ∧ (¬ (r1 = (-1 : Int32)) → gk σ1 a0 = some (2, 0) ∧ ∃ b2 : Nat, (gr σ1 a0 1) = some b2 ∧ gk σ1 b2 = some (6, 0) ∧ P_X6_hasRoomForPart b2 σ1 (fun (r3 : Int32) (σ3 : Hp) => (¬ r3 = 0 → gk σ3 a0 = some (2, 0) ∧ ∃ b4 : Nat, (gr σ3 a0 1) = some b4 ∧ gk σ3 b4 = some (6, 0) ∧ P_X6_parts b4 σ3 (fun (r5 : Int32) (σ5 : Hp) => gk σ5 a0 = some (2, 0) ∧ ∃ b6 : Nat, (gr σ5 a0 1) = some b6 ∧ gk σ5 b6 = some (6, 0) ∧ P_X6_addPart b6 r1 σ5 (fun (σ7 : Hp) => gk σ7 a0 = some (2, 0) ∧ P_X2_advance a0 σ7 (fun (σ8 : Hp) => gk σ8 a0 = some (2, 0) ∧ P_X2_isSign a0 (123 : Int32) σ8 (fun (r9 : Int32) (σ9 : Hp) => (¬ r9 = 0 → (x1 < (6 : Int32) → gk σ9 a0 = some (2, 0) ∧ P_X2_advance a0 σ9 (fun (σ10 : Hp) => gk σ10 a0 = some (2, 0) ∧ P_X2_readItems a0 r5 (x1 + (1 : Int32)) σ10 (fun (r11 : Int32) (σ11 : Hp) => (r11 = 0 ∨ r11 = 1) ∧ post r11 σ11))) ∧ (¬ (x1 < (6 : Int32)) → post (0 : Int32) σ9)) ∧ (r9 = 0 → post (1 : Int32) σ9)))))) ∧ (r3 = 0 → post (0 : Int32) σ3))))
set_option maxHeartbeats 2000000 in
set_option maxRecDepth 100000 in
theorem mO_X2_readPart (l : Launch) (G : GG) (N0 : Nat) {fr lo : Nat} (hfr : 20 ≤ fr) (hlo : 400 ≤ lo) (P_X2_readItems : Nat → Int32 → Int32 → Hp → (Int32 → Hp → Prop) → Prop) (hX2_readItems : ∀ (a0 : Nat) (x1 : Int32) (x2 : Int32) (σ : Hp) (post : Int32 → Hp → Prop), P_X2_readItems a0 x1 x2 σ post → MM l G N0 yX2_readItems cX2_readItems 5 (some .boolean) fr lo 0 0 [.ref a0, .int x1, .int x2] σ (pI post)) (a0 : Nat) (x1 : Int32) (σ : Hp) (post : Int32 → Hp → Prop) (hP : O_X2_readPart P_X2_readItems a0 x1 σ post) : MM l G N0 yX2_readPart cX2_readPart 4 (some .boolean) (fr + 1) (lo + 39) 0 0 [.ref a0, .int x1] σ (pI post) := by
  refine MM.of (by decide) (Nat.le_of_ble_eq_true rfl) ?_
  intro p e s m args below meth c X hr hnm
  refine V.to (lv2 := [(0, .ref a0), (1, .int x1)]) [0, 1] rfl rfl ?_
  unfold O_X2_readPart at hP
  refine V_aload_n X dX2_readPart_0 rfl 0 rfl ?_
  obtain ⟨h1, hP⟩ := hP
  refine V_callV_i X [] kw_RX2_37 ki_X2_tableHere ks_X2_tableHere ksg_X2_tableHere (m_X2_tableHere l G N0 _ _ _ hP) h1 (by decide) rfl rfl ⟨show 1 + 1 ≤ fr + 1 from by omega, show 8 + (2 + 11) + 21 ≤ lo + 39 from by omega⟩ (Nat.le_of_ble_eq_true rfl) ⟨Nat.le_of_ble_eq_true rfl, Nat.le_of_ble_eq_true rfl⟩ rfl dX2_readPart_1 (fun r1 σ1 hP => ?_)
  refine V_istore_n X (lv' := [(2, .int r1), (0, .ref a0), (1, .int x1)]) dX2_readPart_4 rfl (by decide) rfl ?_
  refine V_iload_n X dX2_readPart_5 rfl 0 rfl ?_
  refine V_iconst X (v := (-1 : Int32)) dX2_readPart_6 (by decide) ?_
  refine V_icmp_eq X (tgt := 20) dX2_readPart_7 (by decide) (fun h2 => ?_) (fun h2 => ?_)
  · have hP := hP.1 h2
    refine V_iconst X (v := (0 : Int32)) dX2_readPart_20 (by decide) ?_
    exact V_iret X hr (Or.inr ⟨rfl, Or.inl rfl⟩) (Nat.le_of_ble_eq_true rfl) (Nat.le_of_ble_eq_true rfl) dX2_readPart_21 ⟨_, rfl, hP⟩
  · have hP := hP.2 h2
    refine V_aload_n X dX2_readPart_10 rfl 1 rfl ?_
    obtain ⟨h3, hP⟩ := hP
    refine V_getr X kf_RX2_22 rfl h3 dX2_readPart_11 ?_
    obtain ⟨b2, h4, hP⟩ := hP
    refine V_dr0 h4 ?_
    obtain ⟨h5, hP⟩ := hP
    refine V_callV_i X [] kw_RX2_41 ki_X6_hasRoomForPart ks_X6_hasRoomForPart ksg_X6_hasRoomForPart (m_X6_hasRoomForPart l G N0 _ _ _ hP) h5 (by decide) rfl rfl ⟨show 0 + 1 ≤ fr + 1 from by omega, show 8 + (1 + 11) + 0 ≤ lo + 39 from by omega⟩ (Nat.le_of_ble_eq_true rfl) ⟨Nat.le_of_ble_eq_true rfl, Nat.le_of_ble_eq_true rfl⟩ rfl dX2_readPart_14 (fun r3 σ3 hP => ?_)
    refine V_if_ne X (tgt := 22) dX2_readPart_17 (by decide) (fun h6 => ?_) (fun h6 => ?_)
    · have hP := hP.1 h6
      refine V_aload_n X dX2_readPart_22 rfl 1 rfl ?_
      obtain ⟨h7, hP⟩ := hP
      refine V_getr X kf_RX2_22 rfl h7 dX2_readPart_23 ?_
      obtain ⟨b4, h8, hP⟩ := hP
      refine V_dr0 h8 ?_
      obtain ⟨h9, hP⟩ := hP
      refine V_callV_i X [] kw_RX2_46 ki_X6_parts ks_X6_parts ksg_X6_parts (m_X6_parts l G N0 _ _ _ hP) h9 (by decide) rfl rfl ⟨show 0 + 1 ≤ fr + 1 from by omega, show 8 + (1 + 11) + 0 ≤ lo + 39 from by omega⟩ (Nat.le_of_ble_eq_true rfl) ⟨Nat.le_of_ble_eq_true rfl, Nat.le_of_ble_eq_true rfl⟩ rfl dX2_readPart_26 (fun r5 σ5 hP => ?_)
      refine V_istore_n X (lv' := [(3, .int r5), (2, .int r1), (0, .ref a0), (1, .int x1)]) dX2_readPart_29 rfl (by decide) rfl ?_
      refine V_aload_n X dX2_readPart_30 rfl 2 rfl ?_
      obtain ⟨h10, hP⟩ := hP
      refine V_getr X kf_RX2_22 rfl h10 dX2_readPart_31 ?_
      refine V_iload_n X dX2_readPart_34 rfl 1 rfl ?_
      obtain ⟨b6, h11, hP⟩ := hP
      refine V_dr1 h11 ?_
      obtain ⟨h12, hP⟩ := hP
      refine V_callV_v X [.int r1] kw_RX2_49 ki_X6_addPart ks_X6_addPart ksg_X6_addPart (m_X6_addPart l G N0 _ _ _ _ hP) h12 (by decide) rfl rfl ⟨show 0 + 1 ≤ fr + 1 from by omega, show 8 + (2 + 11) + 0 ≤ lo + 39 from by omega⟩ (Nat.le_of_ble_eq_true rfl) ⟨Nat.le_of_ble_eq_true rfl, Nat.le_of_ble_eq_true rfl⟩ rfl dX2_readPart_35 (fun σ7 hP => ?_)
      refine V_aload_n X dX2_readPart_38 rfl 2 rfl ?_
      obtain ⟨h13, hP⟩ := hP
      refine V_callV_v X [] kw_RX2_26 ki_X2_advance ks_X2_advance ksg_X2_advance (m_X2_advance l G N0 _ _ _ hP) h13 (by decide) rfl rfl ⟨show 1 + 1 ≤ fr + 1 from by omega, show 8 + (4 + 11) + 21 ≤ lo + 39 from by omega⟩ (Nat.le_of_ble_eq_true rfl) ⟨Nat.le_of_ble_eq_true rfl, Nat.le_of_ble_eq_true rfl⟩ rfl dX2_readPart_39 (fun σ8 hP => ?_)
      refine V_aload_n X dX2_readPart_42 rfl 2 rfl ?_
      refine V_bipush X (v := (123 : Int32)) dX2_readPart_43 (by decide) ?_
      obtain ⟨h14, hP⟩ := hP
      refine V_callV_i X [.int (123 : Int32)] kw_RX2_53 ki_X2_isSign ks_X2_isSign ksg_X2_isSign (m_X2_isSign l G N0 _ _ _ _ hP) h14 (by decide) rfl rfl ⟨show 1 + 1 ≤ fr + 1 from by omega, show 8 + (2 + 11) + 21 ≤ lo + 39 from by omega⟩ (Nat.le_of_ble_eq_true rfl) ⟨Nat.le_of_ble_eq_true rfl, Nat.le_of_ble_eq_true rfl⟩ rfl dX2_readPart_45 (fun r9 σ9 hP => ?_)
      refine V_if_ne X (tgt := 53) dX2_readPart_48 (by decide) (fun h15 => ?_) (fun h15 => ?_)
      · have hP := hP.1 h15
        refine V_iload_n X dX2_readPart_53 rfl 3 rfl ?_
        refine V_bipush X (v := (6 : Int32)) dX2_readPart_54 (by decide) ?_
        refine V_icmp_lt X (tgt := 61) dX2_readPart_56 (by decide) (fun h16 => ?_) (fun h16 => ?_)
        · have hP := hP.1 h16
          refine V_aload_n X dX2_readPart_61 rfl 2 rfl ?_
          obtain ⟨h17, hP⟩ := hP
          refine V_callV_v X [] kw_RX2_26 ki_X2_advance ks_X2_advance ksg_X2_advance (m_X2_advance l G N0 _ _ _ hP) h17 (by decide) rfl rfl ⟨show 1 + 1 ≤ fr + 1 from by omega, show 8 + (4 + 11) + 21 ≤ lo + 39 from by omega⟩ (Nat.le_of_ble_eq_true rfl) ⟨Nat.le_of_ble_eq_true rfl, Nat.le_of_ble_eq_true rfl⟩ rfl dX2_readPart_62 (fun σ10 hP => ?_)
          refine V_aload_n X dX2_readPart_65 rfl 2 rfl ?_
          refine V_iload_n X dX2_readPart_66 rfl 0 rfl ?_
          refine V_iload_n X dX2_readPart_67 rfl 3 rfl ?_
          refine V_iconst X (v := (1 : Int32)) dX2_readPart_68 (by decide) ?_
          refine V_iadd X dX2_readPart_69 ?_
          obtain ⟨h18, hP⟩ := hP
          refine V_callV_i X [.int r5, .int (x1 + (1 : Int32))] kw_RX2_57 ki_X2_readItems ks_X2_readItems ksg_X2_readItems (hX2_readItems _ _ _ _ _ hP) h18 (by decide) rfl rfl ⟨show fr + 1 ≤ fr + 1 from Nat.le_refl _, show 8 + (5 + 11) + lo ≤ lo + 39 from by omega⟩ (Nat.le_of_ble_eq_true rfl) ⟨Nat.le_of_ble_eq_true rfl, Nat.le_of_ble_eq_true rfl⟩ rfl dX2_readPart_70 (fun r11 σ11 hP => ?_)
          obtain ⟨h19, hP⟩ := hP
          exact V_iret X hr (Or.inr ⟨rfl, h19⟩) (Nat.le_of_ble_eq_true rfl) (Nat.le_of_ble_eq_true rfl) dX2_readPart_73 ⟨_, rfl, hP⟩
        · have hP := hP.2 h16
          refine V_iconst X (v := (0 : Int32)) dX2_readPart_59 (by decide) ?_
          exact V_iret X hr (Or.inr ⟨rfl, Or.inl rfl⟩) (Nat.le_of_ble_eq_true rfl) (Nat.le_of_ble_eq_true rfl) dX2_readPart_60 ⟨_, rfl, hP⟩
      · have hP := hP.2 h15
        refine V_iconst X (v := (1 : Int32)) dX2_readPart_51 (by decide) ?_
        exact V_iret X hr (Or.inr ⟨rfl, Or.inr rfl⟩) (Nat.le_of_ble_eq_true rfl) (Nat.le_of_ble_eq_true rfl) dX2_readPart_52 ⟨_, rfl, hP⟩
    · have hP := hP.2 h6
      refine V_iconst X (v := (0 : Int32)) dX2_readPart_20 (by decide) ?_
      exact V_iret X hr (Or.inr ⟨rfl, Or.inl rfl⟩) (Nat.le_of_ble_eq_true rfl) (Nat.le_of_ble_eq_true rfl) dX2_readPart_21 ⟨_, rfl, hP⟩
def O_X2_readItem (P_X2_readPart : Nat → Int32 → Hp → (Int32 → Hp → Prop) → Prop) (a0 : Nat) (x1 : Int32) (x2 : Int32) (σ : Hp) (post : Int32 → Hp → Prop) : Prop :=
  gk σ a0 = some (2, 0) ∧ P_X2_isWord a0 0 σ (fun (r1 : Int32) (σ1 : Hp) => (r1 = 0 → gk σ1 a0 = some (2, 0) ∧ P_X2_isWord a0 1 σ1 (fun (r2 : Int32) (σ2 : Hp) => (¬ r2 = 0 → gk σ2 a0 = some (2, 0) ∧ P_X2_advance a0 σ2 (fun (σ3 : Hp) => gk σ3 a0 = some (2, 0) ∧ P_X2_referenceHere a0 σ3 (fun (r4 : Int32) (σ4 : Hp) => (¬ r4 = (-1 : Int32) → gk σ4 a0 = some (2, 0) ∧ P_X2_advance a0 σ4 (fun (σ5 : Hp) => gk σ5 a0 = some (2, 0) ∧ (r2 = 0 → ∃ b6 : Nat, (gr σ5 a0 1) = some b6 ∧ gk σ5 b6 = some (6, 0) ∧ P_X6_parts b6 σ5 (fun (r7 : Int32) (σ7 : Hp) => gk σ7 b6 = some (6, 0) ∧ P_X6_addItem b6 x1 (2 : Int32) r4 r7 σ7 (fun (σ8 : Hp) => gk σ8 a0 = some (2, 0) ∧ P_X2_readPart a0 x2 σ8 (fun (r9 : Int32) (σ9 : Hp) => (r9 = 0 ∨ r9 = 1) ∧ post r9 σ9)))) ∧ (¬ (r2 = 0) → ∃ b10 : Nat, (gr σ5 a0 1) = some b10 ∧ gk σ5 b10 = some (6, 0) ∧ P_X6_parts b10 σ5 (fun (r11 : Int32) (σ11 : Hp) => gk σ11 b10 = some (6, 0) ∧ P_X6_addItem b10 x1 (1 : Int32) r4 r11 σ11 (fun (σ12 : Hp) => gk σ12 a0 = some (2, 0) ∧ P_X2_readPart a0 x2 σ12 (fun (r13 : Int32) (σ13 : Hp) => (r13 = 0 ∨ r13 = 1) ∧ post r13 σ13)))))) ∧ (r4 = (-1 : Int32) → post (0 : Int32) σ4)))) ∧ (r2 = 0 → gk σ2 a0 = some (2, 0) ∧ P_X2_isWord a0 2 σ2 (fun (r14 : Int32) (σ14 : Hp) => (¬ r14 = 0 → gk σ14 a0 = some (2, 0) ∧ P_X2_advance a0 σ14 (fun (σ15 : Hp) => gk σ15 a0 = some (2, 0) ∧ P_X2_referenceHere a0 σ15 (fun (r16 : Int32) (σ16 : Hp) => (¬ r16 = (-1 : Int32) → gk σ16 a0 = some (2, 0) ∧ P_X2_advance a0 σ16 (fun (σ17 : Hp) => gk σ17 a0 = some (2, 0) ∧ (r2 = 0 → ∃ b18 : Nat, (gr σ17 a0 1) = some b18 ∧ gk σ17 b18 = some (6, 0) ∧ P_X6_parts b18 σ17 (fun (r19 : Int32) (σ19 : Hp) => gk σ19 b18 = some (6, 0) ∧ P_X6_addItem b18 x1 (2 : Int32) r16 r19 σ19 (fun (σ20 : Hp) => gk σ20 a0 = some (2, 0) ∧ P_X2_readPart a0 x2 σ20 (fun (r21 : Int32) (σ21 : Hp) => (r21 = 0 ∨ r21 = 1) ∧ post r21 σ21)))) ∧ (¬ (r2 = 0) → ∃ b22 : Nat, (gr σ17 a0 1) = some b22 ∧ gk σ17 b22 = some (6, 0) ∧ P_X6_parts b22 σ17 (fun (r23 : Int32) (σ23 : Hp) => gk σ23 b22 = some (6, 0) ∧ P_X6_addItem b22 x1 (1 : Int32) r16 r23 σ23 (fun (σ24 : Hp) => gk σ24 a0 = some (2, 0) ∧ P_X2_readPart a0 x2 σ24 (fun (r25 : Int32) (σ25 : Hp) => (r25 = 0 ∨ r25 = 1) ∧ post r25 σ25)))))) ∧ (r16 = (-1 : Int32) → post (0 : Int32) σ16)))) ∧ (r14 = 0 → post (0 : Int32) σ14))))) ∧ (¬ (r1 = 0) → gk σ1 a0 = some (2, 0) ∧ ∃ b26 : Nat, (gr σ1 a0 1) = some b26 ∧ gk σ1 b26 = some (6, 0) ∧ P_X6_addItem b26 x1 (0 : Int32) (-1 : Int32) (-1 : Int32) σ1 (fun (σ27 : Hp) => gk σ27 a0 = some (2, 0) ∧ P_X2_advance a0 σ27 (fun (σ28 : Hp) => post (1 : Int32) σ28))))
set_option maxHeartbeats 2000000 in
set_option maxRecDepth 100000 in
theorem mO_X2_readItem (l : Launch) (G : GG) (N0 : Nat) {fr lo : Nat} (hfr : 20 ≤ fr) (hlo : 400 ≤ lo) (P_X2_readPart : Nat → Int32 → Hp → (Int32 → Hp → Prop) → Prop) (hX2_readPart : ∀ (a0 : Nat) (x1 : Int32) (σ : Hp) (post : Int32 → Hp → Prop), P_X2_readPart a0 x1 σ post → MM l G N0 yX2_readPart cX2_readPart 4 (some .boolean) fr lo 0 0 [.ref a0, .int x1] σ (pI post)) (a0 : Nat) (x1 : Int32) (x2 : Int32) (σ : Hp) (post : Int32 → Hp → Prop) (hP : O_X2_readItem P_X2_readPart a0 x1 x2 σ post) : MM l G N0 yX2_readItem cX2_readItem 5 (some .boolean) (fr + 1) (lo + 39) 0 0 [.ref a0, .int x1, .int x2] σ (pI post) := by
  refine MM.of (by decide) (Nat.le_of_ble_eq_true rfl) ?_
  intro p e s m args below meth c X hr hnm
  refine V.to (lv2 := [(0, .ref a0), (1, .int x1), (2, .int x2)]) [0, 1, 2] rfl rfl ?_
  unfold O_X2_readItem at hP
  refine V_aload_n X dX2_readItem_0 rfl 0 rfl ?_
  refine V_ldcS X (i := 0) X.2.2.2.2.2.2.1.2.2.2.1.1 dX2_readItem_1 ?_
  obtain ⟨h1, hP⟩ := hP
  refine V_callV_i X [.ref (G.2.2.1 0)] kw_RX2_66 ki_X2_isWord ks_X2_isWord ksg_X2_isWord (m_X2_isWord l G N0 _ _ _ _ hP) h1 (by decide) rfl rfl ⟨show 8 + 1 ≤ fr + 1 from by omega, show 8 + (3 + 11) + 300 ≤ lo + 39 from by omega⟩ (Nat.le_of_ble_eq_true rfl) ⟨Nat.le_of_ble_eq_true rfl, Nat.le_of_ble_eq_true rfl⟩ rfl dX2_readItem_3 (fun r1 σ1 hP => ?_)
  refine V_if_eq X (tgt := 26) dX2_readItem_6 (by decide) (fun h2 => ?_) (fun h2 => ?_)
  · have hP := hP.1 h2
    refine V_aload_n X dX2_readItem_26 rfl 0 rfl ?_
    refine V_ldcS X (i := 1) X.2.2.2.2.2.2.1.2.2.2.1.2.1 dX2_readItem_27 ?_
    obtain ⟨h3, hP⟩ := hP
    refine V_callV_i X [.ref (G.2.2.1 1)] kw_RX2_66 ki_X2_isWord ks_X2_isWord ksg_X2_isWord (m_X2_isWord l G N0 _ _ _ _ hP) h3 (by decide) rfl rfl ⟨show 8 + 1 ≤ fr + 1 from by omega, show 8 + (3 + 11) + 300 ≤ lo + 39 from by omega⟩ (Nat.le_of_ble_eq_true rfl) ⟨Nat.le_of_ble_eq_true rfl, Nat.le_of_ble_eq_true rfl⟩ rfl dX2_readItem_29 (fun r2 σ2 hP => ?_)
    refine V_istore_n X (lv' := [(3, .int r2), (0, .ref a0), (1, .int x1), (2, .int x2)]) dX2_readItem_32 rfl (by decide) rfl ?_
    refine V_iload_n X dX2_readItem_33 rfl 0 rfl ?_
    refine V_if_ne X (tgt := 48) dX2_readItem_34 (by decide) (fun h4 => ?_) (fun h4 => ?_)
    · have hP := hP.1 h4
      refine V_aload_n X dX2_readItem_48 rfl 1 rfl ?_
      obtain ⟨h5, hP⟩ := hP
      refine V_callV_v X [] kw_RX2_26 ki_X2_advance ks_X2_advance ksg_X2_advance (m_X2_advance l G N0 _ _ _ hP) h5 (by decide) rfl rfl ⟨show 1 + 1 ≤ fr + 1 from by omega, show 8 + (4 + 11) + 21 ≤ lo + 39 from by omega⟩ (Nat.le_of_ble_eq_true rfl) ⟨Nat.le_of_ble_eq_true rfl, Nat.le_of_ble_eq_true rfl⟩ rfl dX2_readItem_49 (fun σ3 hP => ?_)
      refine V_aload_n X dX2_readItem_52 rfl 1 rfl ?_
      obtain ⟨h6, hP⟩ := hP
      refine V_callV_i X [] kw_RX2_78 ki_X2_referenceHere ks_X2_referenceHere ksg_X2_referenceHere (m_X2_referenceHere l G N0 _ _ _ hP) h6 (by decide) rfl rfl ⟨show 1 + 1 ≤ fr + 1 from by omega, show 8 + (2 + 11) + 21 ≤ lo + 39 from by omega⟩ (Nat.le_of_ble_eq_true rfl) ⟨Nat.le_of_ble_eq_true rfl, Nat.le_of_ble_eq_true rfl⟩ rfl dX2_readItem_53 (fun r4 σ4 hP => ?_)
      refine V_istore X (lv' := [(4, .int r4), (3, .int r2), (0, .ref a0), (1, .int x1), (2, .int x2)]) dX2_readItem_56 (by decide) rfl ?_
      refine V_iload X dX2_readItem_58 0 rfl ?_
      refine V_iconst X (v := (-1 : Int32)) dX2_readItem_60 (by decide) ?_
      refine V_icmp_ne X (tgt := 66) dX2_readItem_61 (by decide) (fun h7 => ?_) (fun h7 => ?_)
      · have hP := hP.1 h7
        refine V_aload_n X dX2_readItem_66 rfl 2 rfl ?_
        obtain ⟨h8, hP⟩ := hP
        refine V_callV_v X [] kw_RX2_26 ki_X2_advance ks_X2_advance ksg_X2_advance (m_X2_advance l G N0 _ _ _ hP) h8 (by decide) rfl rfl ⟨show 1 + 1 ≤ fr + 1 from by omega, show 8 + (4 + 11) + 21 ≤ lo + 39 from by omega⟩ (Nat.le_of_ble_eq_true rfl) ⟨Nat.le_of_ble_eq_true rfl, Nat.le_of_ble_eq_true rfl⟩ rfl dX2_readItem_67 (fun σ5 hP => ?_)
        refine V_aload_n X dX2_readItem_70 rfl 2 rfl ?_
        obtain ⟨h9, hP⟩ := hP
        refine V_getr X kf_RX2_22 rfl h9 dX2_readItem_71 ?_
        refine V_iload_n X dX2_readItem_74 rfl 3 rfl ?_
        refine V_iload_n X dX2_readItem_75 rfl 1 rfl ?_
        refine V_if_eq X (tgt := 83) dX2_readItem_76 (by decide) (fun h10 => ?_) (fun h10 => ?_)
        · have hP := hP.1 h10
          refine V_iconst X (v := (2 : Int32)) dX2_readItem_83 (by decide) ?_
          refine V_iload X dX2_readItem_84 0 rfl ?_
          refine V_aload_n X dX2_readItem_86 rfl 2 rfl ?_
          refine V_getr X kf_RX2_22 rfl h9 dX2_readItem_87 ?_
          obtain ⟨b6, h11, hP⟩ := hP
          refine V_dr0 h11 ?_
          obtain ⟨h12, hP⟩ := hP
          refine V_callV_i X [] kw_RX2_46 ki_X6_parts ks_X6_parts ksg_X6_parts (m_X6_parts l G N0 _ _ _ hP) h12 (by decide) rfl rfl ⟨show 0 + 1 ≤ fr + 1 from by omega, show 8 + (1 + 11) + 0 ≤ lo + 39 from by omega⟩ (by simp only [List.map_cons, vcat]; exact Nat.le_of_ble_eq_true rfl) ⟨Nat.le_of_ble_eq_true rfl, Nat.le_of_ble_eq_true rfl⟩ rfl dX2_readItem_90 (fun r7 σ7 hP => ?_)
          refine V_dr4 h11 ?_
          obtain ⟨h13, hP⟩ := hP
          refine V_callV_v X [.int x1, .int (2 : Int32), .int r4, .int r7] kw_RX2_70 ki_X6_addItem ks_X6_addItem ksg_X6_addItem (m_X6_addItem l G N0 _ _ _ _ _ _ _ hP) h13 (by decide) rfl rfl ⟨show 0 + 1 ≤ fr + 1 from by omega, show 8 + (5 + 11) + 0 ≤ lo + 39 from by omega⟩ (Nat.le_of_ble_eq_true rfl) ⟨Nat.le_of_ble_eq_true rfl, Nat.le_of_ble_eq_true rfl⟩ rfl dX2_readItem_93 (fun σ8 hP => ?_)
          refine V_aload_n X dX2_readItem_96 rfl 2 rfl ?_
          refine V_iload_n X dX2_readItem_97 rfl 4 rfl ?_
          obtain ⟨h14, hP⟩ := hP
          refine V_callV_i X [.int x2] kw_RX2_29 ki_X2_readPart ks_X2_readPart ksg_X2_readPart (hX2_readPart _ _ _ _ hP) h14 (by decide) rfl rfl ⟨show fr + 1 ≤ fr + 1 from Nat.le_refl _, show 8 + (4 + 11) + lo ≤ lo + 39 from by omega⟩ (Nat.le_of_ble_eq_true rfl) ⟨Nat.le_of_ble_eq_true rfl, Nat.le_of_ble_eq_true rfl⟩ rfl dX2_readItem_98 (fun r9 σ9 hP => ?_)
          obtain ⟨h15, hP⟩ := hP
          exact V_iret X hr (Or.inr ⟨rfl, h15⟩) (Nat.le_of_ble_eq_true rfl) (Nat.le_of_ble_eq_true rfl) dX2_readItem_101 ⟨_, rfl, hP⟩
        · have hP := hP.2 h10
          refine V_iconst X (v := (1 : Int32)) dX2_readItem_79 (by decide) ?_
          refine V_goto X (tgt := 84) dX2_readItem_80 (by decide) ?_
          refine V_iload X dX2_readItem_84 0 rfl ?_
          refine V_aload_n X dX2_readItem_86 rfl 2 rfl ?_
          refine V_getr X kf_RX2_22 rfl h9 dX2_readItem_87 ?_
          obtain ⟨b10, h16, hP⟩ := hP
          refine V_dr0 h16 ?_
          obtain ⟨h17, hP⟩ := hP
          refine V_callV_i X [] kw_RX2_46 ki_X6_parts ks_X6_parts ksg_X6_parts (m_X6_parts l G N0 _ _ _ hP) h17 (by decide) rfl rfl ⟨show 0 + 1 ≤ fr + 1 from by omega, show 8 + (1 + 11) + 0 ≤ lo + 39 from by omega⟩ (by simp only [List.map_cons, vcat]; exact Nat.le_of_ble_eq_true rfl) ⟨Nat.le_of_ble_eq_true rfl, Nat.le_of_ble_eq_true rfl⟩ rfl dX2_readItem_90 (fun r11 σ11 hP => ?_)
          refine V_dr4 h16 ?_
          obtain ⟨h18, hP⟩ := hP
          refine V_callV_v X [.int x1, .int (1 : Int32), .int r4, .int r11] kw_RX2_70 ki_X6_addItem ks_X6_addItem ksg_X6_addItem (m_X6_addItem l G N0 _ _ _ _ _ _ _ hP) h18 (by decide) rfl rfl ⟨show 0 + 1 ≤ fr + 1 from by omega, show 8 + (5 + 11) + 0 ≤ lo + 39 from by omega⟩ (Nat.le_of_ble_eq_true rfl) ⟨Nat.le_of_ble_eq_true rfl, Nat.le_of_ble_eq_true rfl⟩ rfl dX2_readItem_93 (fun σ12 hP => ?_)
          refine V_aload_n X dX2_readItem_96 rfl 2 rfl ?_
          refine V_iload_n X dX2_readItem_97 rfl 4 rfl ?_
          obtain ⟨h19, hP⟩ := hP
          refine V_callV_i X [.int x2] kw_RX2_29 ki_X2_readPart ks_X2_readPart ksg_X2_readPart (hX2_readPart _ _ _ _ hP) h19 (by decide) rfl rfl ⟨show fr + 1 ≤ fr + 1 from Nat.le_refl _, show 8 + (4 + 11) + lo ≤ lo + 39 from by omega⟩ (Nat.le_of_ble_eq_true rfl) ⟨Nat.le_of_ble_eq_true rfl, Nat.le_of_ble_eq_true rfl⟩ rfl dX2_readItem_98 (fun r13 σ13 hP => ?_)
          obtain ⟨h20, hP⟩ := hP
          exact V_iret X hr (Or.inr ⟨rfl, h20⟩) (Nat.le_of_ble_eq_true rfl) (Nat.le_of_ble_eq_true rfl) dX2_readItem_101 ⟨_, rfl, hP⟩
      · have hP := hP.2 h7
        refine V_iconst X (v := (0 : Int32)) dX2_readItem_64 (by decide) ?_
        exact V_iret X hr (Or.inr ⟨rfl, Or.inl rfl⟩) (Nat.le_of_ble_eq_true rfl) (Nat.le_of_ble_eq_true rfl) dX2_readItem_65 ⟨_, rfl, hP⟩
    · have hP := hP.2 h4
      refine V_aload_n X dX2_readItem_37 rfl 1 rfl ?_
      refine V_ldcS X (i := 2) X.2.2.2.2.2.2.1.2.2.2.1.2.2 dX2_readItem_38 ?_
      obtain ⟨h21, hP⟩ := hP
      refine V_callV_i X [.ref (G.2.2.1 2)] kw_RX2_66 ki_X2_isWord ks_X2_isWord ksg_X2_isWord (m_X2_isWord l G N0 _ _ _ _ hP) h21 (by decide) rfl rfl ⟨show 8 + 1 ≤ fr + 1 from by omega, show 8 + (3 + 11) + 300 ≤ lo + 39 from by omega⟩ (Nat.le_of_ble_eq_true rfl) ⟨Nat.le_of_ble_eq_true rfl, Nat.le_of_ble_eq_true rfl⟩ rfl dX2_readItem_40 (fun r14 σ14 hP => ?_)
      refine V_if_ne X (tgt := 48) dX2_readItem_43 (by decide) (fun h22 => ?_) (fun h22 => ?_)
      · have hP := hP.1 h22
        refine V_aload_n X dX2_readItem_48 rfl 1 rfl ?_
        obtain ⟨h23, hP⟩ := hP
        refine V_callV_v X [] kw_RX2_26 ki_X2_advance ks_X2_advance ksg_X2_advance (m_X2_advance l G N0 _ _ _ hP) h23 (by decide) rfl rfl ⟨show 1 + 1 ≤ fr + 1 from by omega, show 8 + (4 + 11) + 21 ≤ lo + 39 from by omega⟩ (Nat.le_of_ble_eq_true rfl) ⟨Nat.le_of_ble_eq_true rfl, Nat.le_of_ble_eq_true rfl⟩ rfl dX2_readItem_49 (fun σ15 hP => ?_)
        refine V_aload_n X dX2_readItem_52 rfl 1 rfl ?_
        obtain ⟨h24, hP⟩ := hP
        refine V_callV_i X [] kw_RX2_78 ki_X2_referenceHere ks_X2_referenceHere ksg_X2_referenceHere (m_X2_referenceHere l G N0 _ _ _ hP) h24 (by decide) rfl rfl ⟨show 1 + 1 ≤ fr + 1 from by omega, show 8 + (2 + 11) + 21 ≤ lo + 39 from by omega⟩ (Nat.le_of_ble_eq_true rfl) ⟨Nat.le_of_ble_eq_true rfl, Nat.le_of_ble_eq_true rfl⟩ rfl dX2_readItem_53 (fun r16 σ16 hP => ?_)
        refine V_istore X (lv' := [(4, .int r16), (3, .int r2), (0, .ref a0), (1, .int x1), (2, .int x2)]) dX2_readItem_56 (by decide) rfl ?_
        refine V_iload X dX2_readItem_58 0 rfl ?_
        refine V_iconst X (v := (-1 : Int32)) dX2_readItem_60 (by decide) ?_
        refine V_icmp_ne X (tgt := 66) dX2_readItem_61 (by decide) (fun h25 => ?_) (fun h25 => ?_)
        · have hP := hP.1 h25
          refine V_aload_n X dX2_readItem_66 rfl 2 rfl ?_
          obtain ⟨h26, hP⟩ := hP
          refine V_callV_v X [] kw_RX2_26 ki_X2_advance ks_X2_advance ksg_X2_advance (m_X2_advance l G N0 _ _ _ hP) h26 (by decide) rfl rfl ⟨show 1 + 1 ≤ fr + 1 from by omega, show 8 + (4 + 11) + 21 ≤ lo + 39 from by omega⟩ (Nat.le_of_ble_eq_true rfl) ⟨Nat.le_of_ble_eq_true rfl, Nat.le_of_ble_eq_true rfl⟩ rfl dX2_readItem_67 (fun σ17 hP => ?_)
          refine V_aload_n X dX2_readItem_70 rfl 2 rfl ?_
          obtain ⟨h27, hP⟩ := hP
          refine V_getr X kf_RX2_22 rfl h27 dX2_readItem_71 ?_
          refine V_iload_n X dX2_readItem_74 rfl 3 rfl ?_
          refine V_iload_n X dX2_readItem_75 rfl 1 rfl ?_
          refine V_if_eq X (tgt := 83) dX2_readItem_76 (by decide) (fun h28 => ?_) (fun h28 => ?_)
          · have hP := hP.1 h28
            refine V_iconst X (v := (2 : Int32)) dX2_readItem_83 (by decide) ?_
            refine V_iload X dX2_readItem_84 0 rfl ?_
            refine V_aload_n X dX2_readItem_86 rfl 2 rfl ?_
            refine V_getr X kf_RX2_22 rfl h27 dX2_readItem_87 ?_
            obtain ⟨b18, h29, hP⟩ := hP
            refine V_dr0 h29 ?_
            obtain ⟨h30, hP⟩ := hP
            refine V_callV_i X [] kw_RX2_46 ki_X6_parts ks_X6_parts ksg_X6_parts (m_X6_parts l G N0 _ _ _ hP) h30 (by decide) rfl rfl ⟨show 0 + 1 ≤ fr + 1 from by omega, show 8 + (1 + 11) + 0 ≤ lo + 39 from by omega⟩ (by simp only [List.map_cons, vcat]; exact Nat.le_of_ble_eq_true rfl) ⟨Nat.le_of_ble_eq_true rfl, Nat.le_of_ble_eq_true rfl⟩ rfl dX2_readItem_90 (fun r19 σ19 hP => ?_)
            refine V_dr4 h29 ?_
            obtain ⟨h31, hP⟩ := hP
            refine V_callV_v X [.int x1, .int (2 : Int32), .int r16, .int r19] kw_RX2_70 ki_X6_addItem ks_X6_addItem ksg_X6_addItem (m_X6_addItem l G N0 _ _ _ _ _ _ _ hP) h31 (by decide) rfl rfl ⟨show 0 + 1 ≤ fr + 1 from by omega, show 8 + (5 + 11) + 0 ≤ lo + 39 from by omega⟩ (Nat.le_of_ble_eq_true rfl) ⟨Nat.le_of_ble_eq_true rfl, Nat.le_of_ble_eq_true rfl⟩ rfl dX2_readItem_93 (fun σ20 hP => ?_)
            refine V_aload_n X dX2_readItem_96 rfl 2 rfl ?_
            refine V_iload_n X dX2_readItem_97 rfl 4 rfl ?_
            obtain ⟨h32, hP⟩ := hP
            refine V_callV_i X [.int x2] kw_RX2_29 ki_X2_readPart ks_X2_readPart ksg_X2_readPart (hX2_readPart _ _ _ _ hP) h32 (by decide) rfl rfl ⟨show fr + 1 ≤ fr + 1 from Nat.le_refl _, show 8 + (4 + 11) + lo ≤ lo + 39 from by omega⟩ (Nat.le_of_ble_eq_true rfl) ⟨Nat.le_of_ble_eq_true rfl, Nat.le_of_ble_eq_true rfl⟩ rfl dX2_readItem_98 (fun r21 σ21 hP => ?_)
            obtain ⟨h33, hP⟩ := hP
            exact V_iret X hr (Or.inr ⟨rfl, h33⟩) (Nat.le_of_ble_eq_true rfl) (Nat.le_of_ble_eq_true rfl) dX2_readItem_101 ⟨_, rfl, hP⟩
          · have hP := hP.2 h28
            refine V_iconst X (v := (1 : Int32)) dX2_readItem_79 (by decide) ?_
            refine V_goto X (tgt := 84) dX2_readItem_80 (by decide) ?_
            refine V_iload X dX2_readItem_84 0 rfl ?_
            refine V_aload_n X dX2_readItem_86 rfl 2 rfl ?_
            refine V_getr X kf_RX2_22 rfl h27 dX2_readItem_87 ?_
            obtain ⟨b22, h34, hP⟩ := hP
            refine V_dr0 h34 ?_
            obtain ⟨h35, hP⟩ := hP
            refine V_callV_i X [] kw_RX2_46 ki_X6_parts ks_X6_parts ksg_X6_parts (m_X6_parts l G N0 _ _ _ hP) h35 (by decide) rfl rfl ⟨show 0 + 1 ≤ fr + 1 from by omega, show 8 + (1 + 11) + 0 ≤ lo + 39 from by omega⟩ (by simp only [List.map_cons, vcat]; exact Nat.le_of_ble_eq_true rfl) ⟨Nat.le_of_ble_eq_true rfl, Nat.le_of_ble_eq_true rfl⟩ rfl dX2_readItem_90 (fun r23 σ23 hP => ?_)
            refine V_dr4 h34 ?_
            obtain ⟨h36, hP⟩ := hP
            refine V_callV_v X [.int x1, .int (1 : Int32), .int r16, .int r23] kw_RX2_70 ki_X6_addItem ks_X6_addItem ksg_X6_addItem (m_X6_addItem l G N0 _ _ _ _ _ _ _ hP) h36 (by decide) rfl rfl ⟨show 0 + 1 ≤ fr + 1 from by omega, show 8 + (5 + 11) + 0 ≤ lo + 39 from by omega⟩ (Nat.le_of_ble_eq_true rfl) ⟨Nat.le_of_ble_eq_true rfl, Nat.le_of_ble_eq_true rfl⟩ rfl dX2_readItem_93 (fun σ24 hP => ?_)
            refine V_aload_n X dX2_readItem_96 rfl 2 rfl ?_
            refine V_iload_n X dX2_readItem_97 rfl 4 rfl ?_
            obtain ⟨h37, hP⟩ := hP
            refine V_callV_i X [.int x2] kw_RX2_29 ki_X2_readPart ks_X2_readPart ksg_X2_readPart (hX2_readPart _ _ _ _ hP) h37 (by decide) rfl rfl ⟨show fr + 1 ≤ fr + 1 from Nat.le_refl _, show 8 + (4 + 11) + lo ≤ lo + 39 from by omega⟩ (Nat.le_of_ble_eq_true rfl) ⟨Nat.le_of_ble_eq_true rfl, Nat.le_of_ble_eq_true rfl⟩ rfl dX2_readItem_98 (fun r25 σ25 hP => ?_)
            obtain ⟨h38, hP⟩ := hP
            exact V_iret X hr (Or.inr ⟨rfl, h38⟩) (Nat.le_of_ble_eq_true rfl) (Nat.le_of_ble_eq_true rfl) dX2_readItem_101 ⟨_, rfl, hP⟩
        · have hP := hP.2 h25
          refine V_iconst X (v := (0 : Int32)) dX2_readItem_64 (by decide) ?_
          exact V_iret X hr (Or.inr ⟨rfl, Or.inl rfl⟩) (Nat.le_of_ble_eq_true rfl) (Nat.le_of_ble_eq_true rfl) dX2_readItem_65 ⟨_, rfl, hP⟩
      · have hP := hP.2 h22
        refine V_iconst X (v := (0 : Int32)) dX2_readItem_46 (by decide) ?_
        exact V_iret X hr (Or.inr ⟨rfl, Or.inl rfl⟩) (Nat.le_of_ble_eq_true rfl) (Nat.le_of_ble_eq_true rfl) dX2_readItem_47 ⟨_, rfl, hP⟩
  · have hP := hP.2 h2
    refine V_aload_n X dX2_readItem_9 rfl 0 rfl ?_
    obtain ⟨h39, hP⟩ := hP
    refine V_getr X kf_RX2_22 rfl h39 dX2_readItem_10 ?_
    refine V_iload_n X dX2_readItem_13 rfl 1 rfl ?_
    refine V_iconst X (v := (0 : Int32)) dX2_readItem_14 (by decide) ?_
    refine V_iconst X (v := (-1 : Int32)) dX2_readItem_15 (by decide) ?_
    refine V_iconst X (v := (-1 : Int32)) dX2_readItem_16 (by decide) ?_
    obtain ⟨b26, h40, hP⟩ := hP
    refine V_dr4 h40 ?_
    obtain ⟨h41, hP⟩ := hP
    refine V_callV_v X [.int x1, .int (0 : Int32), .int (-1 : Int32), .int (-1 : Int32)] kw_RX2_70 ki_X6_addItem ks_X6_addItem ksg_X6_addItem (m_X6_addItem l G N0 _ _ _ _ _ _ _ hP) h41 (by decide) rfl rfl ⟨show 0 + 1 ≤ fr + 1 from by omega, show 8 + (5 + 11) + 0 ≤ lo + 39 from by omega⟩ (Nat.le_of_ble_eq_true rfl) ⟨Nat.le_of_ble_eq_true rfl, Nat.le_of_ble_eq_true rfl⟩ rfl dX2_readItem_17 (fun σ27 hP => ?_)
    refine V_aload_n X dX2_readItem_20 rfl 0 rfl ?_
    obtain ⟨h42, hP⟩ := hP
    refine V_callV_v X [] kw_RX2_26 ki_X2_advance ks_X2_advance ksg_X2_advance (m_X2_advance l G N0 _ _ _ hP) h42 (by decide) rfl rfl ⟨show 1 + 1 ≤ fr + 1 from by omega, show 8 + (4 + 11) + 21 ≤ lo + 39 from by omega⟩ (Nat.le_of_ble_eq_true rfl) ⟨Nat.le_of_ble_eq_true rfl, Nat.le_of_ble_eq_true rfl⟩ rfl dX2_readItem_21 (fun σ28 hP => ?_)
    refine V_iconst X (v := (1 : Int32)) dX2_readItem_24 (by decide) ?_
    exact V_iret X hr (Or.inr ⟨rfl, Or.inr rfl⟩) (Nat.le_of_ble_eq_true rfl) (Nat.le_of_ble_eq_true rfl) dX2_readItem_25 ⟨_, rfl, hP⟩
def PD_X2_readPart : Nat → Nat → Int32 → Hp → (Int32 → Hp → Prop) → Prop
  | 0 => fun _ _ _ _ => False
  | d + 1 => O_X2_readPart (O_X2_readItems (O_X2_readItem (PD_X2_readPart d)))
theorem mD_X2_readPart (l : Launch) (G : GG) (N0 : Nat) : ∀ (d : Nat) (a0 : Nat) (x1 : Int32) (σ : Hp) (post : Int32 → Hp → Prop), PD_X2_readPart d a0 x1 σ post → MM l G N0 yX2_readPart cX2_readPart 4 (some .boolean) (20 + 3 * d) (400 + 117 * d) 0 0 [.ref a0, .int x1] σ (pI post)
  | 0, _, _, _, _, h => h.elim
  | d + 1, a0, x1, σ, post, h => by
    have ih := mD_X2_readPart l G N0 d
    have h1 := mO_X2_readPart l G N0 (fr := 20 + 3 * d + 2) (lo := 400 + 117 * d + 78) (by omega) (by omega) (O_X2_readItems (O_X2_readItem (PD_X2_readPart d))) (mO_X2_readItems l G N0 (fr := 20 + 3 * d + 1) (lo := 400 + 117 * d + 39) (by omega) (by omega) (O_X2_readItem (PD_X2_readPart d)) (mO_X2_readItem l G N0 (fr := 20 + 3 * d) (lo := 400 + 117 * d) (by omega) (by omega) (PD_X2_readPart d) ih)) a0 x1 σ post h
    exact h1
def P_X2_readPart : Nat → Int32 → Hp → (Int32 → Hp → Prop) → Prop := PD_X2_readPart 9
theorem m_X2_readPart (l : Launch) (G : GG) (N0 : Nat) (a0 : Nat) (x1 : Int32) (σ : Hp) (post : Int32 → Hp → Prop) (hP : P_X2_readPart a0 x1 σ post) : MM l G N0 yX2_readPart cX2_readPart 4 (some .boolean) 47 1453 0 0 [.ref a0, .int x1] σ (pI post) := mD_X2_readPart l G N0 9 a0 x1 σ post hP
def P_X2_readText (a0 : Nat) (σ : Hp) (post : Int32 → Hp → Prop) : Prop :=
  gk σ a0 = some (2, 0) ∧ P_X2_advance a0 σ (fun (σ1 : Hp) => gk σ1 a0 = some (2, 0) ∧ P_X2_readPart a0 (0 : Int32) σ1 (fun (r2 : Int32) (σ2 : Hp) => (r2 = 0 → post (0 : Int32) σ2) ∧ (¬ (r2 = 0) → gk σ2 a0 = some (2, 0) ∧ P_X2_isAtEnd a0 σ2 (fun (r3 : Int32) (σ3 : Hp) => (r3 = 0 → post (0 : Int32) σ3) ∧ (¬ (r3 = 0) → post (1 : Int32) σ3)))))
set_option maxHeartbeats 2000000 in
set_option maxRecDepth 100000 in
theorem m_X2_readText (l : Launch) (G : GG) (N0 : Nat) (a0 : Nat) (σ : Hp) (post : Int32 → Hp → Prop) (hP : P_X2_readText a0 σ post) : MM l G N0 yX2_readText cX2_readText 1 (some .boolean) (48) (1476) 0 0 [.ref a0] σ (pI post) := by
  refine MM.of (by decide) (Nat.le_of_ble_eq_true rfl) ?_
  intro p e s m args below meth c X hr hnm
  refine V.to (lv2 := [(0, .ref a0)]) [0] rfl rfl ?_
  unfold P_X2_readText at hP
  refine V_aload_n X dX2_readText_0 rfl 0 rfl ?_
  obtain ⟨h1, hP⟩ := hP
  refine V_callV_v X [] kw_RX2_26 ki_X2_advance ks_X2_advance ksg_X2_advance (m_X2_advance l G N0 _ _ _ hP) h1 (by decide) rfl rfl ⟨Nat.le_of_ble_eq_true rfl, Nat.le_of_ble_eq_true rfl⟩ (Nat.le_of_ble_eq_true rfl) ⟨Nat.le_of_ble_eq_true rfl, Nat.le_of_ble_eq_true rfl⟩ rfl dX2_readText_1 (fun σ1 hP => ?_)
  refine V_aload_n X dX2_readText_4 rfl 0 rfl ?_
  refine V_iconst X (v := (0 : Int32)) dX2_readText_5 (by decide) ?_
  obtain ⟨h2, hP⟩ := hP
  refine V_callV_i X [.int (0 : Int32)] kw_RX2_29 ki_X2_readPart ks_X2_readPart ksg_X2_readPart (m_X2_readPart l G N0 _ _ _ _ hP) h2 (by decide) rfl rfl ⟨Nat.le_of_ble_eq_true rfl, Nat.le_of_ble_eq_true rfl⟩ (Nat.le_of_ble_eq_true rfl) ⟨Nat.le_of_ble_eq_true rfl, Nat.le_of_ble_eq_true rfl⟩ rfl dX2_readText_6 (fun r2 σ2 hP => ?_)
  refine V_if_eq X (tgt := 23) dX2_readText_9 (by decide) (fun h3 => ?_) (fun h3 => ?_)
  · have hP := hP.1 h3
    refine V_iconst X (v := (0 : Int32)) dX2_readText_23 (by decide) ?_
    exact V_iret X hr (Or.inr ⟨rfl, Or.inl rfl⟩) (Nat.le_of_ble_eq_true rfl) (Nat.le_of_ble_eq_true rfl) dX2_readText_24 ⟨_, rfl, hP⟩
  · have hP := hP.2 h3
    refine V_aload_n X dX2_readText_12 rfl 0 rfl ?_
    obtain ⟨h4, hP⟩ := hP
    refine V_callV_i X [] kw_RX2_33 ki_X2_isAtEnd ks_X2_isAtEnd ksg_X2_isAtEnd (m_X2_isAtEnd l G N0 _ _ _ hP) h4 (by decide) rfl rfl ⟨Nat.le_of_ble_eq_true rfl, Nat.le_of_ble_eq_true rfl⟩ (Nat.le_of_ble_eq_true rfl) ⟨Nat.le_of_ble_eq_true rfl, Nat.le_of_ble_eq_true rfl⟩ rfl dX2_readText_13 (fun r3 σ3 hP => ?_)
    refine V_if_eq X (tgt := 23) dX2_readText_16 (by decide) (fun h5 => ?_) (fun h5 => ?_)
    · have hP := hP.1 h5
      refine V_iconst X (v := (0 : Int32)) dX2_readText_23 (by decide) ?_
      exact V_iret X hr (Or.inr ⟨rfl, Or.inl rfl⟩) (Nat.le_of_ble_eq_true rfl) (Nat.le_of_ble_eq_true rfl) dX2_readText_24 ⟨_, rfl, hP⟩
    · have hP := hP.2 h5
      refine V_iconst X (v := (1 : Int32)) dX2_readText_19 (by decide) ?_
      refine V_goto X (tgt := 24) dX2_readText_20 (by decide) ?_
      exact V_iret X hr (Or.inr ⟨rfl, Or.inr rfl⟩) (Nat.le_of_ble_eq_true rfl) (Nat.le_of_ble_eq_true rfl) dX2_readText_24 ⟨_, rfl, hP⟩
def P_X3_init (a0 : Nat) (x1 : Int32) (σ : Hp) (post : Hp → Prop) : Prop :=
  ∀ q1 : Nat, gk σ q1 = none → P_X1_init q1 (nw σ q1 1 0) (fun (σ2 : Hp) => gk σ2 a0 = some (3, 0) ∧ post (si (sr σ2 a0 1 (some q1)) a0 0 x1))
set_option maxHeartbeats 2000000 in
set_option maxRecDepth 100000 in
theorem m_X3_init (l : Launch) (G : GG) (N0 : Nat) (a0 : Nat) (x1 : Int32) (σ : Hp) (post : Hp → Prop) (hP : P_X3_init a0 x1 σ post) : MM l G N0 yX3_init cX3_init 2 none (2) (40) 2 603 [.ref a0, .int x1] σ (pV post) := by
  refine MM.of (by decide) (Nat.le_of_ble_eq_true rfl) ?_
  intro p e s m args below meth c X hr hnm
  refine V.to (lv2 := [(0, .ref a0), (1, .int x1)]) [0, 1] rfl rfl ?_
  unfold P_X3_init at hP
  refine V_aload_n X dX3_init_0 rfl 0 rfl ?_
  refine V_objInit X kl_RX3_1 ko_inst ko_code (Nat.le_of_ble_eq_true rfl) ⟨Nat.le_of_ble_eq_true rfl, Nat.le_of_ble_eq_true rfl⟩ dX3_init_1 ?_
  refine V_aload_n X dX3_init_4 rfl 0 rfl ?_
  refine V_new X (t := 1) kp_RX3_7 (by decide) (by decide) dX3_init_5 (fun q1 h1 => ?_)
  have hP := hP q1 h1
  have h2 : gk (nw σ q1 1 0) q1 = _ := gk_new
  refine V_dup X dX3_init_8 rfl ?_
  refine V_callIN_v X [] kw_RX3_9 ki_X1_init rfl (m_X1_init l G N0 _ _ _ hP) rfl ⟨Nat.le_of_ble_eq_true rfl, Nat.le_of_ble_eq_true rfl⟩ (Nat.le_of_ble_eq_true rfl) ⟨Nat.le_of_ble_eq_true rfl, Nat.le_of_ble_eq_true rfl⟩ rfl dX3_init_9 (fun σ2 hP => ?_)
  obtain ⟨h3, hP⟩ := hP
  refine V_putr X (v := (some q1)) kf_RX3_10 (fun _ => ⟨hnm, rfl⟩) rfl h3 (Or.inl ⟨_, rfl⟩) dX3_init_12 ?_
  refine V_aload_n X dX3_init_15 rfl 0 rfl ?_
  refine V_iload_n X dX3_init_16 rfl 1 rfl ?_
  refine V_puti X kf_RX3_16 (fun _ => ⟨hnm, rfl⟩) rfl h3 (Or.inl rfl) dX3_init_17 ?_
  exact V_vret X hr (Nat.le_of_ble_eq_true rfl) (Nat.le_of_ble_eq_true rfl) dX3_init_20 ⟨rfl, hP⟩
def P_X4_init (a0 : Nat) (x1 : Int32) (x2 : Int32) (x3 : Int32) (x4 : Int32) (x5 : Int32) (x6 : Int32) (σ : Hp) (post : Hp → Prop) : Prop :=
  gk σ a0 = some (4, 0) ∧ (x6 = 0 ∨ x6 = 1) ∧ post (si (si (si (si (si (si σ a0 0 x1) a0 1 x2) a0 2 x3) a0 3 x4) a0 4 x5) a0 5 x6)
set_option maxHeartbeats 2000000 in
set_option maxRecDepth 100000 in
theorem m_X4_init (l : Launch) (G : GG) (N0 : Nat) (a0 : Nat) (x1 : Int32) (x2 : Int32) (x3 : Int32) (x4 : Int32) (x5 : Int32) (x6 : Int32) (σ : Hp) (post : Hp → Prop) (hP : P_X4_init a0 x1 x2 x3 x4 x5 x6 σ post) : MM l G N0 yX4_init cX4_init 7 none (1) (20) 0 0 [.ref a0, .int x1, .int x2, .int x3, .int x4, .int x5, .int x6] σ (pV post) := by
  refine MM.of (by decide) (Nat.le_of_ble_eq_true rfl) ?_
  intro p e s m args below meth c X hr hnm
  refine V.to (lv2 := [(0, .ref a0), (1, .int x1), (2, .int x2), (3, .int x3), (4, .int x4), (5, .int x5), (6, .int x6)]) [0, 1, 2, 3, 4, 5, 6] rfl rfl ?_
  unfold P_X4_init at hP
  refine V_aload_n X dX4_init_0 rfl 0 rfl ?_
  refine V_objInit X kl_RX4_1 ko_inst ko_code (Nat.le_of_ble_eq_true rfl) ⟨Nat.le_of_ble_eq_true rfl, Nat.le_of_ble_eq_true rfl⟩ dX4_init_1 ?_
  refine V_aload_n X dX4_init_4 rfl 0 rfl ?_
  refine V_iload_n X dX4_init_5 rfl 1 rfl ?_
  obtain ⟨h1, hP⟩ := hP
  refine V_puti X kf_RX4_7 (fun _ => ⟨hnm, rfl⟩) rfl h1 (Or.inl rfl) dX4_init_6 ?_
  refine V_aload_n X dX4_init_9 rfl 0 rfl ?_
  refine V_iload_n X dX4_init_10 rfl 2 rfl ?_
  refine V_puti X kf_RX4_13 (fun _ => ⟨hnm, rfl⟩) rfl h1 (Or.inl rfl) dX4_init_11 ?_
  refine V_aload_n X dX4_init_14 rfl 0 rfl ?_
  refine V_iload_n X dX4_init_15 rfl 3 rfl ?_
  refine V_puti X kf_RX4_16 (fun _ => ⟨hnm, rfl⟩) rfl h1 (Or.inl rfl) dX4_init_16 ?_
  refine V_aload_n X dX4_init_19 rfl 0 rfl ?_
  refine V_iload X dX4_init_20 4 rfl ?_
  refine V_puti X kf_RX4_19 (fun _ => ⟨hnm, rfl⟩) rfl h1 (Or.inl rfl) dX4_init_22 ?_
  refine V_aload_n X dX4_init_25 rfl 0 rfl ?_
  refine V_iload X dX4_init_26 5 rfl ?_
  refine V_puti X kf_RX4_22 (fun _ => ⟨hnm, rfl⟩) rfl h1 (Or.inl rfl) dX4_init_28 ?_
  refine V_aload_n X dX4_init_31 rfl 0 rfl ?_
  refine V_iload X dX4_init_32 6 rfl ?_
  obtain ⟨h2, hP⟩ := hP
  refine V_puti X kf_RX4_25 (fun _ => ⟨hnm, rfl⟩) rfl h1 (Or.inr ⟨rfl, h2⟩) dX4_init_34 ?_
  exact V_vret X hr (Nat.le_of_ble_eq_true rfl) (Nat.le_of_ble_eq_true rfl) dX4_init_37 ⟨rfl, hP⟩
def P_X4_gone (a0 : Nat) (σ : Hp) (post : Option Nat → Hp → Prop) : Prop :=
  ∀ q1 : Nat, gk σ q1 = none → gk (nw σ q1 4 0) a0 = some (4, 0) ∧ P_X4_init q1 (gi (nw σ q1 4 0) a0 0) (gi (nw σ q1 4 0) a0 1) (gi (nw σ q1 4 0) a0 2) (gi (nw σ q1 4 0) a0 3) (gi (nw σ q1 4 0) a0 4) (0 : Int32) (nw σ q1 4 0) (fun (σ2 : Hp) => post (some q1) σ2)
set_option maxHeartbeats 2000000 in
set_option maxRecDepth 100000 in
theorem m_X4_gone (l : Launch) (G : GG) (N0 : Nat) (a0 : Nat) (σ : Hp) (post : Option Nat → Hp → Prop) (hP : P_X4_gone a0 σ post) : MM l G N0 yX4_gone cX4_gone 1 (some (.object "PaperRows$Row")) (2) (46) 1 6 [.ref a0] σ (pR post) := by
  refine MM.of (by decide) (Nat.le_of_ble_eq_true rfl) ?_
  intro p e s m args below meth c X hr hnm
  refine V.to (lv2 := [(0, .ref a0)]) [0] rfl rfl ?_
  unfold P_X4_gone at hP
  refine V_new X (t := 4) kp_RX4_8 (by decide) (by decide) dX4_gone_0 (fun q1 h1 => ?_)
  have hP := hP q1 h1
  have h2 : gk (nw σ q1 4 0) q1 = _ := gk_new
  refine V_dup X dX4_gone_3 rfl ?_
  refine V_aload_n X dX4_gone_4 rfl 0 rfl ?_
  obtain ⟨h3, hP⟩ := hP
  refine V_geti X kf_RX4_7 rfl h3 dX4_gone_5 ?_
  refine V_aload_n X dX4_gone_8 rfl 0 rfl ?_
  refine V_geti X kf_RX4_13 rfl h3 dX4_gone_9 ?_
  refine V_aload_n X dX4_gone_12 rfl 0 rfl ?_
  refine V_geti X kf_RX4_16 rfl h3 dX4_gone_13 ?_
  refine V_aload_n X dX4_gone_16 rfl 0 rfl ?_
  refine V_geti X kf_RX4_19 rfl h3 dX4_gone_17 ?_
  refine V_aload_n X dX4_gone_20 rfl 0 rfl ?_
  refine V_geti X kf_RX4_22 rfl h3 dX4_gone_21 ?_
  refine V_iconst X (v := (0 : Int32)) dX4_gone_24 (by decide) ?_
  refine V_callI_v X [.int (gi (nw σ q1 4 0) a0 0), .int (gi (nw σ q1 4 0) a0 1), .int (gi (nw σ q1 4 0) a0 2), .int (gi (nw σ q1 4 0) a0 3), .int (gi (nw σ q1 4 0) a0 4), .int (0 : Int32)] kw_RX4_29 ki_X4_init rfl (m_X4_init l G N0 _ _ _ _ _ _ _ _ _ hP) rfl ⟨Nat.le_of_ble_eq_true rfl, Nat.le_of_ble_eq_true rfl⟩ (Nat.le_of_ble_eq_true rfl) ⟨Nat.le_of_ble_eq_true rfl, Nat.le_of_ble_eq_true rfl⟩ rfl dX4_gone_25 (fun σ2 hP => ?_)
  exact V_aret X (v := (some q1)) hr (Or.inl ⟨_, rfl⟩) (Nat.le_of_ble_eq_true rfl) (Nat.le_of_ble_eq_true rfl) dX4_gone_28 ⟨_, rfl, hP⟩
def P_X4_withReference (a0 : Nat) (x1 : Int32) (x2 : Int32) (σ : Hp) (post : Option Nat → Hp → Prop) : Prop :=
  ∀ q1 : Nat, gk σ q1 = none → gk (nw σ q1 4 0) a0 = some (4, 0) ∧ (¬ x1 = 0 → (¬ x1 = (1 : Int32) → P_X4_init q1 (gi (nw σ q1 4 0) a0 0) (gi (nw σ q1 4 0) a0 1) (gi (nw σ q1 4 0) a0 2) (gi (nw σ q1 4 0) a0 3) (gi (nw σ q1 4 0) a0 4) (gi (nw σ q1 4 0) a0 5) (nw σ q1 4 0) (fun (σ2 : Hp) => post (some q1) σ2)) ∧ (x1 = (1 : Int32) → P_X4_init q1 (gi (nw σ q1 4 0) a0 0) (gi (nw σ q1 4 0) a0 1) (gi (nw σ q1 4 0) a0 2) (gi (nw σ q1 4 0) a0 3) x2 (gi (nw σ q1 4 0) a0 5) (nw σ q1 4 0) (fun (σ3 : Hp) => post (some q1) σ3))) ∧ (x1 = 0 → (¬ x1 = (1 : Int32) → P_X4_init q1 (gi (nw σ q1 4 0) a0 0) (gi (nw σ q1 4 0) a0 1) (gi (nw σ q1 4 0) a0 2) x2 (gi (nw σ q1 4 0) a0 4) (gi (nw σ q1 4 0) a0 5) (nw σ q1 4 0) (fun (σ4 : Hp) => post (some q1) σ4)) ∧ (x1 = (1 : Int32) → P_X4_init q1 (gi (nw σ q1 4 0) a0 0) (gi (nw σ q1 4 0) a0 1) (gi (nw σ q1 4 0) a0 2) x2 x2 (gi (nw σ q1 4 0) a0 5) (nw σ q1 4 0) (fun (σ5 : Hp) => post (some q1) σ5)))
set_option maxHeartbeats 2000000 in
set_option maxRecDepth 100000 in
theorem m_X4_withReference (l : Launch) (G : GG) (N0 : Nat) (a0 : Nat) (x1 : Int32) (x2 : Int32) (σ : Hp) (post : Option Nat → Hp → Prop) (hP : P_X4_withReference a0 x1 x2 σ post) : MM l G N0 yX4_withReference cX4_withReference 3 (some (.object "PaperRows$Row")) (2) (46) 1 6 [.ref a0, .int x1, .int x2] σ (pR post) := by
  refine MM.of (by decide) (Nat.le_of_ble_eq_true rfl) ?_
  intro p e s m args below meth c X hr hnm
  refine V.to (lv2 := [(0, .ref a0), (1, .int x1), (2, .int x2)]) [0, 1, 2] rfl rfl ?_
  unfold P_X4_withReference at hP
  refine V_new X (t := 4) kp_RX4_8 (by decide) (by decide) dX4_withReference_0 (fun q1 h1 => ?_)
  have hP := hP q1 h1
  have h2 : gk (nw σ q1 4 0) q1 = _ := gk_new
  refine V_dup X dX4_withReference_3 rfl ?_
  refine V_aload_n X dX4_withReference_4 rfl 0 rfl ?_
  obtain ⟨h3, hP⟩ := hP
  refine V_geti X kf_RX4_7 rfl h3 dX4_withReference_5 ?_
  refine V_aload_n X dX4_withReference_8 rfl 0 rfl ?_
  refine V_geti X kf_RX4_13 rfl h3 dX4_withReference_9 ?_
  refine V_aload_n X dX4_withReference_12 rfl 0 rfl ?_
  refine V_geti X kf_RX4_16 rfl h3 dX4_withReference_13 ?_
  refine V_iload_n X dX4_withReference_16 rfl 1 rfl ?_
  refine V_if_ne X (tgt := 24) dX4_withReference_17 (by decide) (fun h4 => ?_) (fun h4 => ?_)
  · have hP := hP.1 h4
    refine V_aload_n X dX4_withReference_24 rfl 0 rfl ?_
    refine V_geti X kf_RX4_19 rfl h3 dX4_withReference_25 ?_
    refine V_iload_n X dX4_withReference_28 rfl 1 rfl ?_
    refine V_iconst X (v := (1 : Int32)) dX4_withReference_29 (by decide) ?_
    refine V_icmp_ne X (tgt := 37) dX4_withReference_30 (by decide) (fun h5 => ?_) (fun h5 => ?_)
    · have hP := hP.1 h5
      refine V_aload_n X dX4_withReference_37 rfl 0 rfl ?_
      refine V_geti X kf_RX4_22 rfl h3 dX4_withReference_38 ?_
      refine V_aload_n X dX4_withReference_41 rfl 0 rfl ?_
      refine V_geti X kf_RX4_25 rfl h3 dX4_withReference_42 ?_
      refine V_callI_v X [.int (gi (nw σ q1 4 0) a0 0), .int (gi (nw σ q1 4 0) a0 1), .int (gi (nw σ q1 4 0) a0 2), .int (gi (nw σ q1 4 0) a0 3), .int (gi (nw σ q1 4 0) a0 4), .int (gi (nw σ q1 4 0) a0 5)] kw_RX4_29 ki_X4_init rfl (m_X4_init l G N0 _ _ _ _ _ _ _ _ _ hP) rfl ⟨Nat.le_of_ble_eq_true rfl, Nat.le_of_ble_eq_true rfl⟩ (Nat.le_of_ble_eq_true rfl) ⟨Nat.le_of_ble_eq_true rfl, Nat.le_of_ble_eq_true rfl⟩ rfl dX4_withReference_45 (fun σ2 hP => ?_)
      exact V_aret X (v := (some q1)) hr (Or.inl ⟨_, rfl⟩) (Nat.le_of_ble_eq_true rfl) (Nat.le_of_ble_eq_true rfl) dX4_withReference_48 ⟨_, rfl, hP⟩
    · have hP := hP.2 h5
      refine V_iload_n X dX4_withReference_33 rfl 2 rfl ?_
      refine V_goto X (tgt := 41) dX4_withReference_34 (by decide) ?_
      refine V_aload_n X dX4_withReference_41 rfl 0 rfl ?_
      refine V_geti X kf_RX4_25 rfl h3 dX4_withReference_42 ?_
      refine V_callI_v X [.int (gi (nw σ q1 4 0) a0 0), .int (gi (nw σ q1 4 0) a0 1), .int (gi (nw σ q1 4 0) a0 2), .int (gi (nw σ q1 4 0) a0 3), .int x2, .int (gi (nw σ q1 4 0) a0 5)] kw_RX4_29 ki_X4_init rfl (m_X4_init l G N0 _ _ _ _ _ _ _ _ _ hP) rfl ⟨Nat.le_of_ble_eq_true rfl, Nat.le_of_ble_eq_true rfl⟩ (Nat.le_of_ble_eq_true rfl) ⟨Nat.le_of_ble_eq_true rfl, Nat.le_of_ble_eq_true rfl⟩ rfl dX4_withReference_45 (fun σ3 hP => ?_)
      exact V_aret X (v := (some q1)) hr (Or.inl ⟨_, rfl⟩) (Nat.le_of_ble_eq_true rfl) (Nat.le_of_ble_eq_true rfl) dX4_withReference_48 ⟨_, rfl, hP⟩
  · have hP := hP.2 h4
    refine V_iload_n X dX4_withReference_20 rfl 2 rfl ?_
    refine V_goto X (tgt := 28) dX4_withReference_21 (by decide) ?_
    refine V_iload_n X dX4_withReference_28 rfl 1 rfl ?_
    refine V_iconst X (v := (1 : Int32)) dX4_withReference_29 (by decide) ?_
    refine V_icmp_ne X (tgt := 37) dX4_withReference_30 (by decide) (fun h6 => ?_) (fun h6 => ?_)
    · have hP := hP.1 h6
      refine V_aload_n X dX4_withReference_37 rfl 0 rfl ?_
      refine V_geti X kf_RX4_22 rfl h3 dX4_withReference_38 ?_
      refine V_aload_n X dX4_withReference_41 rfl 0 rfl ?_
      refine V_geti X kf_RX4_25 rfl h3 dX4_withReference_42 ?_
      refine V_callI_v X [.int (gi (nw σ q1 4 0) a0 0), .int (gi (nw σ q1 4 0) a0 1), .int (gi (nw σ q1 4 0) a0 2), .int x2, .int (gi (nw σ q1 4 0) a0 4), .int (gi (nw σ q1 4 0) a0 5)] kw_RX4_29 ki_X4_init rfl (m_X4_init l G N0 _ _ _ _ _ _ _ _ _ hP) rfl ⟨Nat.le_of_ble_eq_true rfl, Nat.le_of_ble_eq_true rfl⟩ (Nat.le_of_ble_eq_true rfl) ⟨Nat.le_of_ble_eq_true rfl, Nat.le_of_ble_eq_true rfl⟩ rfl dX4_withReference_45 (fun σ4 hP => ?_)
      exact V_aret X (v := (some q1)) hr (Or.inl ⟨_, rfl⟩) (Nat.le_of_ble_eq_true rfl) (Nat.le_of_ble_eq_true rfl) dX4_withReference_48 ⟨_, rfl, hP⟩
    · have hP := hP.2 h6
      refine V_iload_n X dX4_withReference_33 rfl 2 rfl ?_
      refine V_goto X (tgt := 41) dX4_withReference_34 (by decide) ?_
      refine V_aload_n X dX4_withReference_41 rfl 0 rfl ?_
      refine V_geti X kf_RX4_25 rfl h3 dX4_withReference_42 ?_
      refine V_callI_v X [.int (gi (nw σ q1 4 0) a0 0), .int (gi (nw σ q1 4 0) a0 1), .int (gi (nw σ q1 4 0) a0 2), .int x2, .int x2, .int (gi (nw σ q1 4 0) a0 5)] kw_RX4_29 ki_X4_init rfl (m_X4_init l G N0 _ _ _ _ _ _ _ _ _ hP) rfl ⟨Nat.le_of_ble_eq_true rfl, Nat.le_of_ble_eq_true rfl⟩ (Nat.le_of_ble_eq_true rfl) ⟨Nat.le_of_ble_eq_true rfl, Nat.le_of_ble_eq_true rfl⟩ rfl dX4_withReference_45 (fun σ5 hP => ?_)
      exact V_aret X (v := (some q1)) hr (Or.inl ⟨_, rfl⟩) (Nat.le_of_ble_eq_true rfl) (Nat.le_of_ble_eq_true rfl) dX4_withReference_48 ⟨_, rfl, hP⟩
def P_X4_withValue (a0 : Nat) (x1 : Int32) (σ : Hp) (post : Option Nat → Hp → Prop) : Prop :=
  ∀ q1 : Nat, gk σ q1 = none → gk (nw σ q1 4 0) a0 = some (4, 0) ∧ P_X4_init q1 (gi (nw σ q1 4 0) a0 0) (gi (nw σ q1 4 0) a0 1) x1 (gi (nw σ q1 4 0) a0 3) (gi (nw σ q1 4 0) a0 4) (gi (nw σ q1 4 0) a0 5) (nw σ q1 4 0) (fun (σ2 : Hp) => post (some q1) σ2)
set_option maxHeartbeats 2000000 in
set_option maxRecDepth 100000 in
theorem m_X4_withValue (l : Launch) (G : GG) (N0 : Nat) (a0 : Nat) (x1 : Int32) (σ : Hp) (post : Option Nat → Hp → Prop) (hP : P_X4_withValue a0 x1 σ post) : MM l G N0 yX4_withValue cX4_withValue 2 (some (.object "PaperRows$Row")) (2) (46) 1 6 [.ref a0, .int x1] σ (pR post) := by
  refine MM.of (by decide) (Nat.le_of_ble_eq_true rfl) ?_
  intro p e s m args below meth c X hr hnm
  refine V.to (lv2 := [(0, .ref a0), (1, .int x1)]) [0, 1] rfl rfl ?_
  unfold P_X4_withValue at hP
  refine V_new X (t := 4) kp_RX4_8 (by decide) (by decide) dX4_withValue_0 (fun q1 h1 => ?_)
  have hP := hP q1 h1
  have h2 : gk (nw σ q1 4 0) q1 = _ := gk_new
  refine V_dup X dX4_withValue_3 rfl ?_
  refine V_aload_n X dX4_withValue_4 rfl 0 rfl ?_
  obtain ⟨h3, hP⟩ := hP
  refine V_geti X kf_RX4_7 rfl h3 dX4_withValue_5 ?_
  refine V_aload_n X dX4_withValue_8 rfl 0 rfl ?_
  refine V_geti X kf_RX4_13 rfl h3 dX4_withValue_9 ?_
  refine V_iload_n X dX4_withValue_12 rfl 1 rfl ?_
  refine V_aload_n X dX4_withValue_13 rfl 0 rfl ?_
  refine V_geti X kf_RX4_19 rfl h3 dX4_withValue_14 ?_
  refine V_aload_n X dX4_withValue_17 rfl 0 rfl ?_
  refine V_geti X kf_RX4_22 rfl h3 dX4_withValue_18 ?_
  refine V_aload_n X dX4_withValue_21 rfl 0 rfl ?_
  refine V_geti X kf_RX4_25 rfl h3 dX4_withValue_22 ?_
  refine V_callI_v X [.int (gi (nw σ q1 4 0) a0 0), .int (gi (nw σ q1 4 0) a0 1), .int x1, .int (gi (nw σ q1 4 0) a0 3), .int (gi (nw σ q1 4 0) a0 4), .int (gi (nw σ q1 4 0) a0 5)] kw_RX4_29 ki_X4_init rfl (m_X4_init l G N0 _ _ _ _ _ _ _ _ _ hP) rfl ⟨Nat.le_of_ble_eq_true rfl, Nat.le_of_ble_eq_true rfl⟩ (Nat.le_of_ble_eq_true rfl) ⟨Nat.le_of_ble_eq_true rfl, Nat.le_of_ble_eq_true rfl⟩ rfl dX4_withValue_25 (fun σ2 hP => ?_)
  exact V_aret X (v := (some q1)) hr (Or.inl ⟨_, rfl⟩) (Nat.le_of_ble_eq_true rfl) (Nat.le_of_ble_eq_true rfl) dX4_withValue_28 ⟨_, rfl, hP⟩
def F_X5_clear_2 (a0 : Nat) (post : Hp → Prop) (I2 : Int32 → Hp → Prop) (v1 : Int32) (σ2 : Hp) : Prop :=
  gk σ2 a0 = some (5, 0) ∧ ∃ b201 : Nat, (gr σ2 a0 0) = some b201 ∧ ∃ n202 : Nat, gk σ2 b201 = some (13, n202) ∧ ((Int32.ofNat n202) ≤ v1 → post (si σ2 a0 1 (0 : Int32))) ∧ (¬ ((Int32.ofNat n202) ≤ v1) → vp_in v1 n202 ∧ I2 (v1 + (1 : Int32)) (sr σ2 b201 (Int32.toNatClampNeg v1) (none : Option Nat)))
def P_X5_clear (a0 : Nat) (σ : Hp) (post : Hp → Prop) : Prop :=
  lfp1 (F_X5_clear_2 a0 post) (0 : Int32) σ
set_option maxHeartbeats 2000000 in
set_option maxRecDepth 100000 in
theorem m_X5_clear (l : Launch) (G : GG) (N0 : Nat) (a0 : Nat) (σ : Hp) (post : Hp → Prop) (hP : P_X5_clear a0 σ post) : MM l G N0 yX5_clear cX5_clear 2 none (0) (0) 0 0 [.ref a0] σ (pV post) := by
  refine MM.of (by decide) (Nat.le_of_ble_eq_true rfl) ?_
  intro p e s m args below meth c X hr hnm
  refine V.to (lv2 := [(0, .ref a0)]) [0] rfl rfl ?_
  unfold P_X5_clear at hP
  refine V_iconst X (v := (0 : Int32)) dX5_clear_0 (by decide) ?_
  refine V_istore_n X (lv' := [(1, .int (0 : Int32)), (0, .ref a0)]) dX5_clear_1 rfl (by decide) rfl ?_
  refine V.to (lv2 := [(0, .ref a0), (1, .int (0 : Int32))]) [1, 0] rfl rfl ?_
  refine lfp1_use (fun v1 σ2 => V p l e { frames := 0, cells := 0, slots := 0, locals := 0 } s m args below meth c (MQ below (QC G N0 (pV post)) args s 0 0 (AN N0)) G N0 2 σ2 0 0 2 [(0, .ref a0), (1, .int v1)] []) hP ?_
  intro v1 σ2 hP
  unfold F_X5_clear_2 at hP
  refine V_iload_n X dX5_clear_2 rfl 1 rfl ?_
  refine V_aload_n X dX5_clear_3 rfl 0 rfl ?_
  obtain ⟨h2001, hP⟩ := hP
  refine V_getr X kf_RX5_11 rfl h2001 dX5_clear_4 ?_
  obtain ⟨b201, h2002, hP⟩ := hP
  refine V_dr0 h2002 ?_
  obtain ⟨n202, h2003, hP⟩ := hP
  refine V_alen X (Or.inr (Or.inr (Or.inr rfl))) h2003 dX5_clear_7 ?_
  refine V_icmp_ge X (tgt := 24) dX5_clear_8 (by decide) (fun h2004 => ?_) (fun h2004 => ?_)
  · have hP := hP.1 h2004
    refine V_aload_n X dX5_clear_24 rfl 0 rfl ?_
    refine V_iconst X (v := (0 : Int32)) dX5_clear_25 (by decide) ?_
    refine V_puti X kf_RX5_17 (fun h => by cases h) rfl h2001 (Or.inl rfl) dX5_clear_26 ?_
    exact V_vret X hr (Nat.le_of_ble_eq_true rfl) (Nat.le_of_ble_eq_true rfl) dX5_clear_29 ⟨rfl, hP⟩
  · have hP := hP.2 h2004
    refine V_aload_n X dX5_clear_11 rfl 0 rfl ?_
    refine V_getr X kf_RX5_11 rfl h2001 dX5_clear_12 ?_
    refine V_iload_n X dX5_clear_15 rfl 1 rfl ?_
    refine V_null X dX5_clear_16 ?_
    refine V_dr2 h2002 ?_
    obtain ⟨h2005, hP⟩ := hP
    refine V_aast X (x := (none : Option Nat)) (Or.inr ⟨rfl, rfl⟩) h2003 h2005 (fun _ h => by cases h) dX5_clear_17 ?_
    refine V_iinc X (v := (v1 + (1 : Int32))) (lv' := [(1, .int (v1 + (1 : Int32))), (0, .ref a0)]) dX5_clear_18 1 rfl rfl (by decide) rfl ?_
    refine V_goto X (tgt := 2) dX5_clear_21 (by decide) ?_
    exact V.to [1, 0] rfl rfl hP
def P_X5_init (a0 : Nat) (σ : Hp) (post : Hp → Prop) : Prop :=
  ∀ q1 : Nat, gk σ q1 = none → gk (nw σ q1 13 60) a0 = some (5, 0) ∧ post (si (sr (nw σ q1 13 60) a0 0 (some q1)) a0 1 (0 : Int32))
set_option maxHeartbeats 2000000 in
set_option maxRecDepth 100000 in
theorem m_X5_init (l : Launch) (G : GG) (N0 : Nat) (a0 : Nat) (σ : Hp) (post : Hp → Prop) (hP : P_X5_init a0 σ post) : MM l G N0 yX5_init cX5_init 1 none (1) (20) 1 60 [.ref a0] σ (pV post) := by
  refine MM.of (by decide) (Nat.le_of_ble_eq_true rfl) ?_
  intro p e s m args below meth c X hr hnm
  refine V.to (lv2 := [(0, .ref a0)]) [0] rfl rfl ?_
  unfold P_X5_init at hP
  refine V_aload_n X dX5_init_0 rfl 0 rfl ?_
  refine V_objInit X kl_RX5_3 ko_inst ko_code (Nat.le_of_ble_eq_true rfl) ⟨Nat.le_of_ble_eq_true rfl, Nat.le_of_ble_eq_true rfl⟩ dX5_init_1 ?_
  refine V_aload_n X dX5_init_4 rfl 0 rfl ?_
  refine V_bipush X (v := (60 : Int32)) dX5_init_5 (by decide) ?_
  refine V_newq X (N := 60) (t := 13) (Or.inr ⟨rfl, rfl⟩) kq_RX5_9 (by decide) (by decide) (by decide) (Nat.le_of_ble_eq_true rfl) (Nat.le_of_ble_eq_true rfl) dX5_init_7 (fun q1 h1 => ?_)
  have hP := hP q1 h1
  have h2 : gk (nw σ q1 13 60) q1 = _ := gk_new
  obtain ⟨h3, hP⟩ := hP
  refine V_putr X (v := (some q1)) kf_RX5_11 (fun _ => ⟨hnm, rfl⟩) rfl h3 (Or.inr ⟨_, rfl⟩) dX5_init_10 ?_
  refine V_aload_n X dX5_init_13 rfl 0 rfl ?_
  refine V_iconst X (v := (0 : Int32)) dX5_init_14 (by decide) ?_
  refine V_puti X kf_RX5_17 (fun h => by cases h) rfl h3 (Or.inl rfl) dX5_init_15 ?_
  exact V_vret X hr (Nat.le_of_ble_eq_true rfl) (Nat.le_of_ble_eq_true rfl) dX5_init_18 ⟨rfl, hP⟩
def P_X5_isFull (a0 : Nat) (σ : Hp) (post : Int32 → Hp → Prop) : Prop :=
  gk σ a0 = some (5, 0) ∧ ∃ b1 : Nat, (gr σ a0 0) = some b1 ∧ ∃ n2 : Nat, gk σ b1 = some (13, n2) ∧ ((gi σ a0 1) < (Int32.ofNat n2) → post (0 : Int32) σ) ∧ (¬ ((gi σ a0 1) < (Int32.ofNat n2)) → post (1 : Int32) σ)
set_option maxHeartbeats 2000000 in
set_option maxRecDepth 100000 in
theorem m_X5_isFull (l : Launch) (G : GG) (N0 : Nat) (a0 : Nat) (σ : Hp) (post : Int32 → Hp → Prop) (hP : P_X5_isFull a0 σ post) : MM l G N0 yX5_isFull cX5_isFull 1 (some .boolean) (0) (0) 0 0 [.ref a0] σ (pI post) := by
  refine MM.of (by decide) (Nat.le_of_ble_eq_true rfl) ?_
  intro p e s m args below meth c X hr hnm
  refine V.to (lv2 := [(0, .ref a0)]) [0] rfl rfl ?_
  unfold P_X5_isFull at hP
  refine V_aload_n X dX5_isFull_0 rfl 0 rfl ?_
  obtain ⟨h1, hP⟩ := hP
  refine V_geti X kf_RX5_17 rfl h1 dX5_isFull_1 ?_
  refine V_aload_n X dX5_isFull_4 rfl 0 rfl ?_
  refine V_getr X kf_RX5_11 rfl h1 dX5_isFull_5 ?_
  obtain ⟨b1, h2, hP⟩ := hP
  refine V_dr0 h2 ?_
  obtain ⟨n2, h3, hP⟩ := hP
  refine V_alen X (Or.inr (Or.inr (Or.inr rfl))) h3 dX5_isFull_8 ?_
  refine V_icmp_lt X (tgt := 16) dX5_isFull_9 (by decide) (fun h4 => ?_) (fun h4 => ?_)
  · have hP := hP.1 h4
    refine V_iconst X (v := (0 : Int32)) dX5_isFull_16 (by decide) ?_
    exact V_iret X hr (Or.inr ⟨rfl, Or.inl rfl⟩) (Nat.le_of_ble_eq_true rfl) (Nat.le_of_ble_eq_true rfl) dX5_isFull_17 ⟨_, rfl, hP⟩
  · have hP := hP.2 h4
    refine V_iconst X (v := (1 : Int32)) dX5_isFull_12 (by decide) ?_
    refine V_goto X (tgt := 17) dX5_isFull_13 (by decide) ?_
    exact V_iret X hr (Or.inr ⟨rfl, Or.inr rfl⟩) (Nat.le_of_ble_eq_true rfl) (Nat.le_of_ble_eq_true rfl) dX5_isFull_17 ⟨_, rfl, hP⟩
def F_X5_standingOnes_4 (a0 : Nat) (post : Int32 → Hp → Prop) (I4 : Int32 → Int32 → Hp → Prop) (v1 : Int32) (v2 : Int32) (σ4 : Hp) : Prop :=
  gk σ4 a0 = some (5, 0) ∧ ∃ b401 : Nat, (gr σ4 a0 0) = some b401 ∧ ∃ n402 : Nat, gk σ4 b401 = some (13, n402) ∧ ((Int32.ofNat n402) ≤ v2 → post v1 σ4) ∧ (¬ ((Int32.ofNat n402) ≤ v2) → P_X5_standing a0 v2 σ4 (fun (r403 : Option Nat) (σ403 : Hp) => (r403 = none → I4 v1 (v2 + (1 : Int32)) σ403) ∧ (∀ b404 : Nat, r403 = some b404 → I4 (v1 + (1 : Int32)) (v2 + (1 : Int32)) σ403)))
def P_X5_standingOnes (a0 : Nat) (σ : Hp) (post : Int32 → Hp → Prop) : Prop :=
  lfp2 (F_X5_standingOnes_4 a0 post) (0 : Int32) (0 : Int32) σ
set_option maxHeartbeats 2000000 in
set_option maxRecDepth 100000 in
theorem m_X5_standingOnes (l : Launch) (G : GG) (N0 : Nat) (a0 : Nat) (σ : Hp) (post : Int32 → Hp → Prop) (hP : P_X5_standingOnes a0 σ post) : MM l G N0 yX5_standingOnes cX5_standingOnes 3 (some .int) (2) (43) 0 0 [.ref a0] σ (pI post) := by
  refine MM.of (by decide) (Nat.le_of_ble_eq_true rfl) ?_
  intro p e s m args below meth c X hr hnm
  refine V.to (lv2 := [(0, .ref a0)]) [0] rfl rfl ?_
  unfold P_X5_standingOnes at hP
  refine V_iconst X (v := (0 : Int32)) dX5_standingOnes_0 (by decide) ?_
  refine V_istore_n X (lv' := [(1, .int (0 : Int32)), (0, .ref a0)]) dX5_standingOnes_1 rfl (by decide) rfl ?_
  refine V_iconst X (v := (0 : Int32)) dX5_standingOnes_2 (by decide) ?_
  refine V_istore_n X (lv' := [(2, .int (0 : Int32)), (1, .int (0 : Int32)), (0, .ref a0)]) dX5_standingOnes_3 rfl (by decide) rfl ?_
  refine V.to (lv2 := [(0, .ref a0), (1, .int (0 : Int32)), (2, .int (0 : Int32))]) [2, 1, 0] rfl rfl ?_
  refine lfp2_use (fun v1 v2 σ4 => V p l e { frames := 2, cells := 0, slots := 0, locals := 43 } s m args below meth c (MQ below (QC G N0 (pI post)) args s 0 0 (AN N0)) G N0 3 σ4 0 0 4 [(0, .ref a0), (1, .int v1), (2, .int v2)] []) hP ?_
  intro v1 v2 σ4 hP
  unfold F_X5_standingOnes_4 at hP
  refine V_iload_n X dX5_standingOnes_4 rfl 2 rfl ?_
  refine V_aload_n X dX5_standingOnes_5 rfl 0 rfl ?_
  obtain ⟨h4001, hP⟩ := hP
  refine V_getr X kf_RX5_11 rfl h4001 dX5_standingOnes_6 ?_
  obtain ⟨b401, h4002, hP⟩ := hP
  refine V_dr0 h4002 ?_
  obtain ⟨n402, h4003, hP⟩ := hP
  refine V_alen X (Or.inr (Or.inr (Or.inr rfl))) h4003 dX5_standingOnes_9 ?_
  refine V_icmp_ge X (tgt := 30) dX5_standingOnes_10 (by decide) (fun h4004 => ?_) (fun h4004 => ?_)
  · have hP := hP.1 h4004
    refine V_iload_n X dX5_standingOnes_30 rfl 1 rfl ?_
    exact V_iret X hr (Or.inl rfl) (Nat.le_of_ble_eq_true rfl) (Nat.le_of_ble_eq_true rfl) dX5_standingOnes_31 ⟨_, rfl, hP⟩
  · have hP := hP.2 h4004
    refine V_aload_n X dX5_standingOnes_13 rfl 0 rfl ?_
    refine V_iload_n X dX5_standingOnes_14 rfl 2 rfl ?_
    refine V_callV_r X [.int v2] kw_RX5_29 ki_X5_standing ks_X5_standing ksg_X5_standing (m_X5_standing l G N0 _ _ _ _ hP) h4001 (by decide) rfl rfl ⟨Nat.le_of_ble_eq_true rfl, Nat.le_of_ble_eq_true rfl⟩ (Nat.le_of_ble_eq_true rfl) ⟨Nat.le_of_ble_eq_true rfl, Nat.le_of_ble_eq_true rfl⟩ rfl dX5_standingOnes_15 (fun r403 σ403 hP => ?_)
    refine V_ifnull X (tgt := 24) dX5_standingOnes_18 (by decide) (fun h4005 => ?_) (fun b404 h4005 => ?_)
    · have hP := hP.1 h4005
      refine V_iinc X (v := (v2 + (1 : Int32))) (lv' := [(2, .int (v2 + (1 : Int32))), (0, .ref a0), (1, .int v1)]) dX5_standingOnes_24 2 rfl rfl (by decide) rfl ?_
      refine V_goto X (tgt := 4) dX5_standingOnes_27 (by decide) ?_
      exact V.to [1, 2, 0] rfl rfl hP
    · have hP := hP.2 b404 h4005
      refine V_iinc X (v := (v1 + (1 : Int32))) (lv' := [(1, .int (v1 + (1 : Int32))), (0, .ref a0), (2, .int v2)]) dX5_standingOnes_21 1 rfl rfl (by decide) rfl ?_
      refine V_iinc X (v := (v2 + (1 : Int32))) (lv' := [(2, .int (v2 + (1 : Int32))), (1, .int (v1 + (1 : Int32))), (0, .ref a0)]) dX5_standingOnes_24 2 rfl rfl (by decide) rfl ?_
      refine V_goto X (tgt := 4) dX5_standingOnes_27 (by decide) ?_
      exact V.to [2, 1, 0] rfl rfl hP
def F_X5_takeFrom_2 (a0 : Nat) (a1 : Nat) (post : Hp → Prop) (I2 : Int32 → Hp → Prop) (v2 : Int32) (σ2 : Hp) : Prop :=
  gk σ2 a0 = some (5, 0) ∧ ∃ b201 : Nat, (gr σ2 a0 0) = some b201 ∧ ∃ n202 : Nat, gk σ2 b201 = some (13, n202) ∧ ((Int32.ofNat n202) ≤ v2 → gk σ2 a1 = some (5, 0) ∧ post (si σ2 a0 1 (gi σ2 a1 1))) ∧ (¬ ((Int32.ofNat n202) ≤ v2) → gk σ2 a1 = some (5, 0) ∧ P_X5_at a1 v2 σ2 (fun (r203 : Option Nat) (σ203 : Hp) => ∃ n204 : Nat, gk σ203 b201 = some (13, n204) ∧ vp_in v2 n204 ∧ (∀ w9 : Nat, r203 = some w9 → gk σ203 w9 = some (4, 0)) ∧ I2 (v2 + (1 : Int32)) (sr σ203 b201 (Int32.toNatClampNeg v2) r203)))
def P_X5_takeFrom (a0 : Nat) (a1 : Nat) (σ : Hp) (post : Hp → Prop) : Prop :=
  lfp1 (F_X5_takeFrom_2 a0 a1 post) (0 : Int32) σ
set_option maxHeartbeats 2000000 in
set_option maxRecDepth 100000 in
theorem m_X5_takeFrom (l : Launch) (G : GG) (N0 : Nat) (a0 : Nat) (a1 : Nat) (σ : Hp) (post : Hp → Prop) (hP : P_X5_takeFrom a0 a1 σ post) : MM l G N0 yX5_takeFrom cX5_takeFrom 3 none (1) (21) 0 0 [.ref a0, .ref a1] σ (pV post) := by
  refine MM.of (by decide) (Nat.le_of_ble_eq_true rfl) ?_
  intro p e s m args below meth c X hr hnm
  refine V.to (lv2 := [(0, .ref a0), (1, .ref a1)]) [0, 1] rfl rfl ?_
  unfold P_X5_takeFrom at hP
  refine V_iconst X (v := (0 : Int32)) dX5_takeFrom_0 (by decide) ?_
  refine V_istore_n X (lv' := [(2, .int (0 : Int32)), (0, .ref a0), (1, .ref a1)]) dX5_takeFrom_1 rfl (by decide) rfl ?_
  refine V.to (lv2 := [(0, .ref a0), (1, .ref a1), (2, .int (0 : Int32))]) [1, 2, 0] rfl rfl ?_
  refine lfp1_use (fun v2 σ2 => V p l e { frames := 1, cells := 0, slots := 0, locals := 21 } s m args below meth c (MQ below (QC G N0 (pV post)) args s 0 0 (AN N0)) G N0 3 σ2 0 0 2 [(0, .ref a0), (1, .ref a1), (2, .int v2)] []) hP ?_
  intro v2 σ2 hP
  unfold F_X5_takeFrom_2 at hP
  refine V_iload_n X dX5_takeFrom_2 rfl 2 rfl ?_
  refine V_aload_n X dX5_takeFrom_3 rfl 0 rfl ?_
  obtain ⟨h2001, hP⟩ := hP
  refine V_getr X kf_RX5_11 rfl h2001 dX5_takeFrom_4 ?_
  obtain ⟨b201, h2002, hP⟩ := hP
  refine V_dr0 h2002 ?_
  obtain ⟨n202, h2003, hP⟩ := hP
  refine V_alen X (Or.inr (Or.inr (Or.inr rfl))) h2003 dX5_takeFrom_7 ?_
  refine V_icmp_ge X (tgt := 28) dX5_takeFrom_8 (by decide) (fun h2004 => ?_) (fun h2004 => ?_)
  · have hP := hP.1 h2004
    refine V_aload_n X dX5_takeFrom_28 rfl 0 rfl ?_
    refine V_aload_n X dX5_takeFrom_29 rfl 1 rfl ?_
    obtain ⟨h2005, hP⟩ := hP
    refine V_geti X kf_RX5_17 rfl h2005 dX5_takeFrom_30 ?_
    refine V_puti X kf_RX5_17 (fun h => by cases h) rfl h2001 (Or.inl rfl) dX5_takeFrom_33 ?_
    exact V_vret X hr (Nat.le_of_ble_eq_true rfl) (Nat.le_of_ble_eq_true rfl) dX5_takeFrom_36 ⟨rfl, hP⟩
  · have hP := hP.2 h2004
    refine V_aload_n X dX5_takeFrom_11 rfl 0 rfl ?_
    refine V_getr X kf_RX5_11 rfl h2001 dX5_takeFrom_12 ?_
    refine V_iload_n X dX5_takeFrom_15 rfl 2 rfl ?_
    refine V_aload_n X dX5_takeFrom_16 rfl 1 rfl ?_
    refine V_iload_n X dX5_takeFrom_17 rfl 2 rfl ?_
    obtain ⟨h2006, hP⟩ := hP
    refine V_callV_r X [.int v2] kw_RX5_21 ki_X5_at ks_X5_at ksg_X5_at (m_X5_at l G N0 _ _ _ _ hP) h2006 (by decide) rfl rfl ⟨Nat.le_of_ble_eq_true rfl, Nat.le_of_ble_eq_true rfl⟩ (by simp only [List.map_cons, vcat]; exact Nat.le_of_ble_eq_true rfl) ⟨Nat.le_of_ble_eq_true rfl, Nat.le_of_ble_eq_true rfl⟩ rfl dX5_takeFrom_18 (fun r203 σ203 hP => ?_)
    refine V_dr2 h2002 ?_
    obtain ⟨n204, h2007, hP⟩ := hP
    obtain ⟨h2008, hP⟩ := hP
    obtain ⟨h2009, hP⟩ := hP
    refine V_aast X (x := r203) (Or.inr ⟨rfl, rfl⟩) h2007 h2008 (fun v h => ⟨_, h2009 v h⟩) dX5_takeFrom_21 ?_
    refine V_iinc X (v := (v2 + (1 : Int32))) (lv' := [(2, .int (v2 + (1 : Int32))), (0, .ref a0), (1, .ref a1)]) dX5_takeFrom_22 2 rfl rfl (by decide) rfl ?_
    refine V_goto X (tgt := 2) dX5_takeFrom_25 (by decide) ?_
    exact V.to [1, 2, 0] rfl rfl hP
def P_X6_clear (a0 : Nat) (σ : Hp) (post : Hp → Prop) : Prop :=
  gk σ a0 = some (6, 0) ∧ post (si (si σ a0 5 (0 : Int32)) a0 6 (0 : Int32))
set_option maxHeartbeats 2000000 in
set_option maxRecDepth 100000 in
theorem m_X6_clear (l : Launch) (G : GG) (N0 : Nat) (a0 : Nat) (σ : Hp) (post : Hp → Prop) (hP : P_X6_clear a0 σ post) : MM l G N0 yX6_clear cX6_clear 1 none (0) (0) 0 0 [.ref a0] σ (pV post) := by
  refine MM.of (by decide) (Nat.le_of_ble_eq_true rfl) ?_
  intro p e s m args below meth c X hr hnm
  refine V.to (lv2 := [(0, .ref a0)]) [0] rfl rfl ?_
  unfold P_X6_clear at hP
  refine V_aload_n X dX6_clear_0 rfl 0 rfl ?_
  refine V_iconst X (v := (0 : Int32)) dX6_clear_1 (by decide) ?_
  obtain ⟨h1, hP⟩ := hP
  refine V_puti X kf_RX6_27 (fun h => by cases h) rfl h1 (Or.inl rfl) dX6_clear_2 ?_
  refine V_aload_n X dX6_clear_5 rfl 0 rfl ?_
  refine V_iconst X (v := (0 : Int32)) dX6_clear_6 (by decide) ?_
  refine V_puti X kf_RX6_31 (fun h => by cases h) rfl h1 (Or.inl rfl) dX6_clear_7 ?_
  exact V_vret X hr (Nat.le_of_ble_eq_true rfl) (Nat.le_of_ble_eq_true rfl) dX6_clear_10 ⟨rfl, hP⟩
def P_X6_init (a0 : Nat) (σ : Hp) (post : Hp → Prop) : Prop :=
  ∀ q1 : Nat, gk σ q1 = none → gk (nw σ q1 10 20) a0 = some (6, 0) ∧ ∀ q2 : Nat, gk (sr (nw σ q1 10 20) a0 0 (some q1)) q2 = none → ∀ q3 : Nat, gk (sr (nw (sr (nw σ q1 10 20) a0 0 (some q1)) q2 10 100) a0 1 (some q2)) q3 = none → ∀ q4 : Nat, gk (sr (nw (sr (nw (sr (nw σ q1 10 20) a0 0 (some q1)) q2 10 100) a0 1 (some q2)) q3 10 100) a0 2 (some q3)) q4 = none → ∀ q5 : Nat, gk (sr (nw (sr (nw (sr (nw (sr (nw σ q1 10 20) a0 0 (some q1)) q2 10 100) a0 1 (some q2)) q3 10 100) a0 2 (some q3)) q4 10 100) a0 3 (some q4)) q5 = none → post (si (si (sr (nw (sr (nw (sr (nw (sr (nw (sr (nw σ q1 10 20) a0 0 (some q1)) q2 10 100) a0 1 (some q2)) q3 10 100) a0 2 (some q3)) q4 10 100) a0 3 (some q4)) q5 10 100) a0 4 (some q5)) a0 5 (0 : Int32)) a0 6 (0 : Int32))
set_option maxHeartbeats 2000000 in
set_option maxRecDepth 100000 in
theorem m_X6_init (l : Launch) (G : GG) (N0 : Nat) (a0 : Nat) (σ : Hp) (post : Hp → Prop) (hP : P_X6_init a0 σ post) : MM l G N0 yX6_init cX6_init 1 none (1) (20) 5 420 [.ref a0] σ (pV post) := by
  refine MM.of (by decide) (Nat.le_of_ble_eq_true rfl) ?_
  intro p e s m args below meth c X hr hnm
  refine V.to (lv2 := [(0, .ref a0)]) [0] rfl rfl ?_
  unfold P_X6_init at hP
  refine V_aload_n X dX6_init_0 rfl 0 rfl ?_
  refine V_objInit X kl_RX6_3 ko_inst ko_code (Nat.le_of_ble_eq_true rfl) ⟨Nat.le_of_ble_eq_true rfl, Nat.le_of_ble_eq_true rfl⟩ dX6_init_1 ?_
  refine V_aload_n X dX6_init_4 rfl 0 rfl ?_
  refine V_bipush X (v := (20 : Int32)) dX6_init_5 (by decide) ?_
  refine V_newi X (N := 20) ka_int (by decide) (by decide) (by decide) (Nat.le_of_ble_eq_true rfl) (Nat.le_of_ble_eq_true rfl) dX6_init_7 (fun q1 h1 => ?_)
  have hP := hP q1 h1
  have h2 : gk (nw σ q1 10 20) q1 = _ := gk_new
  obtain ⟨h3, hP⟩ := hP
  refine V_putr X (v := (some q1)) kf_RX6_9 (fun _ => ⟨hnm, rfl⟩) rfl h3 (Or.inr ⟨_, rfl⟩) dX6_init_9 ?_
  refine V_aload_n X dX6_init_12 rfl 0 rfl ?_
  refine V_bipush X (v := (100 : Int32)) dX6_init_13 (by decide) ?_
  refine V_newi X (N := 100) ka_int (by decide) (by decide) (by decide) (Nat.le_of_ble_eq_true rfl) (Nat.le_of_ble_eq_true rfl) dX6_init_15 (fun q2 h4 => ?_)
  have hP := hP q2 h4
  have h5 := gk_keep (t := 10) (n := 100) h4 (show gk (sr (nw σ q1 10 20) a0 0 (some q1)) q1 = _ from h2)
  have h6 := gk_keep (t := 10) (n := 100) h4 (show gk (sr (nw σ q1 10 20) a0 0 (some q1)) a0 = _ from h3)
  have h7 : gk (nw (sr (nw σ q1 10 20) a0 0 (some q1)) q2 10 100) q2 = _ := gk_new
  refine V_putr X (v := (some q2)) kf_RX6_15 (fun _ => ⟨hnm, rfl⟩) rfl h6 (Or.inr ⟨_, rfl⟩) dX6_init_17 ?_
  refine V_aload_n X dX6_init_20 rfl 0 rfl ?_
  refine V_bipush X (v := (100 : Int32)) dX6_init_21 (by decide) ?_
  refine V_newi X (N := 100) ka_int (by decide) (by decide) (by decide) (Nat.le_of_ble_eq_true rfl) (Nat.le_of_ble_eq_true rfl) dX6_init_23 (fun q3 h8 => ?_)
  have hP := hP q3 h8
  have h9 := gk_keep (t := 10) (n := 100) h8 (show gk (sr (nw (sr (nw σ q1 10 20) a0 0 (some q1)) q2 10 100) a0 1 (some q2)) q1 = _ from h5)
  have h10 := gk_keep (t := 10) (n := 100) h8 (show gk (sr (nw (sr (nw σ q1 10 20) a0 0 (some q1)) q2 10 100) a0 1 (some q2)) a0 = _ from h6)
  have h11 := gk_keep (t := 10) (n := 100) h8 (show gk (sr (nw (sr (nw σ q1 10 20) a0 0 (some q1)) q2 10 100) a0 1 (some q2)) q2 = _ from h7)
  have h12 : gk (nw (sr (nw (sr (nw σ q1 10 20) a0 0 (some q1)) q2 10 100) a0 1 (some q2)) q3 10 100) q3 = _ := gk_new
  refine V_putr X (v := (some q3)) kf_RX6_18 (fun _ => ⟨hnm, rfl⟩) rfl h10 (Or.inr ⟨_, rfl⟩) dX6_init_25 ?_
  refine V_aload_n X dX6_init_28 rfl 0 rfl ?_
  refine V_bipush X (v := (100 : Int32)) dX6_init_29 (by decide) ?_
  refine V_newi X (N := 100) ka_int (by decide) (by decide) (by decide) (Nat.le_of_ble_eq_true rfl) (Nat.le_of_ble_eq_true rfl) dX6_init_31 (fun q4 h13 => ?_)
  have hP := hP q4 h13
  have h14 := gk_keep (t := 10) (n := 100) h13 (show gk (sr (nw (sr (nw (sr (nw σ q1 10 20) a0 0 (some q1)) q2 10 100) a0 1 (some q2)) q3 10 100) a0 2 (some q3)) q1 = _ from h9)
  have h15 := gk_keep (t := 10) (n := 100) h13 (show gk (sr (nw (sr (nw (sr (nw σ q1 10 20) a0 0 (some q1)) q2 10 100) a0 1 (some q2)) q3 10 100) a0 2 (some q3)) a0 = _ from h10)
  have h16 := gk_keep (t := 10) (n := 100) h13 (show gk (sr (nw (sr (nw (sr (nw σ q1 10 20) a0 0 (some q1)) q2 10 100) a0 1 (some q2)) q3 10 100) a0 2 (some q3)) q2 = _ from h11)
  have h17 := gk_keep (t := 10) (n := 100) h13 (show gk (sr (nw (sr (nw (sr (nw σ q1 10 20) a0 0 (some q1)) q2 10 100) a0 1 (some q2)) q3 10 100) a0 2 (some q3)) q3 = _ from h12)
  have h18 : gk (nw (sr (nw (sr (nw (sr (nw σ q1 10 20) a0 0 (some q1)) q2 10 100) a0 1 (some q2)) q3 10 100) a0 2 (some q3)) q4 10 100) q4 = _ := gk_new
  refine V_putr X (v := (some q4)) kf_RX6_21 (fun _ => ⟨hnm, rfl⟩) rfl h15 (Or.inr ⟨_, rfl⟩) dX6_init_33 ?_
  refine V_aload_n X dX6_init_36 rfl 0 rfl ?_
  refine V_bipush X (v := (100 : Int32)) dX6_init_37 (by decide) ?_
  refine V_newi X (N := 100) ka_int (by decide) (by decide) (by decide) (Nat.le_of_ble_eq_true rfl) (Nat.le_of_ble_eq_true rfl) dX6_init_39 (fun q5 h19 => ?_)
  have hP := hP q5 h19
  have h20 := gk_keep (t := 10) (n := 100) h19 (show gk (sr (nw (sr (nw (sr (nw (sr (nw σ q1 10 20) a0 0 (some q1)) q2 10 100) a0 1 (some q2)) q3 10 100) a0 2 (some q3)) q4 10 100) a0 3 (some q4)) q1 = _ from h14)
  have h21 := gk_keep (t := 10) (n := 100) h19 (show gk (sr (nw (sr (nw (sr (nw (sr (nw σ q1 10 20) a0 0 (some q1)) q2 10 100) a0 1 (some q2)) q3 10 100) a0 2 (some q3)) q4 10 100) a0 3 (some q4)) a0 = _ from h15)
  have h22 := gk_keep (t := 10) (n := 100) h19 (show gk (sr (nw (sr (nw (sr (nw (sr (nw σ q1 10 20) a0 0 (some q1)) q2 10 100) a0 1 (some q2)) q3 10 100) a0 2 (some q3)) q4 10 100) a0 3 (some q4)) q2 = _ from h16)
  have h23 := gk_keep (t := 10) (n := 100) h19 (show gk (sr (nw (sr (nw (sr (nw (sr (nw σ q1 10 20) a0 0 (some q1)) q2 10 100) a0 1 (some q2)) q3 10 100) a0 2 (some q3)) q4 10 100) a0 3 (some q4)) q3 = _ from h17)
  have h24 := gk_keep (t := 10) (n := 100) h19 (show gk (sr (nw (sr (nw (sr (nw (sr (nw σ q1 10 20) a0 0 (some q1)) q2 10 100) a0 1 (some q2)) q3 10 100) a0 2 (some q3)) q4 10 100) a0 3 (some q4)) q4 = _ from h18)
  have h25 : gk (nw (sr (nw (sr (nw (sr (nw (sr (nw σ q1 10 20) a0 0 (some q1)) q2 10 100) a0 1 (some q2)) q3 10 100) a0 2 (some q3)) q4 10 100) a0 3 (some q4)) q5 10 100) q5 = _ := gk_new
  refine V_putr X (v := (some q5)) kf_RX6_24 (fun _ => ⟨hnm, rfl⟩) rfl h21 (Or.inr ⟨_, rfl⟩) dX6_init_41 ?_
  refine V_aload_n X dX6_init_44 rfl 0 rfl ?_
  refine V_iconst X (v := (0 : Int32)) dX6_init_45 (by decide) ?_
  refine V_puti X kf_RX6_27 (fun h => by cases h) rfl h21 (Or.inl rfl) dX6_init_46 ?_
  refine V_aload_n X dX6_init_49 rfl 0 rfl ?_
  refine V_iconst X (v := (0 : Int32)) dX6_init_50 (by decide) ?_
  refine V_puti X kf_RX6_31 (fun h => by cases h) rfl h21 (Or.inl rfl) dX6_init_51 ?_
  exact V_vret X hr (Nat.le_of_ble_eq_true rfl) (Nat.le_of_ble_eq_true rfl) dX6_init_54 ⟨rfl, hP⟩
def P_X7_addByte (a0 : Nat) (x1 : Int32) (σ : Hp) (post : Hp → Prop) : Prop :=
  gk σ a0 = some (7, 0) ∧ ((gi σ a0 1) < 0 → post σ) ∧ (¬ ((gi σ a0 1) < 0) → ∃ b1 : Nat, (gr σ a0 0) = some b1 ∧ ∃ n2 : Nat, gk σ b1 = some (10, n2) ∧ ((gi σ a0 1) < (Int32.ofNat n2) → vp_in (gi σ a0 1) n2 ∧ post (si (si σ b1 (Int32.toNatClampNeg (gi σ a0 1)) x1) a0 1 ((gi (si σ b1 (Int32.toNatClampNeg (gi σ a0 1)) x1) a0 1) + (1 : Int32)))) ∧ (¬ ((gi σ a0 1) < (Int32.ofNat n2)) → post σ))
set_option maxHeartbeats 2000000 in
set_option maxRecDepth 100000 in
theorem m_X7_addByte (l : Launch) (G : GG) (N0 : Nat) (a0 : Nat) (x1 : Int32) (σ : Hp) (post : Hp → Prop) (hP : P_X7_addByte a0 x1 σ post) : MM l G N0 yX7_addByte cX7_addByte 2 none (0) (0) 0 0 [.ref a0, .int x1] σ (pV post) := by
  refine MM.of (by decide) (Nat.le_of_ble_eq_true rfl) ?_
  intro p e s m args below meth c X hr hnm
  refine V.to (lv2 := [(0, .ref a0), (1, .int x1)]) [0, 1] rfl rfl ?_
  unfold P_X7_addByte at hP
  refine V_aload_n X dX7_addByte_0 rfl 0 rfl ?_
  obtain ⟨h1, hP⟩ := hP
  refine V_geti X kf_RX7_15 rfl h1 dX7_addByte_1 ?_
  refine V_if_lt X (tgt := 19) dX7_addByte_4 (by decide) (fun h2 => ?_) (fun h2 => ?_)
  · have hP := hP.1 h2
    exact V_vret X hr (Nat.le_of_ble_eq_true rfl) (Nat.le_of_ble_eq_true rfl) dX7_addByte_19 ⟨rfl, hP⟩
  · have hP := hP.2 h2
    refine V_aload_n X dX7_addByte_7 rfl 0 rfl ?_
    refine V_geti X kf_RX7_15 rfl h1 dX7_addByte_8 ?_
    refine V_aload_n X dX7_addByte_11 rfl 0 rfl ?_
    refine V_getr X kf_RX7_9 rfl h1 dX7_addByte_12 ?_
    obtain ⟨b1, h3, hP⟩ := hP
    refine V_dr0 h3 ?_
    obtain ⟨n2, h4, hP⟩ := hP
    refine V_alen X (Or.inl rfl) h4 dX7_addByte_15 ?_
    refine V_icmp_lt X (tgt := 20) dX7_addByte_16 (by decide) (fun h5 => ?_) (fun h5 => ?_)
    · have hP := hP.1 h5
      refine V_aload_n X dX7_addByte_20 rfl 0 rfl ?_
      refine V_getr X kf_RX7_9 rfl h1 dX7_addByte_21 ?_
      refine V_aload_n X dX7_addByte_24 rfl 0 rfl ?_
      refine V_geti X kf_RX7_15 rfl h1 dX7_addByte_25 ?_
      refine V_iload_n X dX7_addByte_28 rfl 1 rfl ?_
      refine V_dr2 h3 ?_
      obtain ⟨h6, hP⟩ := hP
      refine V_iast X h4 h6 dX7_addByte_29 ?_
      refine V_aload_n X dX7_addByte_30 rfl 0 rfl ?_
      refine V_dup X dX7_addByte_31 rfl ?_
      refine V_geti X kf_RX7_15 rfl h1 dX7_addByte_32 ?_
      refine V_iconst X (v := (1 : Int32)) dX7_addByte_35 (by decide) ?_
      refine V_iadd X dX7_addByte_36 ?_
      refine V_puti X kf_RX7_15 (fun h => by cases h) rfl h1 (Or.inl rfl) dX7_addByte_37 ?_
      exact V_vret X hr (Nat.le_of_ble_eq_true rfl) (Nat.le_of_ble_eq_true rfl) dX7_addByte_40 ⟨rfl, hP⟩
    · have hP := hP.2 h5
      exact V_vret X hr (Nat.le_of_ble_eq_true rfl) (Nat.le_of_ble_eq_true rfl) dX7_addByte_19 ⟨rfl, hP⟩
def F_X7_addNumber_2 (a0 : Nat) (x1 : Int32) (post : Hp → Prop) (I2 : Int32 → Hp → Prop) (v2 : Int32) (σ2 : Hp) : Prop :=
  (v2 < 0 → post σ2) ∧ (¬ (v2 < 0) → gk σ2 a0 = some (7, 0) ∧ P_X7_addByte a0 (((Int32.toUInt32 x1 >>> (Int32.toUInt32 ((8 : Int32) * v2) &&& Int32.toUInt32 31)).toInt32) &&& (255 : Int32)) σ2 (fun (σ201 : Hp) => I2 (v2 + (-1 : Int32)) σ201))
def P_X7_addNumber (a0 : Nat) (x1 : Int32) (σ : Hp) (post : Hp → Prop) : Prop :=
  lfp1 (F_X7_addNumber_2 a0 x1 post) (3 : Int32) σ
set_option maxHeartbeats 2000000 in
set_option maxRecDepth 100000 in
theorem m_X7_addNumber (l : Launch) (G : GG) (N0 : Nat) (a0 : Nat) (x1 : Int32) (σ : Hp) (post : Hp → Prop) (hP : P_X7_addNumber a0 x1 σ post) : MM l G N0 yX7_addNumber cX7_addNumber 3 none (1) (21) 0 0 [.ref a0, .int x1] σ (pV post) := by
  refine MM.of (by decide) (Nat.le_of_ble_eq_true rfl) ?_
  intro p e s m args below meth c X hr hnm
  refine V.to (lv2 := [(0, .ref a0), (1, .int x1)]) [0, 1] rfl rfl ?_
  unfold P_X7_addNumber at hP
  refine V_iconst X (v := (3 : Int32)) dX7_addNumber_0 (by decide) ?_
  refine V_istore_n X (lv' := [(2, .int (3 : Int32)), (0, .ref a0), (1, .int x1)]) dX7_addNumber_1 rfl (by decide) rfl ?_
  refine V.to (lv2 := [(0, .ref a0), (1, .int x1), (2, .int (3 : Int32))]) [1, 2, 0] rfl rfl ?_
  refine lfp1_use (fun v2 σ2 => V p l e { frames := 1, cells := 0, slots := 0, locals := 21 } s m args below meth c (MQ below (QC G N0 (pV post)) args s 0 0 (AN N0)) G N0 3 σ2 0 0 2 [(0, .ref a0), (1, .int x1), (2, .int v2)] []) hP ?_
  intro v2 σ2 hP
  unfold F_X7_addNumber_2 at hP
  refine V_iload_n X dX7_addNumber_2 rfl 2 rfl ?_
  refine V_if_lt X (tgt := 26) dX7_addNumber_3 (by decide) (fun h2001 => ?_) (fun h2001 => ?_)
  · have hP := hP.1 h2001
    exact V_vret X hr (Nat.le_of_ble_eq_true rfl) (Nat.le_of_ble_eq_true rfl) dX7_addNumber_26 ⟨rfl, hP⟩
  · have hP := hP.2 h2001
    refine V_aload_n X dX7_addNumber_6 rfl 0 rfl ?_
    refine V_iload_n X dX7_addNumber_7 rfl 1 rfl ?_
    refine V_bipush X (v := (8 : Int32)) dX7_addNumber_8 (by decide) ?_
    refine V_iload_n X dX7_addNumber_10 rfl 2 rfl ?_
    refine V_imul X dX7_addNumber_11 ?_
    refine V_iushr X dX7_addNumber_12 ?_
    refine V_sipush X (v := (255 : Int32)) dX7_addNumber_13 (by decide) ?_
    refine V_iand X dX7_addNumber_16 ?_
    obtain ⟨h2002, hP⟩ := hP
    refine V_callV_v X [.int (((Int32.toUInt32 x1 >>> (Int32.toUInt32 ((8 : Int32) * v2) &&& Int32.toUInt32 31)).toInt32) &&& (255 : Int32))] kw_RX7_19 ki_X7_addByte ks_X7_addByte ksg_X7_addByte (m_X7_addByte l G N0 _ _ _ _ hP) h2002 (by decide) rfl rfl ⟨Nat.le_of_ble_eq_true rfl, Nat.le_of_ble_eq_true rfl⟩ (Nat.le_of_ble_eq_true rfl) ⟨Nat.le_of_ble_eq_true rfl, Nat.le_of_ble_eq_true rfl⟩ rfl dX7_addNumber_17 (fun σ201 hP => ?_)
    refine V_iinc X (v := (v2 + (-1 : Int32))) (lv' := [(2, .int (v2 + (-1 : Int32))), (0, .ref a0), (1, .int x1)]) dX7_addNumber_20 2 rfl rfl (by decide) rfl ?_
    refine V_goto X (tgt := 2) dX7_addNumber_23 (by decide) ?_
    exact V.to [1, 2, 0] rfl rfl hP
def P_X7_cutTo (a0 : Nat) (x1 : Int32) (σ : Hp) (post : Hp → Prop) : Prop :=
  gk σ a0 = some (7, 0) ∧ post (si σ a0 1 (if (0 : Int32) < (if x1 < (gi σ a0 1) then x1 else (gi σ a0 1)) then (if x1 < (gi σ a0 1) then x1 else (gi σ a0 1)) else (0 : Int32)))
set_option maxHeartbeats 2000000 in
set_option maxRecDepth 100000 in
theorem m_X7_cutTo (l : Launch) (G : GG) (N0 : Nat) (a0 : Nat) (x1 : Int32) (σ : Hp) (post : Hp → Prop) (hP : P_X7_cutTo a0 x1 σ post) : MM l G N0 yX7_cutTo cX7_cutTo 2 none (1) (25) 0 0 [.ref a0, .int x1] σ (pV post) := by
  refine MM.of (by decide) (Nat.le_of_ble_eq_true rfl) ?_
  intro p e s m args below meth c X hr hnm
  refine V.to (lv2 := [(0, .ref a0), (1, .int x1)]) [0, 1] rfl rfl ?_
  unfold P_X7_cutTo at hP
  refine V_aload_n X dX7_cutTo_0 rfl 0 rfl ?_
  refine V_iconst X (v := (0 : Int32)) dX7_cutTo_1 (by decide) ?_
  refine V_aload_n X dX7_cutTo_2 rfl 0 rfl ?_
  obtain ⟨h1, hP⟩ := hP
  refine V_geti X kf_RX7_15 rfl h1 dX7_cutTo_3 ?_
  refine V_iload_n X dX7_cutTo_6 rfl 1 rfl ?_
  refine V_mmin X kl_RX7_23 km_min_s km_ini km_min_c (Nat.le_of_ble_eq_true rfl) ⟨Nat.le_of_ble_eq_true rfl, Nat.le_of_ble_eq_true rfl⟩ ⟨Nat.le_of_ble_eq_true rfl, Nat.le_of_ble_eq_true rfl⟩ dX7_cutTo_7 ?_
  refine V_mmax X kl_RX7_29 km_max_s km_ini km_max_c (Nat.le_of_ble_eq_true rfl) ⟨Nat.le_of_ble_eq_true rfl, Nat.le_of_ble_eq_true rfl⟩ ⟨Nat.le_of_ble_eq_true rfl, Nat.le_of_ble_eq_true rfl⟩ dX7_cutTo_10 ?_
  refine V_puti X kf_RX7_15 (fun h => by cases h) rfl h1 (Or.inl rfl) dX7_cutTo_13 ?_
  exact V_vret X hr (Nat.le_of_ble_eq_true rfl) (Nat.le_of_ble_eq_true rfl) dX7_cutTo_16 ⟨rfl, hP⟩
def P_X7_init (a0 : Nat) (σ : Hp) (post : Hp → Prop) : Prop :=
  ∀ q1 : Nat, gk σ q1 = none → gk (nw σ q1 10 200) a0 = some (7, 0) ∧ post (si (sr (nw σ q1 10 200) a0 0 (some q1)) a0 1 (0 : Int32))
set_option maxHeartbeats 2000000 in
set_option maxRecDepth 100000 in
theorem m_X7_init (l : Launch) (G : GG) (N0 : Nat) (a0 : Nat) (σ : Hp) (post : Hp → Prop) (hP : P_X7_init a0 σ post) : MM l G N0 yX7_init cX7_init 1 none (1) (20) 1 200 [.ref a0] σ (pV post) := by
  refine MM.of (by decide) (Nat.le_of_ble_eq_true rfl) ?_
  intro p e s m args below meth c X hr hnm
  refine V.to (lv2 := [(0, .ref a0)]) [0] rfl rfl ?_
  unfold P_X7_init at hP
  refine V_aload_n X dX7_init_0 rfl 0 rfl ?_
  refine V_objInit X kl_RX7_3 ko_inst ko_code (Nat.le_of_ble_eq_true rfl) ⟨Nat.le_of_ble_eq_true rfl, Nat.le_of_ble_eq_true rfl⟩ dX7_init_1 ?_
  refine V_aload_n X dX7_init_4 rfl 0 rfl ?_
  refine V_sipush X (v := (200 : Int32)) dX7_init_5 (by decide) ?_
  refine V_newi X (N := 200) ka_int (by decide) (by decide) (by decide) (Nat.le_of_ble_eq_true rfl) (Nat.le_of_ble_eq_true rfl) dX7_init_8 (fun q1 h1 => ?_)
  have hP := hP q1 h1
  have h2 : gk (nw σ q1 10 200) q1 = _ := gk_new
  obtain ⟨h3, hP⟩ := hP
  refine V_putr X (v := (some q1)) kf_RX7_9 (fun _ => ⟨hnm, rfl⟩) rfl h3 (Or.inr ⟨_, rfl⟩) dX7_init_10 ?_
  refine V_aload_n X dX7_init_13 rfl 0 rfl ?_
  refine V_iconst X (v := (0 : Int32)) dX7_init_14 (by decide) ?_
  refine V_puti X kf_RX7_15 (fun h => by cases h) rfl h3 (Or.inl rfl) dX7_init_15 ?_
  exact V_vret X hr (Nat.le_of_ble_eq_true rfl) (Nat.le_of_ble_eq_true rfl) dX7_init_18 ⟨rfl, hP⟩
end
