section
-- ===== PART A: goes FIRST, ahead of the names: the tables' words, and 'selects' of the private methods out of them =====
/-- a private method of a class that the tables say can be made, by its rows of tables_1 -/
def lw_okq (q : MethodName × Nat) : Prop := (q.1.cls ≠ "java/lang/invoke/MethodHandle" ∧ q.1.cls ≠ "java/lang/invoke/VarHandle") ∧ Cond.instantiable q.1.cls q.2 ∈ tables_1 ∧ Cond.privateMethod q.1 ∈ tables_1 ∧ Cond.instanceMethod q.1 ∈ tables_1
theorem lw_p0 : lw_okq (⟨"LastHappened", "tell", "(I)I"⟩, 14) := ⟨⟨by decide +kernel, by decide +kernel⟩, List.mem_of_getElem? (i := 18) (by decide +kernel), List.mem_of_getElem? (i := 246) (by decide +kernel), List.mem_of_getElem? (i := 247) (by decide +kernel)⟩
theorem lw_p1 : lw_okq (⟨"LastHappened", "refuseBad", "()I"⟩, 14) := ⟨⟨by decide +kernel, by decide +kernel⟩, List.mem_of_getElem? (i := 18) (by decide +kernel), List.mem_of_getElem? (i := 266) (by decide +kernel), List.mem_of_getElem? (i := 267) (by decide +kernel)⟩
theorem lw_p2 : lw_okq (⟨"LastHappened", "refuseFull", "()I"⟩, 14) := ⟨⟨by decide +kernel, by decide +kernel⟩, List.mem_of_getElem? (i := 18) (by decide +kernel), List.mem_of_getElem? (i := 278) (by decide +kernel), List.mem_of_getElem? (i := 279) (by decide +kernel)⟩
theorem lw_p3 : lw_okq (⟨"LastHappened$Town", "begin", "(I)I"⟩, 8) := ⟨⟨by decide +kernel, by decide +kernel⟩, List.mem_of_getElem? (i := 26) (by decide +kernel), List.mem_of_getElem? (i := 286) (by decide +kernel), List.mem_of_getElem? (i := 287) (by decide +kernel)⟩
theorem lw_p4 : lw_okq (⟨"LastHappened$Town", "remember", "()V"⟩, 8) := ⟨⟨by decide +kernel, by decide +kernel⟩, List.mem_of_getElem? (i := 26) (by decide +kernel), List.mem_of_getElem? (i := 306) (by decide +kernel), List.mem_of_getElem? (i := 307) (by decide +kernel)⟩
theorem lw_p5 : lw_okq (⟨"LastHappened$Town", "changeRent", "(II)I"⟩, 8) := ⟨⟨by decide +kernel, by decide +kernel⟩, List.mem_of_getElem? (i := 26) (by decide +kernel), List.mem_of_getElem? (i := 319) (by decide +kernel), List.mem_of_getElem? (i := 320) (by decide +kernel)⟩
theorem lw_p6 : lw_okq (⟨"LastHappened", "refuseNo", "()I"⟩, 14) := ⟨⟨by decide +kernel, by decide +kernel⟩, List.mem_of_getElem? (i := 18) (by decide +kernel), List.mem_of_getElem? (i := 354) (by decide +kernel), List.mem_of_getElem? (i := 355) (by decide +kernel)⟩
theorem lw_p7 : lw_okq (⟨"LastHappened$Text", "findToken", "()V"⟩, 6) := ⟨⟨by decide +kernel, by decide +kernel⟩, List.mem_of_getElem? (i := 84) (by decide +kernel), List.mem_of_getElem? (i := 399) (by decide +kernel), List.mem_of_getElem? (i := 400) (by decide +kernel)⟩
theorem lw_p8 : lw_okq (⟨"LastHappened$Text", "byteAt", "(I)I"⟩, 6) := ⟨⟨by decide +kernel, by decide +kernel⟩, List.mem_of_getElem? (i := 84) (by decide +kernel), List.mem_of_getElem? (i := 403) (by decide +kernel), List.mem_of_getElem? (i := 404) (by decide +kernel)⟩
theorem lw_p9 : lw_okq (⟨"LastHappened$Text", "isLetter", "(I)Z"⟩, 6) := ⟨⟨by decide +kernel, by decide +kernel⟩, List.mem_of_getElem? (i := 84) (by decide +kernel), List.mem_of_getElem? (i := 408) (by decide +kernel), List.mem_of_getElem? (i := 409) (by decide +kernel)⟩
theorem lw_p10 : lw_okq (⟨"LastHappened$Text", "isFigure", "(I)Z"⟩, 6) := ⟨⟨by decide +kernel, by decide +kernel⟩, List.mem_of_getElem? (i := 84) (by decide +kernel), List.mem_of_getElem? (i := 412) (by decide +kernel), List.mem_of_getElem? (i := 413) (by decide +kernel)⟩
theorem lw_p11 : lw_okq (⟨"LastHappened$Text", "takeItem", "(LLastHappened$Town;Z)Z"⟩, 6) := ⟨⟨by decide +kernel, by decide +kernel⟩, List.mem_of_getElem? (i := 84) (by decide +kernel), List.mem_of_getElem? (i := 420) (by decide +kernel), List.mem_of_getElem? (i := 421) (by decide +kernel)⟩
theorem lw_p12 : lw_okq (⟨"LastHappened$Text", "itemCalled", "()I"⟩, 6) := ⟨⟨by decide +kernel, by decide +kernel⟩, List.mem_of_getElem? (i := 84) (by decide +kernel), List.mem_of_getElem? (i := 424) (by decide +kernel), List.mem_of_getElem? (i := 425) (by decide +kernel)⟩
theorem lw_p13 : lw_okq (⟨"LastHappened$Text", "isWord", "(Ljava/lang/String;)Z"⟩, 6) := ⟨⟨by decide +kernel, by decide +kernel⟩, List.mem_of_getElem? (i := 84) (by decide +kernel), List.mem_of_getElem? (i := 429) (by decide +kernel), List.mem_of_getElem? (i := 430) (by decide +kernel)⟩
theorem lw_p14 : lw_okq (⟨"LastHappened$Text", "value", "()I"⟩, 6) := ⟨⟨by decide +kernel, by decide +kernel⟩, List.mem_of_getElem? (i := 84) (by decide +kernel), List.mem_of_getElem? (i := 486) (by decide +kernel), List.mem_of_getElem? (i := 487) (by decide +kernel)⟩
theorem lw_p15 : lw_okq (⟨"LastHappened$Town", "kindOf", "(I)I"⟩, 8) := ⟨⟨by decide +kernel, by decide +kernel⟩, List.mem_of_getElem? (i := 26) (by decide +kernel), List.mem_of_getElem? (i := 512) (by decide +kernel), List.mem_of_getElem? (i := 513) (by decide +kernel)⟩
def lw_privs_1 : List (MethodName × Nat) := [(⟨"LastHappened", "tell", "(I)I"⟩, 14), (⟨"LastHappened", "refuseBad", "()I"⟩, 14), (⟨"LastHappened", "refuseFull", "()I"⟩, 14), (⟨"LastHappened$Town", "begin", "(I)I"⟩, 8), (⟨"LastHappened$Town", "remember", "()V"⟩, 8), (⟨"LastHappened$Town", "changeRent", "(II)I"⟩, 8), (⟨"LastHappened", "refuseNo", "()I"⟩, 14), (⟨"LastHappened$Text", "findToken", "()V"⟩, 6), (⟨"LastHappened$Text", "byteAt", "(I)I"⟩, 6), (⟨"LastHappened$Text", "isLetter", "(I)Z"⟩, 6), (⟨"LastHappened$Text", "isFigure", "(I)Z"⟩, 6), (⟨"LastHappened$Text", "takeItem", "(LLastHappened$Town;Z)Z"⟩, 6), (⟨"LastHappened$Text", "itemCalled", "()I"⟩, 6), (⟨"LastHappened$Text", "isWord", "(Ljava/lang/String;)Z"⟩, 6), (⟨"LastHappened$Text", "value", "()I"⟩, 6), (⟨"LastHappened$Town", "kindOf", "(I)I"⟩, 8)]
theorem lw_r1 : ∀ q ∈ lw_privs_1, lw_okq q := List.forall_mem_cons.mpr ⟨lw_p0, List.forall_mem_cons.mpr ⟨lw_p1, List.forall_mem_cons.mpr ⟨lw_p2, List.forall_mem_cons.mpr ⟨lw_p3, List.forall_mem_cons.mpr ⟨lw_p4, List.forall_mem_cons.mpr ⟨lw_p5, List.forall_mem_cons.mpr ⟨lw_p6, List.forall_mem_cons.mpr ⟨lw_p7, List.forall_mem_cons.mpr ⟨lw_p8, List.forall_mem_cons.mpr ⟨lw_p9, List.forall_mem_cons.mpr ⟨lw_p10, List.forall_mem_cons.mpr ⟨lw_p11, List.forall_mem_cons.mpr ⟨lw_p12, List.forall_mem_cons.mpr ⟨lw_p13, List.forall_mem_cons.mpr ⟨lw_p14, List.forall_mem_cons.mpr ⟨lw_p15, fun _ h => absurd h List.not_mem_nil⟩⟩⟩⟩⟩⟩⟩⟩⟩⟩⟩⟩⟩⟩⟩⟩
theorem lw_p16 : lw_okq (⟨"LastHappened$Town", "meet", "(II)Z"⟩, 8) := ⟨⟨by decide +kernel, by decide +kernel⟩, List.mem_of_getElem? (i := 26) (by decide +kernel), List.mem_of_getElem? (i := 535) (by decide +kernel), List.mem_of_getElem? (i := 536) (by decide +kernel)⟩
theorem lw_p17 : lw_okq (⟨"LastHappened", "isStreet", "(I)Z"⟩, 14) := ⟨⟨by decide +kernel, by decide +kernel⟩, List.mem_of_getElem? (i := 18) (by decide +kernel), List.mem_of_getElem? (i := 544) (by decide +kernel), List.mem_of_getElem? (i := 545) (by decide +kernel)⟩
theorem lw_p18 : lw_okq (⟨"LastHappened$Day", "planEvent", "(LLastHappened$Town;I)V"⟩, 10) := ⟨⟨by decide +kernel, by decide +kernel⟩, List.mem_of_getElem? (i := 109) (by decide +kernel), List.mem_of_getElem? (i := 567) (by decide +kernel), List.mem_of_getElem? (i := 568) (by decide +kernel)⟩
theorem lw_p19 : lw_okq (⟨"LastHappened$Day", "placeBehind", "(I)I"⟩, 10) := ⟨⟨by decide +kernel, by decide +kernel⟩, List.mem_of_getElem? (i := 109) (by decide +kernel), List.mem_of_getElem? (i := 574) (by decide +kernel), List.mem_of_getElem? (i := 575) (by decide +kernel)⟩
theorem lw_p20 : lw_okq (⟨"LastHappened$Day", "begin", "(I)V"⟩, 10) := ⟨⟨by decide +kernel, by decide +kernel⟩, List.mem_of_getElem? (i := 109) (by decide +kernel), List.mem_of_getElem? (i := 583) (by decide +kernel), List.mem_of_getElem? (i := 584) (by decide +kernel)⟩
theorem lw_p21 : lw_okq (⟨"LastHappened$Day", "isRenamed", "(II)Z"⟩, 10) := ⟨⟨by decide +kernel, by decide +kernel⟩, List.mem_of_getElem? (i := 109) (by decide +kernel), List.mem_of_getElem? (i := 591) (by decide +kernel), List.mem_of_getElem? (i := 592) (by decide +kernel)⟩
theorem lw_p22 : lw_okq (⟨"LastHappened$Day", "yields", "(III)Z"⟩, 10) := ⟨⟨by decide +kernel, by decide +kernel⟩, List.mem_of_getElem? (i := 109) (by decide +kernel), List.mem_of_getElem? (i := 598) (by decide +kernel), List.mem_of_getElem? (i := 599) (by decide +kernel)⟩
theorem lw_p23 : lw_okq (⟨"LastHappened$Day", "numberFor", "(I)I"⟩, 10) := ⟨⟨by decide +kernel, by decide +kernel⟩, List.mem_of_getElem? (i := 109) (by decide +kernel), List.mem_of_getElem? (i := 602) (by decide +kernel), List.mem_of_getElem? (i := 603) (by decide +kernel)⟩
theorem lw_p24 : lw_okq (⟨"LastHappened$Day", "live", "(III)I"⟩, 10) := ⟨⟨by decide +kernel, by decide +kernel⟩, List.mem_of_getElem? (i := 109) (by decide +kernel), List.mem_of_getElem? (i := 630) (by decide +kernel), List.mem_of_getElem? (i := 631) (by decide +kernel)⟩
theorem lw_p25 : lw_okq (⟨"LastHappened", "areStreets", "(I)Z"⟩, 14) := ⟨⟨by decide +kernel, by decide +kernel⟩, List.mem_of_getElem? (i := 18) (by decide +kernel), List.mem_of_getElem? (i := 662) (by decide +kernel), List.mem_of_getElem? (i := 663) (by decide +kernel)⟩
theorem lw_p26 : lw_okq (⟨"LastHappened$Search", "hourOfOne", "(IIII)I"⟩, 6) := ⟨⟨by decide +kernel, by decide +kernel⟩, List.mem_of_getElem? (i := 161) (by decide +kernel), List.mem_of_getElem? (i := 691) (by decide +kernel), List.mem_of_getElem? (i := 692) (by decide +kernel)⟩
theorem lw_p27 : lw_okq (⟨"LastHappened$Walks", "measure", "(LLastHappened$Rows;)V"⟩, 2) := ⟨⟨by decide +kernel, by decide +kernel⟩, List.mem_of_getElem? (i := 186) (by decide +kernel), List.mem_of_getElem? (i := 763) (by decide +kernel), List.mem_of_getElem? (i := 764) (by decide +kernel)⟩
theorem lw_p28 : lw_okq (⟨"LastHappened$Walks", "shorten", "(III)V"⟩, 2) := ⟨⟨by decide +kernel, by decide +kernel⟩, List.mem_of_getElem? (i := 186) (by decide +kernel), List.mem_of_getElem? (i := 770) (by decide +kernel), List.mem_of_getElem? (i := 771) (by decide +kernel)⟩
theorem lw_p29 : lw_okq (⟨"LastHappened$Walks", "goOn", "(LLastHappened$Rows;II)V"⟩, 2) := ⟨⟨by decide +kernel, by decide +kernel⟩, List.mem_of_getElem? (i := 186) (by decide +kernel), List.mem_of_getElem? (i := 777) (by decide +kernel), List.mem_of_getElem? (i := 778) (by decide +kernel)⟩
theorem lw_p30 : lw_okq (⟨"LastHappened$Walks", "soonest", "(II)I"⟩, 2) := ⟨⟨by decide +kernel, by decide +kernel⟩, List.mem_of_getElem? (i := 186) (by decide +kernel), List.mem_of_getElem? (i := 782) (by decide +kernel), List.mem_of_getElem? (i := 783) (by decide +kernel)⟩
theorem lw_p31 : lw_okq (⟨"LastHappened$Walks", "reach", "(III)V"⟩, 2) := ⟨⟨by decide +kernel, by decide +kernel⟩, List.mem_of_getElem? (i := 186) (by decide +kernel), List.mem_of_getElem? (i := 786) (by decide +kernel), List.mem_of_getElem? (i := 787) (by decide +kernel)⟩
def lw_privs_2 : List (MethodName × Nat) := [(⟨"LastHappened$Town", "meet", "(II)Z"⟩, 8), (⟨"LastHappened", "isStreet", "(I)Z"⟩, 14), (⟨"LastHappened$Day", "planEvent", "(LLastHappened$Town;I)V"⟩, 10), (⟨"LastHappened$Day", "placeBehind", "(I)I"⟩, 10), (⟨"LastHappened$Day", "begin", "(I)V"⟩, 10), (⟨"LastHappened$Day", "isRenamed", "(II)Z"⟩, 10), (⟨"LastHappened$Day", "yields", "(III)Z"⟩, 10), (⟨"LastHappened$Day", "numberFor", "(I)I"⟩, 10), (⟨"LastHappened$Day", "live", "(III)I"⟩, 10), (⟨"LastHappened", "areStreets", "(I)Z"⟩, 14), (⟨"LastHappened$Search", "hourOfOne", "(IIII)I"⟩, 6), (⟨"LastHappened$Walks", "measure", "(LLastHappened$Rows;)V"⟩, 2), (⟨"LastHappened$Walks", "shorten", "(III)V"⟩, 2), (⟨"LastHappened$Walks", "goOn", "(LLastHappened$Rows;II)V"⟩, 2), (⟨"LastHappened$Walks", "soonest", "(II)I"⟩, 2), (⟨"LastHappened$Walks", "reach", "(III)V"⟩, 2)]
theorem lw_r2 : ∀ q ∈ lw_privs_2, lw_okq q := List.forall_mem_cons.mpr ⟨lw_p16, List.forall_mem_cons.mpr ⟨lw_p17, List.forall_mem_cons.mpr ⟨lw_p18, List.forall_mem_cons.mpr ⟨lw_p19, List.forall_mem_cons.mpr ⟨lw_p20, List.forall_mem_cons.mpr ⟨lw_p21, List.forall_mem_cons.mpr ⟨lw_p22, List.forall_mem_cons.mpr ⟨lw_p23, List.forall_mem_cons.mpr ⟨lw_p24, List.forall_mem_cons.mpr ⟨lw_p25, List.forall_mem_cons.mpr ⟨lw_p26, List.forall_mem_cons.mpr ⟨lw_p27, List.forall_mem_cons.mpr ⟨lw_p28, List.forall_mem_cons.mpr ⟨lw_p29, List.forall_mem_cons.mpr ⟨lw_p30, List.forall_mem_cons.mpr ⟨lw_p31, fun _ h => absurd h List.not_mem_nil⟩⟩⟩⟩⟩⟩⟩⟩⟩⟩⟩⟩⟩⟩⟩⟩
theorem lw_p32 : lw_okq (⟨"LastHappened$Search", "agrees", "(ILLastHappened$Rows;)Z"⟩, 6) := ⟨⟨by decide +kernel, by decide +kernel⟩, List.mem_of_getElem? (i := 161) (by decide +kernel), List.mem_of_getElem? (i := 809) (by decide +kernel), List.mem_of_getElem? (i := 810) (by decide +kernel)⟩
theorem lw_p33 : lw_okq (⟨"LastHappened", "imageOf", "(I)LLastHappened$Town;"⟩, 14) := ⟨⟨by decide +kernel, by decide +kernel⟩, List.mem_of_getElem? (i := 18) (by decide +kernel), List.mem_of_getElem? (i := 838) (by decide +kernel), List.mem_of_getElem? (i := 839) (by decide +kernel)⟩
theorem lw_p34 : lw_okq (⟨"LastHappened", "countOf", "(I)I"⟩, 14) := ⟨⟨by decide +kernel, by decide +kernel⟩, List.mem_of_getElem? (i := 18) (by decide +kernel), List.mem_of_getElem? (i := 855) (by decide +kernel), List.mem_of_getElem? (i := 856) (by decide +kernel)⟩
theorem lw_p35 : lw_okq (⟨"LastHappenedModel", "bad", "(I)I"⟩, 29) := ⟨⟨by decide +kernel, by decide +kernel⟩, List.mem_of_getElem? (i := 875) (by decide +kernel), List.mem_of_getElem? (i := 978) (by decide +kernel), List.mem_of_getElem? (i := 979) (by decide +kernel)⟩
theorem lw_p36 : lw_okq (⟨"LastHappenedModel", "streets", "()I"⟩, 29) := ⟨⟨by decide +kernel, by decide +kernel⟩, List.mem_of_getElem? (i := 875) (by decide +kernel), List.mem_of_getElem? (i := 982) (by decide +kernel), List.mem_of_getElem? (i := 983) (by decide +kernel)⟩
theorem lw_p37 : lw_okq (⟨"LastHappenedModel", "full", "()I"⟩, 29) := ⟨⟨by decide +kernel, by decide +kernel⟩, List.mem_of_getElem? (i := 875) (by decide +kernel), List.mem_of_getElem? (i := 999) (by decide +kernel), List.mem_of_getElem? (i := 1000) (by decide +kernel)⟩
theorem lw_p38 : lw_okq (⟨"LastHappenedModel", "isStreet", "(I)Z"⟩, 29) := ⟨⟨by decide +kernel, by decide +kernel⟩, List.mem_of_getElem? (i := 875) (by decide +kernel), List.mem_of_getElem? (i := 1011) (by decide +kernel), List.mem_of_getElem? (i := 1012) (by decide +kernel)⟩
theorem lw_p39 : lw_okq (⟨"LastHappenedModel", "events", "()I"⟩, 29) := ⟨⟨by decide +kernel, by decide +kernel⟩, List.mem_of_getElem? (i := 875) (by decide +kernel), List.mem_of_getElem? (i := 1019) (by decide +kernel), List.mem_of_getElem? (i := 1020) (by decide +kernel)⟩
theorem lw_p40 : lw_okq (⟨"LastHappenedModel", "keep", "()V"⟩, 29) := ⟨⟨by decide +kernel, by decide +kernel⟩, List.mem_of_getElem? (i := 875) (by decide +kernel), List.mem_of_getElem? (i := 1023) (by decide +kernel), List.mem_of_getElem? (i := 1024) (by decide +kernel)⟩
theorem lw_p41 : lw_okq (⟨"LastHappenedModel", "isEvent", "(I)Z"⟩, 29) := ⟨⟨by decide +kernel, by decide +kernel⟩, List.mem_of_getElem? (i := 875) (by decide +kernel), List.mem_of_getElem? (i := 1034) (by decide +kernel), List.mem_of_getElem? (i := 1035) (by decide +kernel)⟩
theorem lw_p42 : lw_okq (⟨"LastHappenedModel", "no", "()I"⟩, 29) := ⟨⟨by decide +kernel, by decide +kernel⟩, List.mem_of_getElem? (i := 875) (by decide +kernel), List.mem_of_getElem? (i := 1046) (by decide +kernel), List.mem_of_getElem? (i := 1047) (by decide +kernel)⟩
theorem lw_p43 : lw_okq (⟨"LastHappenedModel", "told", "(II)I"⟩, 29) := ⟨⟨by decide +kernel, by decide +kernel⟩, List.mem_of_getElem? (i := 875) (by decide +kernel), List.mem_of_getElem? (i := 1059) (by decide +kernel), List.mem_of_getElem? (i := 1060) (by decide +kernel)⟩
theorem lw_p44 : lw_okq (⟨"LastHappenedModel", "happensIn", "(II)I"⟩, 29) := ⟨⟨by decide +kernel, by decide +kernel⟩, List.mem_of_getElem? (i := 875) (by decide +kernel), List.mem_of_getElem? (i := 1072) (by decide +kernel), List.mem_of_getElem? (i := 1073) (by decide +kernel)⟩
theorem lw_p45 : lw_okq (⟨"LastHappenedModel", "meet", "(II)Z"⟩, 29) := ⟨⟨by decide +kernel, by decide +kernel⟩, List.mem_of_getElem? (i := 875) (by decide +kernel), List.mem_of_getElem? (i := 1076) (by decide +kernel), List.mem_of_getElem? (i := 1077) (by decide +kernel)⟩
theorem lw_p46 : lw_okq (⟨"LastHappenedModel", "has", "(II)I"⟩, 29) := ⟨⟨by decide +kernel, by decide +kernel⟩, List.mem_of_getElem? (i := 875) (by decide +kernel), List.mem_of_getElem? (i := 1080) (by decide +kernel), List.mem_of_getElem? (i := 1081) (by decide +kernel)⟩
theorem lw_p47 : lw_okq (⟨"LastHappenedModel", "runAll", "()V"⟩, 29) := ⟨⟨by decide +kernel, by decide +kernel⟩, List.mem_of_getElem? (i := 875) (by decide +kernel), List.mem_of_getElem? (i := 1088) (by decide +kernel), List.mem_of_getElem? (i := 1089) (by decide +kernel)⟩
def lw_privs_3 : List (MethodName × Nat) := [(⟨"LastHappened$Search", "agrees", "(ILLastHappened$Rows;)Z"⟩, 6), (⟨"LastHappened", "imageOf", "(I)LLastHappened$Town;"⟩, 14), (⟨"LastHappened", "countOf", "(I)I"⟩, 14), (⟨"LastHappenedModel", "bad", "(I)I"⟩, 29), (⟨"LastHappenedModel", "streets", "()I"⟩, 29), (⟨"LastHappenedModel", "full", "()I"⟩, 29), (⟨"LastHappenedModel", "isStreet", "(I)Z"⟩, 29), (⟨"LastHappenedModel", "events", "()I"⟩, 29), (⟨"LastHappenedModel", "keep", "()V"⟩, 29), (⟨"LastHappenedModel", "isEvent", "(I)Z"⟩, 29), (⟨"LastHappenedModel", "no", "()I"⟩, 29), (⟨"LastHappenedModel", "told", "(II)I"⟩, 29), (⟨"LastHappenedModel", "happensIn", "(II)I"⟩, 29), (⟨"LastHappenedModel", "meet", "(II)Z"⟩, 29), (⟨"LastHappenedModel", "has", "(II)I"⟩, 29), (⟨"LastHappenedModel", "runAll", "()V"⟩, 29)]
theorem lw_r3 : ∀ q ∈ lw_privs_3, lw_okq q := List.forall_mem_cons.mpr ⟨lw_p32, List.forall_mem_cons.mpr ⟨lw_p33, List.forall_mem_cons.mpr ⟨lw_p34, List.forall_mem_cons.mpr ⟨lw_p35, List.forall_mem_cons.mpr ⟨lw_p36, List.forall_mem_cons.mpr ⟨lw_p37, List.forall_mem_cons.mpr ⟨lw_p38, List.forall_mem_cons.mpr ⟨lw_p39, List.forall_mem_cons.mpr ⟨lw_p40, List.forall_mem_cons.mpr ⟨lw_p41, List.forall_mem_cons.mpr ⟨lw_p42, List.forall_mem_cons.mpr ⟨lw_p43, List.forall_mem_cons.mpr ⟨lw_p44, List.forall_mem_cons.mpr ⟨lw_p45, List.forall_mem_cons.mpr ⟨lw_p46, List.forall_mem_cons.mpr ⟨lw_p47, fun _ h => absurd h List.not_mem_nil⟩⟩⟩⟩⟩⟩⟩⟩⟩⟩⟩⟩⟩⟩⟩⟩
theorem lw_p48 : lw_okq (⟨"LastHappenedModel", "allEvents", "()I"⟩, 29) := ⟨⟨by decide +kernel, by decide +kernel⟩, List.mem_of_getElem? (i := 875) (by decide +kernel), List.mem_of_getElem? (i := 1092) (by decide +kernel), List.mem_of_getElem? (i := 1093) (by decide +kernel)⟩
theorem lw_p49 : lw_okq (⟨"LastHappenedModel", "run", "(I)V"⟩, 29) := ⟨⟨by decide +kernel, by decide +kernel⟩, List.mem_of_getElem? (i := 875) (by decide +kernel), List.mem_of_getElem? (i := 1096) (by decide +kernel), List.mem_of_getElem? (i := 1097) (by decide +kernel)⟩
theorem lw_p50 : lw_okq (⟨"LastHappenedModel", "happen", "(IIIIII)V"⟩, 29) := ⟨⟨by decide +kernel, by decide +kernel⟩, List.mem_of_getElem? (i := 875) (by decide +kernel), List.mem_of_getElem? (i := 1100) (by decide +kernel), List.mem_of_getElem? (i := 1101) (by decide +kernel)⟩
theorem lw_p51 : lw_okq (⟨"LastHappenedModel", "rename", "(IIIII)V"⟩, 29) := ⟨⟨by decide +kernel, by decide +kernel⟩, List.mem_of_getElem? (i := 875) (by decide +kernel), List.mem_of_getElem? (i := 1104) (by decide +kernel), List.mem_of_getElem? (i := 1105) (by decide +kernel)⟩
theorem lw_p52 : lw_okq (⟨"LastHappenedModel", "nameIn", "(II)I"⟩, 29) := ⟨⟨by decide +kernel, by decide +kernel⟩, List.mem_of_getElem? (i := 875) (by decide +kernel), List.mem_of_getElem? (i := 1108) (by decide +kernel), List.mem_of_getElem? (i := 1109) (by decide +kernel)⟩
theorem lw_p53 : lw_okq (⟨"LastHappenedModel", "whichIn", "(II)I"⟩, 29) := ⟨⟨by decide +kernel, by decide +kernel⟩, List.mem_of_getElem? (i := 875) (by decide +kernel), List.mem_of_getElem? (i := 1120) (by decide +kernel), List.mem_of_getElem? (i := 1121) (by decide +kernel)⟩
theorem lw_p54 : lw_okq (⟨"LastHappenedModel", "areStreets", "(I)Z"⟩, 29) := ⟨⟨by decide +kernel, by decide +kernel⟩, List.mem_of_getElem? (i := 875) (by decide +kernel), List.mem_of_getElem? (i := 1139) (by decide +kernel), List.mem_of_getElem? (i := 1140) (by decide +kernel)⟩
theorem lw_p55 : lw_okq (⟨"LastHappenedModel", "tryStages", "(III)Z"⟩, 29) := ⟨⟨by decide +kernel, by decide +kernel⟩, List.mem_of_getElem? (i := 875) (by decide +kernel), List.mem_of_getElem? (i := 1151) (by decide +kernel), List.mem_of_getElem? (i := 1152) (by decide +kernel)⟩
theorem lw_p56 : lw_okq (⟨"LastHappenedModel", "gives", "(IIIIII)Z"⟩, 29) := ⟨⟨by decide +kernel, by decide +kernel⟩, List.mem_of_getElem? (i := 875) (by decide +kernel), List.mem_of_getElem? (i := 1155) (by decide +kernel), List.mem_of_getElem? (i := 1156) (by decide +kernel)⟩
theorem lw_p57 : lw_okq (⟨"LastHappenedModel", "stageOne", "(IIII)V"⟩, 29) := ⟨⟨by decide +kernel, by decide +kernel⟩, List.mem_of_getElem? (i := 875) (by decide +kernel), List.mem_of_getElem? (i := 1159) (by decide +kernel), List.mem_of_getElem? (i := 1160) (by decide +kernel)⟩
theorem lw_p58 : lw_okq (⟨"LastHappenedModel", "rentNow", "(I)I"⟩, 29) := ⟨⟨by decide +kernel, by decide +kernel⟩, List.mem_of_getElem? (i := 875) (by decide +kernel), List.mem_of_getElem? (i := 1171) (by decide +kernel), List.mem_of_getElem? (i := 1172) (by decide +kernel)⟩
theorem lw_p59 : lw_okq (⟨"LastHappenedModel", "layGets", "(IIII)V"⟩, 29) := ⟨⟨by decide +kernel, by decide +kernel⟩, List.mem_of_getElem? (i := 875) (by decide +kernel), List.mem_of_getElem? (i := 1179) (by decide +kernel), List.mem_of_getElem? (i := 1180) (by decide +kernel)⟩
theorem lw_p60 : lw_okq (⟨"LastHappenedModel", "dearest", "()I"⟩, 29) := ⟨⟨by decide +kernel, by decide +kernel⟩, List.mem_of_getElem? (i := 875) (by decide +kernel), List.mem_of_getElem? (i := 1183) (by decide +kernel), List.mem_of_getElem? (i := 1184) (by decide +kernel)⟩
theorem lw_p61 : lw_okq (⟨"LastHappenedModel", "goAlong", "(III)Z"⟩, 29) := ⟨⟨by decide +kernel, by decide +kernel⟩, List.mem_of_getElem? (i := 875) (by decide +kernel), List.mem_of_getElem? (i := 1191) (by decide +kernel), List.mem_of_getElem? (i := 1192) (by decide +kernel)⟩
theorem lw_p62 : lw_okq (⟨"LastHappenedModel", "areRead", "()Z"⟩, 29) := ⟨⟨by decide +kernel, by decide +kernel⟩, List.mem_of_getElem? (i := 875) (by decide +kernel), List.mem_of_getElem? (i := 1207) (by decide +kernel), List.mem_of_getElem? (i := 1208) (by decide +kernel)⟩
theorem lw_p63 : lw_okq (⟨"LastHappenedModel", "look", "(I)V"⟩, 29) := ⟨⟨by decide +kernel, by decide +kernel⟩, List.mem_of_getElem? (i := 875) (by decide +kernel), List.mem_of_getElem? (i := 1235) (by decide +kernel), List.mem_of_getElem? (i := 1236) (by decide +kernel)⟩
def lw_privs_4 : List (MethodName × Nat) := [(⟨"LastHappenedModel", "allEvents", "()I"⟩, 29), (⟨"LastHappenedModel", "run", "(I)V"⟩, 29), (⟨"LastHappenedModel", "happen", "(IIIIII)V"⟩, 29), (⟨"LastHappenedModel", "rename", "(IIIII)V"⟩, 29), (⟨"LastHappenedModel", "nameIn", "(II)I"⟩, 29), (⟨"LastHappenedModel", "whichIn", "(II)I"⟩, 29), (⟨"LastHappenedModel", "areStreets", "(I)Z"⟩, 29), (⟨"LastHappenedModel", "tryStages", "(III)Z"⟩, 29), (⟨"LastHappenedModel", "gives", "(IIIIII)Z"⟩, 29), (⟨"LastHappenedModel", "stageOne", "(IIII)V"⟩, 29), (⟨"LastHappenedModel", "rentNow", "(I)I"⟩, 29), (⟨"LastHappenedModel", "layGets", "(IIII)V"⟩, 29), (⟨"LastHappenedModel", "dearest", "()I"⟩, 29), (⟨"LastHappenedModel", "goAlong", "(III)Z"⟩, 29), (⟨"LastHappenedModel", "areRead", "()Z"⟩, 29), (⟨"LastHappenedModel", "look", "(I)V"⟩, 29)]
theorem lw_r4 : ∀ q ∈ lw_privs_4, lw_okq q := List.forall_mem_cons.mpr ⟨lw_p48, List.forall_mem_cons.mpr ⟨lw_p49, List.forall_mem_cons.mpr ⟨lw_p50, List.forall_mem_cons.mpr ⟨lw_p51, List.forall_mem_cons.mpr ⟨lw_p52, List.forall_mem_cons.mpr ⟨lw_p53, List.forall_mem_cons.mpr ⟨lw_p54, List.forall_mem_cons.mpr ⟨lw_p55, List.forall_mem_cons.mpr ⟨lw_p56, List.forall_mem_cons.mpr ⟨lw_p57, List.forall_mem_cons.mpr ⟨lw_p58, List.forall_mem_cons.mpr ⟨lw_p59, List.forall_mem_cons.mpr ⟨lw_p60, List.forall_mem_cons.mpr ⟨lw_p61, List.forall_mem_cons.mpr ⟨lw_p62, List.forall_mem_cons.mpr ⟨lw_p63, fun _ h => absurd h List.not_mem_nil⟩⟩⟩⟩⟩⟩⟩⟩⟩⟩⟩⟩⟩⟩⟩⟩
theorem lw_p64 : lw_okq (⟨"LastHappenedModel", "readsFirst", "()Z"⟩, 29) := ⟨⟨by decide +kernel, by decide +kernel⟩, List.mem_of_getElem? (i := 875) (by decide +kernel), List.mem_of_getElem? (i := 1249) (by decide +kernel), List.mem_of_getElem? (i := 1250) (by decide +kernel)⟩
theorem lw_p65 : lw_okq (⟨"LastHappenedModel", "isCalled", "(IIIIIII)Z"⟩, 29) := ⟨⟨by decide +kernel, by decide +kernel⟩, List.mem_of_getElem? (i := 875) (by decide +kernel), List.mem_of_getElem? (i := 1253) (by decide +kernel), List.mem_of_getElem? (i := 1254) (by decide +kernel)⟩
theorem lw_p66 : lw_okq (⟨"LastHappenedModel", "goOn", "()V"⟩, 29) := ⟨⟨by decide +kernel, by decide +kernel⟩, List.mem_of_getElem? (i := 875) (by decide +kernel), List.mem_of_getElem? (i := 1257) (by decide +kernel), List.mem_of_getElem? (i := 1258) (by decide +kernel)⟩
theorem lw_p67 : lw_okq (⟨"LastHappenedModel", "takes", "(III)Z"⟩, 29) := ⟨⟨by decide +kernel, by decide +kernel⟩, List.mem_of_getElem? (i := 875) (by decide +kernel), List.mem_of_getElem? (i := 1261) (by decide +kernel), List.mem_of_getElem? (i := 1262) (by decide +kernel)⟩
theorem lw_p68 : lw_okq (⟨"LastHappenedModel", "readsItem", "()Z"⟩, 29) := ⟨⟨by decide +kernel, by decide +kernel⟩, List.mem_of_getElem? (i := 875) (by decide +kernel), List.mem_of_getElem? (i := 1265) (by decide +kernel), List.mem_of_getElem? (i := 1266) (by decide +kernel)⟩
theorem lw_p69 : lw_okq (⟨"LastHappenedModel", "readsStreet", "()Z"⟩, 29) := ⟨⟨by decide +kernel, by decide +kernel⟩, List.mem_of_getElem? (i := 875) (by decide +kernel), List.mem_of_getElem? (i := 1269) (by decide +kernel), List.mem_of_getElem? (i := 1270) (by decide +kernel)⟩
theorem lw_p70 : lw_okq (⟨"LastHappenedModel", "readsEvent", "()Z"⟩, 29) := ⟨⟨by decide +kernel, by decide +kernel⟩, List.mem_of_getElem? (i := 875) (by decide +kernel), List.mem_of_getElem? (i := 1273) (by decide +kernel), List.mem_of_getElem? (i := 1274) (by decide +kernel)⟩
theorem lw_p71 : lw_okq (⟨"LastHappenedModel", "readsRent", "()Z"⟩, 29) := ⟨⟨by decide +kernel, by decide +kernel⟩, List.mem_of_getElem? (i := 875) (by decide +kernel), List.mem_of_getElem? (i := 1277) (by decide +kernel), List.mem_of_getElem? (i := 1278) (by decide +kernel)⟩
theorem lw_p72 : lw_okq (⟨"LastHappenedModel", "counted", "(I)I"⟩, 29) := ⟨⟨by decide +kernel, by decide +kernel⟩, List.mem_of_getElem? (i := 875) (by decide +kernel), List.mem_of_getElem? (i := 1297) (by decide +kernel), List.mem_of_getElem? (i := 1298) (by decide +kernel)⟩
theorem lw_p73 : lw_okq (⟨"LastHappenedModel", "sums", "(JII)J"⟩, 29) := ⟨⟨by decide +kernel, by decide +kernel⟩, List.mem_of_getElem? (i := 875) (by decide +kernel), List.mem_of_getElem? (i := 1307) (by decide +kernel), List.mem_of_getElem? (i := 1308) (by decide +kernel)⟩
def lw_privs_5 : List (MethodName × Nat) := [(⟨"LastHappenedModel", "readsFirst", "()Z"⟩, 29), (⟨"LastHappenedModel", "isCalled", "(IIIIIII)Z"⟩, 29), (⟨"LastHappenedModel", "goOn", "()V"⟩, 29), (⟨"LastHappenedModel", "takes", "(III)Z"⟩, 29), (⟨"LastHappenedModel", "readsItem", "()Z"⟩, 29), (⟨"LastHappenedModel", "readsStreet", "()Z"⟩, 29), (⟨"LastHappenedModel", "readsEvent", "()Z"⟩, 29), (⟨"LastHappenedModel", "readsRent", "()Z"⟩, 29), (⟨"LastHappenedModel", "counted", "(I)I"⟩, 29), (⟨"LastHappenedModel", "sums", "(JII)J"⟩, 29)]
theorem lw_r5 : ∀ q ∈ lw_privs_5, lw_okq q := List.forall_mem_cons.mpr ⟨lw_p64, List.forall_mem_cons.mpr ⟨lw_p65, List.forall_mem_cons.mpr ⟨lw_p66, List.forall_mem_cons.mpr ⟨lw_p67, List.forall_mem_cons.mpr ⟨lw_p68, List.forall_mem_cons.mpr ⟨lw_p69, List.forall_mem_cons.mpr ⟨lw_p70, List.forall_mem_cons.mpr ⟨lw_p71, List.forall_mem_cons.mpr ⟨lw_p72, List.forall_mem_cons.mpr ⟨lw_p73, fun _ h => absurd h List.not_mem_nil⟩⟩⟩⟩⟩⟩⟩⟩⟩⟩
def lw_privs : List (MethodName × Nat) := lw_privs_1 ++ (lw_privs_2 ++ (lw_privs_3 ++ (lw_privs_4 ++ (lw_privs_5))))
def lw_tbl : List Cond := k2_sels lw_privs ++ tables_1
theorem lw_privs_ok : ∀ q ∈ lw_privs, lw_okq q := by
  show ∀ q ∈ lw_privs_1 ++ (lw_privs_2 ++ (lw_privs_3 ++ (lw_privs_4 ++ (lw_privs_5)))), lw_okq q
  exact List.forall_mem_append.mpr ⟨lw_r1, List.forall_mem_append.mpr ⟨lw_r2, List.forall_mem_append.mpr ⟨lw_r3, List.forall_mem_append.mpr ⟨lw_r4, lw_r5⟩⟩⟩⟩
-- ===== end of PART A; then your names; then what follows =====
/-! THE CLAIM OUT OF ONE WALK OF THE LAW'S BODY. Your part is whole_start (and what it stands on); all else here is the same for every law, but numbers. -/
def R_law : String := "LastHappenedLaw"
def lw_P (b : Addr) (xs : List Int32) (args : Array Value) (s : State) : Prop := args = #[.ref b] ∧ s.IntsAt b xs ∧ xs.length ≤ 3584 ∧ (Jvm.Cond.and given_1 narrow_1).before args s = true
def lw_Q (_ : Array Value) (s : State) (o : Outcome) (t : State) : Prop := o = .returned (some (.int 1)) ∧ Framed s o t [] 600000 7302250
def lw_Z (below : List Frame) (a : Array Value) (s : State) : State → Prop := fun t => ∃ o, t.status = .running ∧ Ended t below o ∧ lw_Q a s o t
/-- the law's own end, with 1 on the stack, nothing written that was there before, its room as the claim has it -/
theorem lw_ret {p : Program} {l : Launch} {e : Env} {s : State} {m : MethodId} {below : List Frame} {meth : Method} {c : Code} {b : Nat} (hx : p.tables.exec = Jvm.exec) (hb : c.code = code) (hr : meth.sig.returnType = ret) (hlocks : meth.locks = false) {pc : Nat} {H : Heap} {ls : Array Slot} (hdg : decode code pc = .ok (.ireturn, 1)) : W p l e room_1 s m #[Value.ref b] below meth c H [] 600000 7302250 (lw_Z below #[Value.ref b] s) (F0 m pc ls [.int 1]) := by
  intro T hT X
  obtain ⟨fs, hret, hrun, hended, hW, hframe⟩ := X.leave (v := some (.int 1)) (hlocks := hlocks) (fun h => by rw [hr] at h; cases h)
  have hmeth' : T.vm.method? m = some meth := X.method'
  refine ⟨T.setFrames fs, ?_, .returned (some (.int 1)), hrun, hended, rfl, ⟨_, rfl⟩, hW, hframe⟩
  jvm_step X.here [X.here.top, hx, hb, hdg, hmeth', hr, ret, narrow_b1]
  (try refine ⟨rfl, ?_⟩); (try refine ⟨rfl, ?_⟩)
  first | (intro acts; rw [hret _ acts rfl rfl rfl]) | rw [hret _ _ rfl rfl rfl]
  exact Steps.refl _
/-- what holds at the law's entry: the machine, the code, the tables' words (any of lw_tbl by 'hts w (by decide +kernel)'), the script of L ints xs at the cell b, what the Statement gives of the start (any of its parts by flat_of_before) -/
def lw_At (p : Program) (s : State) (m : MethodId) (meth : Method) (c : Code) (b L : Nat) (xs : Nat → Int32) : Prop :=
  p.tables.exec = Jvm.exec ∧ c.code = code ∧ meth.sig.returnType = ret ∧ c.maxLocals = 4 ∧ s.vm.findClass R_law = some m.cls ∧ (∀ w ∈ lw_tbl, w.before #[Value.ref b] s = true) ∧ va_X b L xs s s.heap ∧ b < s.heap.size ∧ meth.locks = false ∧ (Jvm.Cond.and given_1 narrow_1).before #[Value.ref b] s = true
end
section
/-! ===== BEGIN printed: names, fields, word lists, decode rows ===== -/
def RX0 : String := "LastHappened$Day"
def TX0 : u_T := fun k => match k with
  | 0 => ("LastHappened$Day", "happenings", "LLastHappened$Rows;", true)
  | 1 => ("LastHappened$Day", "row", "[I", true)
  | 2 => ("LastHappened$Day", "firstWord", "[I", true)
  | 3 => ("LastHappened$Day", "word", "[I", true)
  | 4 => ("LastHappened$Day", "number", "[I", true)
  | 5 => ("LastHappened$Day", "rank", "[I", true)
  | 6 => ("LastHappened$Day", "till", "[I", true)
  | 7 => ("LastHappened$Day", "streets", "I", false)
  | 8 => ("LastHappened$Day", "law", "I", false)
  | _ => ("LastHappened$Day", "next", "I", false)
def tyX0 : Nat → FieldType := fun k => match k with
  | 0 => .object "LastHappened$Rows"
  | 1 => .array .int
  | 2 => .array .int
  | 3 => .array .int
  | 4 => .array .int
  | 5 => .array .int
  | 6 => .array .int
  | 7 => .int
  | 8 => .int
  | _ => .int
abbrev wsX00 : List Cond := u_ws RX0 TX0 10
theorem nmX0 : ∀ a, a < 10 → ∀ b, b < 10 → a ≠ b → (TX0 a).2.1 ≠ (TX0 b).2.1 := by decide +kernel
theorem tyX0_ok : ∀ k, k < 10 → parseFieldDescriptor (TX0 k).2.2.1 = some (tyX0 k) := by decide +kernel
abbrev cX0_init : ByteArray := prog_2_method_1_code
def yX0_init : MethodName := ⟨RX0, "<init>", "()V"⟩
abbrev cX0_plan : ByteArray := prog_2_method_2_code
def yX0_plan : MethodName := ⟨RX0, "plan", "(LLastHappened$Town;)V"⟩
abbrev cX0_planEvent : ByteArray := prog_2_method_3_code
def yX0_planEvent : MethodName := ⟨RX0, "planEvent", "(LLastHappened$Town;I)V"⟩
abbrev cX0_addStaged : ByteArray := prog_2_method_4_code
def yX0_addStaged : MethodName := ⟨RX0, "addStaged", "(III)I"⟩
abbrev cX0_dropStaged : ByteArray := prog_2_method_5_code
def yX0_dropStaged : MethodName := ⟨RX0, "dropStaged", "(I)V"⟩
abbrev cX0_placeBehind : ByteArray := prog_2_method_6_code
def yX0_placeBehind : MethodName := ⟨RX0, "placeBehind", "(I)I"⟩
abbrev cX0_streets : ByteArray := prog_2_method_7_code
def yX0_streets : MethodName := ⟨RX0, "streets", "()I"⟩
abbrev cX0_firstWordOf : ByteArray := prog_2_method_8_code
def yX0_firstWordOf : MethodName := ⟨RX0, "firstWordOf", "(I)I"⟩
abbrev cX0_wordIn : ByteArray := prog_2_method_9_code
def yX0_wordIn : MethodName := ⟨RX0, "wordIn", "(III)I"⟩
abbrev cX0_renamings : ByteArray := prog_2_method_10_code
def yX0_renamings : MethodName := ⟨RX0, "renamings", "(II)I"⟩
abbrev cX0_rentOf : ByteArray := prog_2_method_11_code
def yX0_rentOf : MethodName := ⟨RX0, "rentOf", "(ILLastHappened$Town;)I"⟩
abbrev cX0_begin : ByteArray := prog_2_method_12_code
def yX0_begin : MethodName := ⟨RX0, "begin", "(I)V"⟩
abbrev cX0_live : ByteArray := prog_2_method_13_code
def yX0_live : MethodName := ⟨RX0, "live", "(III)I"⟩
abbrev cX0_beginAll : ByteArray := prog_2_method_14_code
def yX0_beginAll : MethodName := ⟨RX0, "beginAll", "()V"⟩
abbrev cX0_liveAll : ByteArray := prog_2_method_15_code
def yX0_liveAll : MethodName := ⟨RX0, "liveAll", "(I)V"⟩
abbrev cX0_nameNow : ByteArray := prog_2_method_16_code
def yX0_nameNow : MethodName := ⟨RX0, "nameNow", "(I)I"⟩
abbrev cX0_isRenamed : ByteArray := prog_2_method_17_code
def yX0_isRenamed : MethodName := ⟨RX0, "isRenamed", "(II)Z"⟩
abbrev cX0_yields : ByteArray := prog_2_method_18_code
def yX0_yields : MethodName := ⟨RX0, "yields", "(III)Z"⟩
abbrev cX0_numberFor : ByteArray := prog_2_method_19_code
def yX0_numberFor : MethodName := ⟨RX0, "numberFor", "(I)I"⟩
def RX1 : String := "LastHappened$Names"
def TX1 : u_T := fun k => match k with
  | 0 => ("LastHappened$Names", "day", "LLastHappened$Day;", true)
  | _ => ("LastHappened$Names", "names", "[I", true)
def tyX1 : Nat → FieldType := fun k => match k with
  | 0 => .object "LastHappened$Day"
  | _ => .array .int
abbrev wsX10 : List Cond := u_ws RX1 TX1 2
theorem nmX1 : ∀ a, a < 2 → ∀ b, b < 2 → a ≠ b → (TX1 a).2.1 ≠ (TX1 b).2.1 := by decide +kernel
theorem tyX1_ok : ∀ k, k < 2 → parseFieldDescriptor (TX1 k).2.2.1 = some (tyX1 k) := by decide +kernel
abbrev cX1_init : ByteArray := prog_3_method_1_code
def yX1_init : MethodName := ⟨RX1, "<init>", "(LLastHappened$Day;)V"⟩
abbrev cX1_write : ByteArray := prog_3_method_2_code
def yX1_write : MethodName := ⟨RX1, "write", "(LLastHappened$Town;)V"⟩
abbrev cX1_at : ByteArray := prog_3_method_3_code
def yX1_at : MethodName := ⟨RX1, "at", "(II)I"⟩
abbrev cX1_having : ByteArray := prog_3_method_4_code
def yX1_having : MethodName := ⟨RX1, "having", "(II)I"⟩
abbrev cX1_firstHaving : ByteArray := prog_3_method_5_code
def yX1_firstHaving : MethodName := ⟨RX1, "firstHaving", "(II)I"⟩
abbrev cX1_mostAlike : ByteArray := prog_3_method_6_code
def yX1_mostAlike : MethodName := ⟨RX1, "mostAlike", "(II)I"⟩
def RX2 : String := "LastHappened$Rows"
def TX2 : u_T := fun k => match k with
  | 0 => ("LastHappened$Rows", "width", "I", true)
  | 1 => ("LastHappened$Rows", "cells", "[I", true)
  | _ => ("LastHappened$Rows", "size", "I", false)
def tyX2 : Nat → FieldType := fun k => match k with
  | 0 => .int
  | 1 => .array .int
  | _ => .int
abbrev wsX20 : List Cond := u_ws RX2 TX2 3
theorem nmX2 : ∀ a, a < 3 → ∀ b, b < 3 → a ≠ b → (TX2 a).2.1 ≠ (TX2 b).2.1 := by decide +kernel
theorem tyX2_ok : ∀ k, k < 3 → parseFieldDescriptor (TX2 k).2.2.1 = some (tyX2 k) := by decide +kernel
abbrev cX2_init : ByteArray := prog_4_method_1_code
def yX2_init : MethodName := ⟨RX2, "<init>", "(II)V"⟩
abbrev cX2_size : ByteArray := prog_4_method_2_code
def yX2_size : MethodName := ⟨RX2, "size", "()I"⟩
abbrev cX2_isFull : ByteArray := prog_4_method_3_code
def yX2_isFull : MethodName := ⟨RX2, "isFull", "()Z"⟩
abbrev cX2_cell : ByteArray := prog_4_method_4_code
def yX2_cell : MethodName := ⟨RX2, "cell", "(II)I"⟩
abbrev cX2_add : ByteArray := prog_4_method_5_code
def yX2_add : MethodName := ⟨RX2, "add", "([I)V"⟩
abbrev cX2_insert : ByteArray := prog_4_method_6_code
def yX2_insert : MethodName := ⟨RX2, "insert", "(I[I)V"⟩
abbrev cX2_drop : ByteArray := prog_4_method_7_code
def yX2_drop : MethodName := ⟨RX2, "drop", "(I)V"⟩
abbrev cX2_empty : ByteArray := prog_4_method_8_code
def yX2_empty : MethodName := ⟨RX2, "empty", "()V"⟩
abbrev cX2_copy : ByteArray := prog_4_method_9_code
def yX2_copy : MethodName := ⟨RX2, "copy", "(LLastHappened$Rows;)V"⟩
abbrev cX2_mixInto : ByteArray := prog_4_method_10_code
def yX2_mixInto : MethodName := ⟨RX2, "mixInto", "(J)J"⟩
def RX3 : String := "LastHappened$Search"
def TX3 : u_T := fun k => match k with
  | 0 => ("LastHappened$Search", "day", "LLastHappened$Day;", true)
  | 1 => ("LastHappened$Search", "getsOfA", "[I", true)
  | 2 => ("LastHappened$Search", "getsOfB", "[I", true)
  | 3 => ("LastHappened$Search", "firstStaged", "I", false)
  | 4 => ("LastHappened$Search", "secondStaged", "I", false)
  | _ => ("LastHappened$Search", "inAllSets", "I", false)
def tyX3 : Nat → FieldType := fun k => match k with
  | 0 => .object "LastHappened$Day"
  | 1 => .array .int
  | 2 => .array .int
  | 3 => .int
  | 4 => .int
  | _ => .int
abbrev wsX30 : List Cond := u_ws RX3 TX3 6
theorem nmX3 : ∀ a, a < 6 → ∀ b, b < 6 → a ≠ b → (TX3 a).2.1 ≠ (TX3 b).2.1 := by decide +kernel
theorem tyX3_ok : ∀ k, k < 6 → parseFieldDescriptor (TX3 k).2.2.1 = some (tyX3 k) := by decide +kernel
abbrev cX3_init : ByteArray := prog_5_method_1_code
def yX3_init : MethodName := ⟨RX3, "<init>", "(LLastHappened$Day;)V"⟩
abbrev cX3_fewestStaged : ByteArray := prog_5_method_2_code
def yX3_fewestStaged : MethodName := ⟨RX3, "fewestStaged", "(III)I"⟩
abbrev cX3_hourStaged : ByteArray := prog_5_method_3_code
def yX3_hourStaged : MethodName := ⟨RX3, "hourStaged", "(I)I"⟩
abbrev cX3_hourOfOne : ByteArray := prog_5_method_4_code
def yX3_hourOfOne : MethodName := ⟨RX3, "hourOfOne", "(IIII)I"⟩
abbrev cX3_fewestForbidden : ByteArray := prog_5_method_5_code
def yX3_fewestForbidden : MethodName := ⟨RX3, "fewestForbidden", "(ILLastHappened$Town;)I"⟩
abbrev cX3_trueSets : ByteArray := prog_5_method_6_code
def yX3_trueSets : MethodName := ⟨RX3, "trueSets", "(LLastHappened$Town;)I"⟩
abbrev cX3_inAllTrueSets : ByteArray := prog_5_method_7_code
def yX3_inAllTrueSets : MethodName := ⟨RX3, "inAllTrueSets", "()I"⟩
abbrev cX3_agrees : ByteArray := prog_5_method_8_code
def yX3_agrees : MethodName := ⟨RX3, "agrees", "(ILLastHappened$Rows;)Z"⟩
abbrev cX3_weighPairs : ByteArray := prog_5_method_9_code
def yX3_weighPairs : MethodName := ⟨RX3, "weighPairs", "(IIIILLastHappened$Town;)V"⟩
abbrev cX3_pairsThatRest : ByteArray := prog_5_method_10_code
def yX3_pairsThatRest : MethodName := ⟨RX3, "pairsThatRest", "()I"⟩
abbrev cX3_renamingsOfDays : ByteArray := prog_5_method_11_code
def yX3_renamingsOfDays : MethodName := ⟨RX3, "renamingsOfDays", "(IIILLastHappened$Town;)I"⟩
def RX4 : String := "LastHappened$Text"
def TX4 : u_T := fun k => match k with
  | 0 => ("LastHappened$Text", "bytes", "[I", true)
  | 1 => ("LastHappened$Text", "told", "[I", true)
  | 2 => ("LastHappened$Text", "size", "I", false)
  | 3 => ("LastHappened$Text", "next", "I", false)
  | 4 => ("LastHappened$Text", "sort", "I", false)
  | _ => ("LastHappened$Text", "start", "I", false)
def tyX4 : Nat → FieldType := fun k => match k with
  | 0 => .array .int
  | 1 => .array .int
  | 2 => .int
  | 3 => .int
  | 4 => .int
  | _ => .int
abbrev wsX40 : List Cond := u_ws RX4 TX4 6
theorem nmX4 : ∀ a, a < 6 → ∀ b, b < 6 → a ≠ b → (TX4 a).2.1 ≠ (TX4 b).2.1 := by decide +kernel
theorem tyX4_ok : ∀ k, k < 6 → parseFieldDescriptor (TX4 k).2.2.1 = some (tyX4 k) := by decide +kernel
abbrev cX4_init : ByteArray := prog_6_method_1_code
def yX4_init : MethodName := ⟨RX4, "<init>", "()V"⟩
abbrev cX4_size : ByteArray := prog_6_method_2_code
def yX4_size : MethodName := ⟨RX4, "size", "()I"⟩
abbrev cX4_isFull : ByteArray := prog_6_method_3_code
def yX4_isFull : MethodName := ⟨RX4, "isFull", "()Z"⟩
abbrev cX4_add : ByteArray := prog_6_method_4_code
def yX4_add : MethodName := ⟨RX4, "add", "(I)V"⟩
abbrev cX4_empty : ByteArray := prog_6_method_5_code
def yX4_empty : MethodName := ⟨RX4, "empty", "()V"⟩
abbrev cX4_readInto : ByteArray := prog_6_method_6_code
def yX4_readInto : MethodName := ⟨RX4, "readInto", "(LLastHappened$Town;)I"⟩
abbrev cX4_takeItem : ByteArray := prog_6_method_7_code
def yX4_takeItem : MethodName := ⟨RX4, "takeItem", "(LLastHappened$Town;Z)Z"⟩
abbrev cX4_itemCalled : ByteArray := prog_6_method_8_code
def yX4_itemCalled : MethodName := ⟨RX4, "itemCalled", "()I"⟩
abbrev cX4_isWord : ByteArray := prog_6_method_9_code
def yX4_isWord : MethodName := ⟨RX4, "isWord", "(Ljava/lang/String;)Z"⟩
abbrev cX4_value : ByteArray := prog_6_method_10_code
def yX4_value : MethodName := ⟨RX4, "value", "()I"⟩
abbrev cX4_findToken : ByteArray := prog_6_method_11_code
def yX4_findToken : MethodName := ⟨RX4, "findToken", "()V"⟩
abbrev cX4_byteAt : ByteArray := prog_6_method_12_code
def yX4_byteAt : MethodName := ⟨RX4, "byteAt", "(I)I"⟩
abbrev cX4_isLetter : ByteArray := prog_6_method_13_code
def yX4_isLetter : MethodName := ⟨RX4, "isLetter", "(I)Z"⟩
abbrev cX4_isFigure : ByteArray := prog_6_method_14_code
def yX4_isFigure : MethodName := ⟨RX4, "isFigure", "(I)Z"⟩
def RX5 : String := "LastHappened$Town"
def TX5 : u_T := fun k => match k with
  | 0 => ("LastHappened$Town", "streets", "LLastHappened$Rows;", true)
  | 1 => ("LastHappened$Town", "events", "LLastHappened$Rows;", true)
  | 2 => ("LastHappened$Town", "readings", "LLastHappened$Rows;", true)
  | 3 => ("LastHappened$Town", "past", "LLastHappened$Rows;", true)
  | 4 => ("LastHappened$Town", "rentOfWord", "[I", true)
  | 5 => ("LastHappened$Town", "old", "[I", true)
  | 6 => ("LastHappened$Town", "row", "[I", true)
  | _ => ("LastHappened$Town", "law", "I", false)
def tyX5 : Nat → FieldType := fun k => match k with
  | 0 => .object "LastHappened$Rows"
  | 1 => .object "LastHappened$Rows"
  | 2 => .object "LastHappened$Rows"
  | 3 => .object "LastHappened$Rows"
  | 4 => .array .int
  | 5 => .array .int
  | 6 => .array .int
  | _ => .int
abbrev wsX50 : List Cond := u_ws RX5 TX5 8
theorem nmX5 : ∀ a, a < 8 → ∀ b, b < 8 → a ≠ b → (TX5 a).2.1 ≠ (TX5 b).2.1 := by decide +kernel
theorem tyX5_ok : ∀ k, k < 8 → parseFieldDescriptor (TX5 k).2.2.1 = some (tyX5 k) := by decide +kernel
abbrev cX5_init : ByteArray := prog_7_method_1_code
def yX5_init : MethodName := ⟨RX5, "<init>", "()V"⟩
abbrev cX5_fits : ByteArray := prog_7_method_2_code
def yX5_fits : MethodName := ⟨RX5, "fits", "(II[I)Z"⟩
abbrev cX5_hasNoRoomFor : ByteArray := prog_7_method_3_code
def yX5_hasNoRoomFor : MethodName := ⟨RX5, "hasNoRoomFor", "(I)Z"⟩
abbrev cX5_take : ByteArray := prog_7_method_4_code
def yX5_take : MethodName := ⟨RX5, "take", "(I[I)I"⟩
abbrev cX5_begin : ByteArray := prog_7_method_5_code
def yX5_begin : MethodName := ⟨RX5, "begin", "(I)I"⟩
abbrev cX5_changeRent : ByteArray := prog_7_method_6_code
def yX5_changeRent : MethodName := ⟨RX5, "changeRent", "(II)I"⟩
abbrev cX5_dropEvent : ByteArray := prog_7_method_7_code
def yX5_dropEvent : MethodName := ⟨RX5, "dropEvent", "(I)V"⟩
abbrev cX5_changeLaw : ByteArray := prog_7_method_8_code
def yX5_changeLaw : MethodName := ⟨RX5, "changeLaw", "(I)I"⟩
abbrev cX5_remember : ByteArray := prog_7_method_9_code
def yX5_remember : MethodName := ⟨RX5, "remember", "()V"⟩
abbrev cX5_goBack : ByteArray := prog_7_method_10_code
def yX5_goBack : MethodName := ⟨RX5, "goBack", "()V"⟩
abbrev cX5_forgetPast : ByteArray := prog_7_method_11_code
def yX5_forgetPast : MethodName := ⟨RX5, "forgetPast", "()V"⟩
abbrev cX5_needed : ByteArray := prog_7_method_12_code
def yX5_needed : MethodName := ⟨RX5, "needed", "(I)I"⟩
abbrev cX5_isSeenByEnough : ByteArray := prog_7_method_13_code
def yX5_isSeenByEnough : MethodName := ⟨RX5, "isSeenByEnough", "(I)Z"⟩
abbrev cX5_rankGiven : ByteArray := prog_7_method_14_code
def yX5_rankGiven : MethodName := ⟨RX5, "rankGiven", "(I)I"⟩
abbrev cX5_hoursGiven : ByteArray := prog_7_method_15_code
def yX5_hoursGiven : MethodName := ⟨RX5, "hoursGiven", "(I)I"⟩
abbrev cX5_streetsOf : ByteArray := prog_7_method_16_code
def yX5_streetsOf : MethodName := ⟨RX5, "streetsOf", "(I)I"⟩
abbrev cX5_kindOf : ByteArray := prog_7_method_17_code
def yX5_kindOf : MethodName := ⟨RX5, "kindOf", "(I)I"⟩
abbrev cX5_meet : ByteArray := prog_7_method_18_code
def yX5_meet : MethodName := ⟨RX5, "meet", "(II)Z"⟩
abbrev cX5_rentAt : ByteArray := prog_7_method_19_code
def yX5_rentAt : MethodName := ⟨RX5, "rentAt", "(I)I"⟩
abbrev cX5_dearestWord : ByteArray := prog_7_method_20_code
def yX5_dearestWord : MethodName := ⟨RX5, "dearestWord", "()I"⟩
abbrev cX5_copy : ByteArray := prog_7_method_21_code
def yX5_copy : MethodName := ⟨RX5, "copy", "(LLastHappened$Town;)V"⟩
abbrev cX5_mixInto : ByteArray := prog_7_method_22_code
def yX5_mixInto : MethodName := ⟨RX5, "mixInto", "(J)J"⟩
def RX6 : String := "LastHappened$Walks"
def TX6 : u_T := fun k => match k with
  | 0 => ("LastHappened$Walks", "between", "[I", true)
  | _ => ("LastHappened$Walks", "fewest", "[I", true)
def tyX6 : Nat → FieldType := fun k => match k with
  | 0 => .array .int
  | _ => .array .int
abbrev wsX60 : List Cond := u_ws RX6 TX6 2
theorem nmX6 : ∀ a, a < 2 → ∀ b, b < 2 → a ≠ b → (TX6 a).2.1 ≠ (TX6 b).2.1 := by decide +kernel
theorem tyX6_ok : ∀ k, k < 2 → parseFieldDescriptor (TX6 k).2.2.1 = some (tyX6 k) := by decide +kernel
abbrev cX6_init : ByteArray := prog_8_method_1_code
def yX6_init : MethodName := ⟨RX6, "<init>", "()V"⟩
abbrev cX6_shortest : ByteArray := prog_8_method_2_code
def yX6_shortest : MethodName := ⟨RX6, "shortest", "(LLastHappened$Rows;II)I"⟩
abbrev cX6_measure : ByteArray := prog_8_method_3_code
def yX6_measure : MethodName := ⟨RX6, "measure", "(LLastHappened$Rows;)V"⟩
abbrev cX6_shorten : ByteArray := prog_8_method_4_code
def yX6_shorten : MethodName := ⟨RX6, "shorten", "(III)V"⟩
abbrev cX6_goOn : ByteArray := prog_8_method_5_code
def yX6_goOn : MethodName := ⟨RX6, "goOn", "(LLastHappened$Rows;II)V"⟩
abbrev cX6_soonest : ByteArray := prog_8_method_6_code
def yX6_soonest : MethodName := ⟨RX6, "soonest", "(II)I"⟩
abbrev cX6_reach : ByteArray := prog_8_method_7_code
def yX6_reach : MethodName := ⟨RX6, "reach", "(III)V"⟩
def RX7 : String := "LastHappened"
def TX7 : u_T := fun k => match k with
  | 0 => ("LastHappened", "town", "LLastHappened$Town;", true)
  | 1 => ("LastHappened", "fresh", "LLastHappened$Town;", true)
  | 2 => ("LastHappened", "firstImage", "LLastHappened$Town;", true)
  | 3 => ("LastHappened", "secondImage", "LLastHappened$Town;", true)
  | 4 => ("LastHappened", "text", "LLastHappened$Text;", true)
  | 5 => ("LastHappened", "day", "LLastHappened$Day;", true)
  | 6 => ("LastHappened", "names", "LLastHappened$Names;", true)
  | 7 => ("LastHappened", "search", "LLastHappened$Search;", true)
  | 8 => ("LastHappened", "walks", "LLastHappened$Walks;", true)
  | 9 => ("LastHappened", "told", "[I", true)
  | 10 => ("LastHappened", "keptImages", "I", false)
  | 11 => ("LastHappened", "bads", "I", false)
  | 12 => ("LastHappened", "noes", "I", false)
  | _ => ("LastHappened", "fulls", "I", false)
def tyX7 : Nat → FieldType := fun k => match k with
  | 0 => .object "LastHappened$Town"
  | 1 => .object "LastHappened$Town"
  | 2 => .object "LastHappened$Town"
  | 3 => .object "LastHappened$Town"
  | 4 => .object "LastHappened$Text"
  | 5 => .object "LastHappened$Day"
  | 6 => .object "LastHappened$Names"
  | 7 => .object "LastHappened$Search"
  | 8 => .object "LastHappened$Walks"
  | 9 => .array .int
  | 10 => .int
  | 11 => .int
  | 12 => .int
  | _ => .int
abbrev wsX70 : List Cond := u_ws RX7 TX7 14
theorem nmX7 : ∀ a, a < 14 → ∀ b, b < 14 → a ≠ b → (TX7 a).2.1 ≠ (TX7 b).2.1 := by decide +kernel
theorem tyX7_ok : ∀ k, k < 14 → parseFieldDescriptor (TX7 k).2.2.1 = some (tyX7 k) := by decide +kernel
abbrev cX7_init : ByteArray := prog_1_method_1_code
def yX7_init : MethodName := ⟨RX7, "<init>", "()V"⟩
abbrev cX7_town : ByteArray := prog_1_method_2_code
def yX7_town : MethodName := ⟨RX7, "town", "(I)I"⟩
abbrev cX7_street : ByteArray := prog_1_method_3_code
def yX7_street : MethodName := ⟨RX7, "street", "(IIII)I"⟩
abbrev cX7_event : ByteArray := prog_1_method_4_code
def yX7_event : MethodName := ⟨RX7, "event", "(IIIIII)I"⟩
abbrev cX7_back : ByteArray := prog_1_method_5_code
def yX7_back : MethodName := ⟨RX7, "back", "(I)I"⟩
abbrev cX7_law : ByteArray := prog_1_method_6_code
def yX7_law : MethodName := ⟨RX7, "law", "(I)I"⟩
abbrev cX7_undo : ByteArray := prog_1_method_7_code
def yX7_undo : MethodName := ⟨RX7, "undo", "()I"⟩
abbrev cX7_rent : ByteArray := prog_1_method_8_code
def yX7_rent : MethodName := ⟨RX7, "rent", "(II)I"⟩
abbrev cX7_type : ByteArray := prog_1_method_9_code
def yX7_type : MethodName := ⟨RX7, "type", "(I)I"⟩
abbrev cX7_clear : ByteArray := prog_1_method_10_code
def yX7_clear : MethodName := ⟨RX7, "clear", "()I"⟩
abbrev cX7_read : ByteArray := prog_1_method_11_code
def yX7_read : MethodName := ⟨RX7, "read", "()I"⟩
abbrev cX7_of : ByteArray := prog_1_method_12_code
def yX7_of : MethodName := ⟨RX7, "of", "(II)I"⟩
abbrev cX7_name : ByteArray := prog_1_method_13_code
def yX7_name : MethodName := ⟨RX7, "name", "(II)I"⟩
abbrev cX7_changes : ByteArray := prog_1_method_14_code
def yX7_changes : MethodName := ⟨RX7, "changes", "(I)I"⟩
abbrev cX7_which : ByteArray := prog_1_method_15_code
def yX7_which : MethodName := ⟨RX7, "which", "(III)I"⟩
abbrev cX7_letter : ByteArray := prog_1_method_16_code
def yX7_letter : MethodName := ⟨RX7, "letter", "(III)I"⟩
abbrev cX7_cab : ByteArray := prog_1_method_17_code
def yX7_cab : MethodName := ⟨RX7, "cab", "(III)I"⟩
abbrev cX7_find : ByteArray := prog_1_method_18_code
def yX7_find : MethodName := ⟨RX7, "find", "(II)I"⟩
abbrev cX7_stage : ByteArray := prog_1_method_19_code
def yX7_stage : MethodName := ⟨RX7, "stage", "(IIII)I"⟩
abbrev cX7_forbid : ByteArray := prog_1_method_20_code
def yX7_forbid : MethodName := ⟨RX7, "forbid", "(I)I"⟩
abbrev cX7_rents : ByteArray := prog_1_method_21_code
def yX7_rents : MethodName := ⟨RX7, "rents", "(I)I"⟩
abbrev cX7_landlords : ByteArray := prog_1_method_22_code
def yX7_landlords : MethodName := ⟨RX7, "landlords", "(IIII)I"⟩
abbrev cX7_round : ByteArray := prog_1_method_23_code
def yX7_round : MethodName := ⟨RX7, "round", "(II)I"⟩
abbrev cX7_reading : ByteArray := prog_1_method_24_code
def yX7_reading : MethodName := ⟨RX7, "reading", "(III)I"⟩
abbrev cX7_burn : ByteArray := prog_1_method_25_code
def yX7_burn : MethodName := ⟨RX7, "burn", "()I"⟩
abbrev cX7_truly : ByteArray := prog_1_method_26_code
def yX7_truly : MethodName := ⟨RX7, "truly", "(I)I"⟩
abbrev cX7_drawn : ByteArray := prog_1_method_27_code
def yX7_drawn : MethodName := ⟨RX7, "drawn", "(III)I"⟩
abbrev cX7_image : ByteArray := prog_1_method_28_code
def yX7_image : MethodName := ⟨RX7, "image", "(I)I"⟩
abbrev cX7_from : ByteArray := prog_1_method_29_code
def yX7_from : MethodName := ⟨RX7, "from", "(I)I"⟩
abbrev cX7_status : ByteArray := prog_1_method_30_code
def yX7_status : MethodName := ⟨RX7, "status", "(I)I"⟩
abbrev cX7_count : ByteArray := prog_1_method_31_code
def yX7_count : MethodName := ⟨RX7, "count", "(I)I"⟩
abbrev cX7_digest : ByteArray := prog_1_method_32_code
def yX7_digest : MethodName := ⟨RX7, "digest", "()J"⟩
abbrev cX7_isBelow : ByteArray := prog_1_method_33_code
def yX7_isBelow : MethodName := ⟨RX7, "isBelow", "(II)Z"⟩
abbrev cX7_isHour : ByteArray := prog_1_method_34_code
def yX7_isHour : MethodName := ⟨RX7, "isHour", "(I)Z"⟩
abbrev cX7_holds : ByteArray := prog_1_method_35_code
def yX7_holds : MethodName := ⟨RX7, "holds", "(II)Z"⟩
abbrev cX7_isStreet : ByteArray := prog_1_method_36_code
def yX7_isStreet : MethodName := ⟨RX7, "isStreet", "(I)Z"⟩
abbrev cX7_areStreets : ByteArray := prog_1_method_37_code
def yX7_areStreets : MethodName := ⟨RX7, "areStreets", "(I)Z"⟩
abbrev cX7_tell : ByteArray := prog_1_method_38_code
def yX7_tell : MethodName := ⟨RX7, "tell", "(I)I"⟩
abbrev cX7_imageOf : ByteArray := prog_1_method_39_code
def yX7_imageOf : MethodName := ⟨RX7, "imageOf", "(I)LLastHappened$Town;"⟩
abbrev cX7_countOf : ByteArray := prog_1_method_40_code
def yX7_countOf : MethodName := ⟨RX7, "countOf", "(I)I"⟩
abbrev cX7_refuseBad : ByteArray := prog_1_method_41_code
def yX7_refuseBad : MethodName := ⟨RX7, "refuseBad", "()I"⟩
abbrev cX7_refuseNo : ByteArray := prog_1_method_42_code
def yX7_refuseNo : MethodName := ⟨RX7, "refuseNo", "()I"⟩
abbrev cX7_refuseFull : ByteArray := prog_1_method_43_code
def yX7_refuseFull : MethodName := ⟨RX7, "refuseFull", "()I"⟩
abbrev cX7_rankBy : ByteArray := prog_1_method_44_code
def yX7_rankBy : MethodName := ⟨RX7, "rankBy", "(II)I"⟩
def RX8 : String := "LastHappenedModel"
def TX8 : u_T := fun k => match k with
  | 0 => ("LastHappenedModel", "now", "[I", true)
  | 1 => ("LastHappenedModel", "kept", "[I", true)
  | 2 => ("LastHappenedModel", "isKept", "[Z", true)
  | 3 => ("LastHappenedModel", "refused", "[I", true)
  | 4 => ("LastHappenedModel", "words", "[I", true)
  | 5 => ("LastHappenedModel", "numbers", "[I", true)
  | 6 => ("LastHappenedModel", "word", "[I", true)
  | 7 => ("LastHappenedModel", "number", "[I", true)
  | 8 => ("LastHappenedModel", "ranks", "[I", true)
  | 9 => ("LastHappenedModel", "till", "[I", true)
  | 10 => ("LastHappenedModel", "renamed", "[I", true)
  | 11 => ("LastHappenedModel", "staged", "I", false)
  | 12 => ("LastHappenedModel", "stagedIn", "[I", true)
  | 13 => ("LastHappenedModel", "stagedAt", "[I", true)
  | 14 => ("LastHappenedModel", "stagedCalls", "[I", true)
  | 15 => ("LastHappenedModel", "stages", "I", false)
  | 16 => ("LastHappenedModel", "firstHour", "I", false)
  | 17 => ("LastHappenedModel", "secondHour", "I", false)
  | 18 => ("LastHappenedModel", "getsA", "[I", true)
  | 19 => ("LastHappenedModel", "getsB", "[I", true)
  | 20 => ("LastHappenedModel", "fewestTo", "[I", true)
  | 21 => ("LastHappenedModel", "bytes", "[I", true)
  | 22 => ("LastHappenedModel", "bytesLong", "I", false)
  | 23 => ("LastHappenedModel", "tokenAt", "I", false)
  | 24 => ("LastHappenedModel", "tokenLong", "I", false)
  | 25 => ("LastHappenedModel", "token", "I", false)
  | 26 => ("LastHappenedModel", "value", "I", false)
  | 27 => ("LastHappenedModel", "next", "[I", true)
  | _ => ("LastHappenedModel", "values", "[I", true)
def tyX8 : Nat → FieldType := fun k => match k with
  | 0 => .array .int
  | 1 => .array .int
  | 2 => .array .boolean
  | 3 => .array .int
  | 4 => .array .int
  | 5 => .array .int
  | 6 => .array .int
  | 7 => .array .int
  | 8 => .array .int
  | 9 => .array .int
  | 10 => .array .int
  | 11 => .int
  | 12 => .array .int
  | 13 => .array .int
  | 14 => .array .int
  | 15 => .int
  | 16 => .int
  | 17 => .int
  | 18 => .array .int
  | 19 => .array .int
  | 20 => .array .int
  | 21 => .array .int
  | 22 => .int
  | 23 => .int
  | 24 => .int
  | 25 => .int
  | 26 => .int
  | 27 => .array .int
  | _ => .array .int
abbrev wsX80 : List Cond := u_ws RX8 TX8 29
theorem nmX8 : ∀ a, a < 29 → ∀ b, b < 29 → a ≠ b → (TX8 a).2.1 ≠ (TX8 b).2.1 := by decide +kernel
theorem tyX8_ok : ∀ k, k < 29 → parseFieldDescriptor (TX8 k).2.2.1 = some (tyX8 k) := by decide +kernel
abbrev cX8_init : ByteArray := prog_10_method_1_code
def yX8_init : MethodName := ⟨RX8, "<init>", "()V"⟩
abbrev cX8_in : ByteArray := prog_10_method_3_code
def yX8_in : MethodName := ⟨RX8, "in", "(JJJ)Z"⟩
abbrev cX8_bad : ByteArray := prog_10_method_4_code
def yX8_bad : MethodName := ⟨RX8, "bad", "(I)I"⟩
abbrev cX8_no : ByteArray := prog_10_method_5_code
def yX8_no : MethodName := ⟨RX8, "no", "()I"⟩
abbrev cX8_full : ByteArray := prog_10_method_6_code
def yX8_full : MethodName := ⟨RX8, "full", "()I"⟩
abbrev cX8_bits : ByteArray := prog_10_method_7_code
def yX8_bits : MethodName := ⟨RX8, "bits", "(I)I"⟩
abbrev cX8_begin : ByteArray := prog_10_method_8_code
def yX8_begin : MethodName := ⟨RX8, "begin", "([II)V"⟩
abbrev cX8_streets : ByteArray := prog_10_method_9_code
def yX8_streets : MethodName := ⟨RX8, "streets", "()I"⟩
abbrev cX8_events : ByteArray := prog_10_method_10_code
def yX8_events : MethodName := ⟨RX8, "events", "()I"⟩
abbrev cX8_isStreet : ByteArray := prog_10_method_11_code
def yX8_isStreet : MethodName := ⟨RX8, "isStreet", "(I)Z"⟩
abbrev cX8_isEvent : ByteArray := prog_10_method_12_code
def yX8_isEvent : MethodName := ⟨RX8, "isEvent", "(I)Z"⟩
abbrev cX8_isHour : ByteArray := prog_10_method_13_code
def yX8_isHour : MethodName := ⟨RX8, "isHour", "(I)Z"⟩
abbrev cX8_isWord : ByteArray := prog_10_method_14_code
def yX8_isWord : MethodName := ⟨RX8, "isWord", "(I)Z"⟩
abbrev cX8_areStreets : ByteArray := prog_10_method_15_code
def yX8_areStreets : MethodName := ⟨RX8, "areStreets", "(I)Z"⟩
abbrev cX8_has : ByteArray := prog_10_method_16_code
def yX8_has : MethodName := ⟨RX8, "has", "(II)I"⟩
abbrev cX8_told : ByteArray := prog_10_method_17_code
def yX8_told : MethodName := ⟨RX8, "told", "(II)I"⟩
abbrev cX8_town : ByteArray := prog_10_method_18_code
def yX8_town : MethodName := ⟨RX8, "town", "(I)I"⟩
abbrev cX8_layStreet : ByteArray := prog_10_method_19_code
def yX8_layStreet : MethodName := ⟨RX8, "layStreet", "([IIIII)V"⟩
abbrev cX8_street : ByteArray := prog_10_method_20_code
def yX8_street : MethodName := ⟨RX8, "street", "(IIII)I"⟩
abbrev cX8_layEvent : ByteArray := prog_10_method_21_code
def yX8_layEvent : MethodName := ⟨RX8, "layEvent", "([IIIIIII)V"⟩
abbrev cX8_keep : ByteArray := prog_10_method_22_code
def yX8_keep : MethodName := ⟨RX8, "keep", "()V"⟩
abbrev cX8_event : ByteArray := prog_10_method_23_code
def yX8_event : MethodName := ⟨RX8, "event", "(IIIIII)I"⟩
abbrev cX8_back : ByteArray := prog_10_method_24_code
def yX8_back : MethodName := ⟨RX8, "back", "(I)I"⟩
abbrev cX8_law : ByteArray := prog_10_method_25_code
def yX8_law : MethodName := ⟨RX8, "law", "(I)I"⟩
abbrev cX8_undo : ByteArray := prog_10_method_26_code
def yX8_undo : MethodName := ⟨RX8, "undo", "()I"⟩
abbrev cX8_rent : ByteArray := prog_10_method_27_code
def yX8_rent : MethodName := ⟨RX8, "rent", "(II)I"⟩
abbrev cX8_mustSee : ByteArray := prog_10_method_28_code
def yX8_mustSee : MethodName := ⟨RX8, "mustSee", "(I)I"⟩
abbrev cX8_rankOf : ByteArray := prog_10_method_29_code
def yX8_rankOf : MethodName := ⟨RX8, "rankOf", "(II)I"⟩
abbrev cX8_standsFor : ByteArray := prog_10_method_30_code
def yX8_standsFor : MethodName := ⟨RX8, "standsFor", "(I)I"⟩
abbrev cX8_meet : ByteArray := prog_10_method_31_code
def yX8_meet : MethodName := ⟨RX8, "meet", "(II)Z"⟩
abbrev cX8_happensIn : ByteArray := prog_10_method_32_code
def yX8_happensIn : MethodName := ⟨RX8, "happensIn", "(II)I"⟩
abbrev cX8_of : ByteArray := prog_10_method_33_code
def yX8_of : MethodName := ⟨RX8, "of", "(II)I"⟩
abbrev cX8_rename : ByteArray := prog_10_method_34_code
def yX8_rename : MethodName := ⟨RX8, "rename", "(IIIII)V"⟩
abbrev cX8_happen : ByteArray := prog_10_method_35_code
def yX8_happen : MethodName := ⟨RX8, "happen", "(IIIIII)V"⟩
abbrev cX8_run : ByteArray := prog_10_method_36_code
def yX8_run : MethodName := ⟨RX8, "run", "(I)V"⟩
abbrev cX8_allEvents : ByteArray := prog_10_method_37_code
def yX8_allEvents : MethodName := ⟨RX8, "allEvents", "()I"⟩
abbrev cX8_runAll : ByteArray := prog_10_method_38_code
def yX8_runAll : MethodName := ⟨RX8, "runAll", "()V"⟩
abbrev cX8_nameIn : ByteArray := prog_10_method_39_code
def yX8_nameIn : MethodName := ⟨RX8, "nameIn", "(II)I"⟩
abbrev cX8_name : ByteArray := prog_10_method_40_code
def yX8_name : MethodName := ⟨RX8, "name", "(II)I"⟩
abbrev cX8_changes : ByteArray := prog_10_method_41_code
def yX8_changes : MethodName := ⟨RX8, "changes", "(I)I"⟩
abbrev cX8_whichIn : ByteArray := prog_10_method_42_code
def yX8_whichIn : MethodName := ⟨RX8, "whichIn", "(II)I"⟩
abbrev cX8_which : ByteArray := prog_10_method_43_code
def yX8_which : MethodName := ⟨RX8, "which", "(III)I"⟩
abbrev cX8_first : ByteArray := prog_10_method_44_code
def yX8_first : MethodName := ⟨RX8, "first", "(I)I"⟩
abbrev cX8_letter : ByteArray := prog_10_method_45_code
def yX8_letter : MethodName := ⟨RX8, "letter", "(III)I"⟩
abbrev cX8_cab : ByteArray := prog_10_method_46_code
def yX8_cab : MethodName := ⟨RX8, "cab", "(III)I"⟩
abbrev cX8_find : ByteArray := prog_10_method_47_code
def yX8_find : MethodName := ⟨RX8, "find", "(II)I"⟩
abbrev cX8_stageOne : ByteArray := prog_10_method_48_code
def yX8_stageOne : MethodName := ⟨RX8, "stageOne", "(IIII)V"⟩
abbrev cX8_gives : ByteArray := prog_10_method_49_code
def yX8_gives : MethodName := ⟨RX8, "gives", "(IIIIII)Z"⟩
abbrev cX8_tryStages : ByteArray := prog_10_method_50_code
def yX8_tryStages : MethodName := ⟨RX8, "tryStages", "(III)Z"⟩
abbrev cX8_stage : ByteArray := prog_10_method_51_code
def yX8_stage : MethodName := ⟨RX8, "stage", "(IIII)I"⟩
abbrev cX8_forbid : ByteArray := prog_10_method_52_code
def yX8_forbid : MethodName := ⟨RX8, "forbid", "(I)I"⟩
abbrev cX8_rentNow : ByteArray := prog_10_method_53_code
def yX8_rentNow : MethodName := ⟨RX8, "rentNow", "(I)I"⟩
abbrev cX8_rents : ByteArray := prog_10_method_54_code
def yX8_rents : MethodName := ⟨RX8, "rents", "(I)I"⟩
abbrev cX8_dearest : ByteArray := prog_10_method_55_code
def yX8_dearest : MethodName := ⟨RX8, "dearest", "()I"⟩
abbrev cX8_layGets : ByteArray := prog_10_method_56_code
def yX8_layGets : MethodName := ⟨RX8, "layGets", "(IIII)V"⟩
abbrev cX8_landlords : ByteArray := prog_10_method_57_code
def yX8_landlords : MethodName := ⟨RX8, "landlords", "(IIII)I"⟩
abbrev cX8_goAlong : ByteArray := prog_10_method_58_code
def yX8_goAlong : MethodName := ⟨RX8, "goAlong", "(III)Z"⟩
abbrev cX8_round : ByteArray := prog_10_method_59_code
def yX8_round : MethodName := ⟨RX8, "round", "(II)I"⟩
abbrev cX8_reading : ByteArray := prog_10_method_60_code
def yX8_reading : MethodName := ⟨RX8, "reading", "(III)I"⟩
abbrev cX8_burn : ByteArray := prog_10_method_61_code
def yX8_burn : MethodName := ⟨RX8, "burn", "()I"⟩
abbrev cX8_areRead : ByteArray := prog_10_method_62_code
def yX8_areRead : MethodName := ⟨RX8, "areRead", "()Z"⟩
abbrev cX8_truly : ByteArray := prog_10_method_63_code
def yX8_truly : MethodName := ⟨RX8, "truly", "(I)I"⟩
abbrev cX8_drawn : ByteArray := prog_10_method_64_code
def yX8_drawn : MethodName := ⟨RX8, "drawn", "(III)I"⟩
abbrev cX8_type : ByteArray := prog_10_method_65_code
def yX8_type : MethodName := ⟨RX8, "type", "(I)I"⟩
abbrev cX8_clear : ByteArray := prog_10_method_66_code
def yX8_clear : MethodName := ⟨RX8, "clear", "()I"⟩
abbrev cX8_isSmall : ByteArray := prog_10_method_67_code
def yX8_isSmall : MethodName := ⟨RX8, "isSmall", "(I)Z"⟩
abbrev cX8_isFigure : ByteArray := prog_10_method_68_code
def yX8_isFigure : MethodName := ⟨RX8, "isFigure", "(I)Z"⟩
abbrev cX8_look : ByteArray := prog_10_method_69_code
def yX8_look : MethodName := ⟨RX8, "look", "(I)V"⟩
abbrev cX8_goOn : ByteArray := prog_10_method_70_code
def yX8_goOn : MethodName := ⟨RX8, "goOn", "()V"⟩
abbrev cX8_isCalled : ByteArray := prog_10_method_71_code
def yX8_isCalled : MethodName := ⟨RX8, "isCalled", "(IIIIIII)Z"⟩
abbrev cX8_takes : ByteArray := prog_10_method_72_code
def yX8_takes : MethodName := ⟨RX8, "takes", "(III)Z"⟩
abbrev cX8_readsFirst : ByteArray := prog_10_method_73_code
def yX8_readsFirst : MethodName := ⟨RX8, "readsFirst", "()Z"⟩
abbrev cX8_readsStreet : ByteArray := prog_10_method_74_code
def yX8_readsStreet : MethodName := ⟨RX8, "readsStreet", "()Z"⟩
abbrev cX8_readsEvent : ByteArray := prog_10_method_75_code
def yX8_readsEvent : MethodName := ⟨RX8, "readsEvent", "()Z"⟩
abbrev cX8_readsRent : ByteArray := prog_10_method_76_code
def yX8_readsRent : MethodName := ⟨RX8, "readsRent", "()Z"⟩
abbrev cX8_readsItem : ByteArray := prog_10_method_77_code
def yX8_readsItem : MethodName := ⟨RX8, "readsItem", "()Z"⟩
abbrev cX8_read : ByteArray := prog_10_method_78_code
def yX8_read : MethodName := ⟨RX8, "read", "()I"⟩
abbrev cX8_image : ByteArray := prog_10_method_79_code
def yX8_image : MethodName := ⟨RX8, "image", "(I)I"⟩
abbrev cX8_from : ByteArray := prog_10_method_80_code
def yX8_from : MethodName := ⟨RX8, "from", "(I)I"⟩
abbrev cX8_status : ByteArray := prog_10_method_81_code
def yX8_status : MethodName := ⟨RX8, "status", "(I)I"⟩
abbrev cX8_counted : ByteArray := prog_10_method_82_code
def yX8_counted : MethodName := ⟨RX8, "counted", "(I)I"⟩
abbrev cX8_count : ByteArray := prog_10_method_83_code
def yX8_count : MethodName := ⟨RX8, "count", "(I)I"⟩
abbrev cX8_sums : ByteArray := prog_10_method_84_code
def yX8_sums : MethodName := ⟨RX8, "sums", "(JII)J"⟩
abbrev cX8_digest : ByteArray := prog_10_method_85_code
def yX8_digest : MethodName := ⟨RX8, "digest", "()J"⟩
def RJ6 : String := "java/lang/Integer"
def TJ6 : u_T := fun k => match k with
  | _ => ("", "", "", false)
def tyJ6 : Nat → FieldType := fun k => match k with
  | _ => .int
abbrev wsJ60 : List Cond := u_ws RJ6 TJ6 0
theorem nmJ6 : ∀ a, a < 0 → ∀ b, b < 0 → a ≠ b → (TJ6 a).2.1 ≠ (TJ6 b).2.1 := by decide +kernel
theorem tyJ6_ok : ∀ k, k < 0 → parseFieldDescriptor (TJ6 k).2.2.1 = some (tyJ6 k) := by decide +kernel
abbrev cJ6_bitCount_0f7a4 : ByteArray := prog_11_method_49_code
def yJ6_bitCount_0f7a4 : MethodName := ⟨RJ6, "bitCount", "(I)I"⟩
def RJ9 : String := "java/lang/Math"
def TJ9 : u_T := fun k => match k with
  | _ => ("", "", "", false)
def tyJ9 : Nat → FieldType := fun k => match k with
  | _ => .int
abbrev wsJ90 : List Cond := u_ws RJ9 TJ9 0
theorem nmJ9 : ∀ a, a < 0 → ∀ b, b < 0 → a ≠ b → (TJ9 a).2.1 ≠ (TJ9 b).2.1 := by decide +kernel
theorem tyJ9_ok : ∀ k, k < 0 → parseFieldDescriptor (TJ9 k).2.2.1 = some (tyJ9 k) := by decide +kernel
abbrev cJ9_max_7cf53 : ByteArray := prog_12_method_65_code
def yJ9_max_7cf53 : MethodName := ⟨RJ9, "max", "(II)I"⟩
abbrev cJ9_min_7cf53 : ByteArray := prog_12_method_69_code
def yJ9_min_7cf53 : MethodName := ⟨RJ9, "min", "(II)I"⟩
def RJ0 : String := "java/lang/String"
def TJ0 : u_T := fun k => match k with
  | _ => ("", "", "", false)
def tyJ0 : Nat → FieldType := fun k => match k with
  | _ => .int
abbrev wsJ00 : List Cond := u_ws RJ0 TJ0 0
theorem nmJ0 : ∀ a, a < 0 → ∀ b, b < 0 → a ≠ b → (TJ0 a).2.1 ≠ (TJ0 b).2.1 := by decide +kernel
theorem tyJ0_ok : ∀ k, k < 0 → parseFieldDescriptor (TJ0 k).2.2.1 = some (tyJ0 k) := by decide +kernel
abbrev cJ0_length_8abf5 : ByteArray := prog_13_method_54_code
def yJ0_length_8abf5 : MethodName := ⟨RJ0, "length", "()I"⟩
abbrev cJ0_charAt_5068e : ByteArray := prog_13_method_56_code
def yJ0_charAt_5068e : MethodName := ⟨RJ0, "charAt", "(I)C"⟩
abbrev cJ0_coder_7d493 : ByteArray := prog_13_method_152_code
def yJ0_coder_7d493 : MethodName := ⟨RJ0, "coder", "()B"⟩
abbrev cJ0_isLatin1_aae02 : ByteArray := prog_13_method_154_code
def yJ0_isLatin1_aae02 : MethodName := ⟨RJ0, "isLatin1", "()Z"⟩
abbrev cJ0_checkIndex_df160 : ByteArray := prog_13_method_155_code
def yJ0_checkIndex_df160 : MethodName := ⟨RJ0, "checkIndex", "(II)V"⟩
def RJ1 : String := "java/lang/StringLatin1"
def TJ1 : u_T := fun k => match k with
  | _ => ("", "", "", false)
def tyJ1 : Nat → FieldType := fun k => match k with
  | _ => .int
abbrev wsJ10 : List Cond := u_ws RJ1 TJ1 0
theorem nmJ1 : ∀ a, a < 0 → ∀ b, b < 0 → a ≠ b → (TJ1 a).2.1 ≠ (TJ1 b).2.1 := by decide +kernel
theorem tyJ1_ok : ∀ k, k < 0 → parseFieldDescriptor (TJ1 k).2.2.1 = some (tyJ1 k) := by decide +kernel
abbrev cJ1_charAt_3b067 : ByteArray := prog_14_method_2_code
def yJ1_charAt_3b067 : MethodName := ⟨RJ1, "charAt", "([BI)C"⟩
def RJ2 : String := "java/lang/StringUTF16"
def TJ2 : u_T := fun k => match k with
  | _ => ("", "", "", false)
def tyJ2 : Nat → FieldType := fun k => match k with
  | _ => .int
abbrev wsJ20 : List Cond := u_ws RJ2 TJ2 0
theorem nmJ2 : ∀ a, a < 0 → ∀ b, b < 0 → a ≠ b → (TJ2 a).2.1 ≠ (TJ2 b).2.1 := by decide +kernel
theorem tyJ2_ok : ∀ k, k < 0 → parseFieldDescriptor (TJ2 k).2.2.1 = some (tyJ2 k) := by decide +kernel
abbrev cJ2_getChar_3b067 : ByteArray := prog_15_method_5_code
def yJ2_getChar_3b067 : MethodName := ⟨RJ2, "getChar", "([BI)C"⟩
abbrev cJ2_length_9d52b : ByteArray := prog_15_method_6_code
def yJ2_length_9d52b : MethodName := ⟨RJ2, "length", "([B)I"⟩
abbrev cJ2_charAt_3b067 : ByteArray := prog_15_method_83_code
def yJ2_charAt_3b067 : MethodName := ⟨RJ2, "charAt", "([BI)C"⟩
abbrev cJ2_checkIndex_2214a : ByteArray := prog_15_method_91_code
def yJ2_checkIndex_2214a : MethodName := ⟨RJ2, "checkIndex", "(I[B)V"⟩
def RJ10 : String := "java/lang/System"
def TJ10 : u_T := fun k => match k with
  | _ => ("", "", "", false)
def tyJ10 : Nat → FieldType := fun k => match k with
  | _ => .int
abbrev wsJ100 : List Cond := u_ws RJ10 TJ10 0
theorem nmJ10 : ∀ a, a < 0 → ∀ b, b < 0 → a ≠ b → (TJ10 a).2.1 ≠ (TJ10 b).2.1 := by decide +kernel
theorem tyJ10_ok : ∀ k, k < 0 → parseFieldDescriptor (TJ10 k).2.2.1 = some (tyJ10 k) := by decide +kernel
def RJ3 : String := "jdk/internal/util/Preconditions"
def TJ3 : u_T := fun k => match k with
  | _ => ("", "", "", false)
def tyJ3 : Nat → FieldType := fun k => match k with
  | _ => .int
abbrev wsJ30 : List Cond := u_ws RJ3 TJ3 0
theorem nmJ3 : ∀ a, a < 0 → ∀ b, b < 0 → a ≠ b → (TJ3 a).2.1 ≠ (TJ3 b).2.1 := by decide +kernel
theorem tyJ3_ok : ∀ k, k < 0 → parseFieldDescriptor (TJ3 k).2.2.1 = some (tyJ3 k) := by decide +kernel
abbrev cJ3_checkIndex_8e157 : ByteArray := prog_17_method_11_code
def yJ3_checkIndex_8e157 : MethodName := ⟨RJ3, "checkIndex", "(IILjava/util/function/BiFunction;)I"⟩
def RL : String := "LastHappenedLaw"
abbrev cL_law : ByteArray := code
def yL_law : MethodName := ⟨RL, "law", "([I)Z"⟩
abbrev vwCl : List vw_C := [(RX0, TX0, 10), (RX1, TX1, 2), (RX2, TX2, 3), (RX3, TX3, 6), (RX4, TX4, 6), (RX5, TX5, 8), (RX6, TX6, 2), (RX7, TX7, 14), (RX8, TX8, 29)]
end
section
/-! THE WORLD: cells by number; a cell: kind (0 ints, 1 booleans, 2 an object), length or class, fields (none: an int; some j: the cell j) -/
abbrev Sg : Type := Nat → Nat → Int32
abbrev ShT : Type := Nat × Nat × List (Option Nat)
def shp : List ShT := [(2, 7, [some 1, some 13, some 25, some 37, some 49, some 52, some 61, some 63, some 66, some 69, none, none, none, none]), (2, 5, [some 2, some 4, some 6, some 8, some 10, some 11, some 12, none]), (2, 2, [none, some 3, none]), (0, 28, []), (2, 2, [none, some 5, none]), (0, 48, []), (2, 2, [none, some 7, none]), (0, 18, []), (2, 2, [none, some 9, none]), (0, 400, []), (0, 16, []), (0, 50, []), (0, 6, []), (2, 5, [some 14, some 16, some 18, some 20, some 22, some 23, some 24, none]), (2, 2, [none, some 15, none]), (0, 28, []), (2, 2, [none, some 17, none]), (0, 48, []), (2, 2, [none, some 19, none]), (0, 18, []), (2, 2, [none, some 21, none]), (0, 400, []), (0, 16, []), (0, 50, []), (0, 6, []), (2, 5, [some 26, some 28, some 30, some 32, some 34, some 35, some 36, none]), (2, 2, [none, some 27, none]), (0, 28, []), (2, 2, [none, some 29, none]), (0, 48, []), (2, 2, [none, some 31, none]), (0, 18, []), (2, 2, [none, some 33, none]), (0, 400, []), (0, 16, []), (0, 50, []), (0, 6, []), (2, 5, [some 38, some 40, some 42, some 44, some 46, some 47, some 48, none]), (2, 2, [none, some 39, none]), (0, 28, []), (2, 2, [none, some 41, none]), (0, 48, []), (2, 2, [none, some 43, none]), (0, 18, []), (2, 2, [none, some 45, none]), (0, 400, []), (0, 16, []), (0, 50, []), (0, 6, []), (2, 4, [some 50, some 51, none, none, none, none]), (0, 150, []), (0, 6, []), (2, 0, [some 53, some 55, some 56, some 57, some 58, some 59, some 60, none, none, none]), (2, 2, [none, some 54, none]), (0, 60, []), (0, 6, []), (0, 7, []), (0, 7, []), (0, 7, []), (0, 7, []), (0, 7, []), (2, 1, [some 52, some 62]), (0, 168, []), (2, 3, [some 52, some 64, some 65, none, none, none]), (0, 4, []), (0, 4, []), (2, 6, [some 67, some 68]), (0, 64, []), (0, 1024, []), (0, 6, []), (2, 8, [some 71, some 72, some 73, some 74, some 75, some 76, some 77, some 78, some 79, some 80, some 81, none, some 82, some 83, some 84, none, none, none, some 85, some 86, some 87, some 88, none, none, none, none, none, some 89, some 90]), (0, 515, []), (0, 1030, []), (1, 2, []), (0, 3, []), (0, 168, []), (0, 168, []), (0, 7, []), (0, 7, []), (0, 7, []), (0, 7, []), (0, 7, []), (0, 2, []), (0, 2, []), (0, 2, []), (0, 4, []), (0, 4, []), (0, 1024, []), (0, 150, []), (0, 115, []), (0, 6, [])]
def shN : Nat := 91
def shof (c : Nat) : ShT := shp.getD c (0, 0, [])
def alen (c : Nat) : Nat := (shof c).2.1
def setc (σ : Sg) (c : Nat) (f : Nat → Int32) : Sg := fun d => if d = c then f else σ d
/-- one place of one cell is written -/
def sts (σ : Sg) (c k : Nat) (v : Int32) : Sg := setc σ c (upd (σ c) k v)
abbrev EX : Type := va_G × (Nat → Nat) × ClassId × ClassId × (Nat → Nat) × (Nat → Nat) × (Nat → Nat)
abbrev eD (E : EX) : va_G := E.1
abbrev ead (E : EX) : Nat → Nat := E.2.1
abbrev eI (E : EX) : ClassId := E.2.2.1
abbrev eZ (E : EX) : ClassId := E.2.2.2.1
abbrev etb (E : EX) : Nat → Nat := E.2.2.2.2.1
abbrev esK (E : EX) : Nat → Nat := E.2.2.2.2.2.1
abbrev esV (E : EX) : Nat → Nat := E.2.2.2.2.2.2
abbrev tysE (E : EX) : List (ClassId × FieldType) := [(eI E, .int), (eZ E, .boolean)]
def AE (E : EX) : Nat → Prop := fun q => ∃ c, c < shN ∧ q = ead E c
def DD (E : EX) : Prop := ∀ i j, i < shN → j < shN → ead E i = ead E j → i = j
def encF (ad : Nat → Nat) (f : Nat → Int32) : Nat → List (Option Nat) → List Value
  | _, [] => []
  | k, none :: r => .int (f k) :: encF ad f (k + 1) r
  | k, some j :: r => .ref (ad j) :: encF ad f (k + 1) r
def enc (E : EX) (s : ShT) (f : Nat → Int32) : va_E := match s.1 with
  | 0 => .inl (eI E, s.2.1, .inl f)
  | 1 => .inl (eZ E, s.2.1, .inl f)
  | _ => .inr (s.2.1, encF (ead E) f 0 s.2.2)
def Ws (E : EX) (σ : Sg) : va_W := (List.range shN).map (fun c => (ead E c, enc E (shof c) (σ c)))
theorem Ws_at {E : EX} {σ : Sg} {c : Nat} (h : c < shN) : (Ws E σ)[c]? = some (ead E c, enc E (shof c) (σ c)) := by
  simp only [Ws, List.getElem?_map, List.getElem?_range h, Option.map_some]
theorem Ws_len {E : EX} {σ : Sg} : (Ws E σ).length = shN := by simp only [Ws, List.length_map, List.length_range]
theorem setc_same {σ : Sg} {c : Nat} {f : Nat → Int32} : setc σ c f c = f := if_pos rfl
theorem setc_ne {σ : Sg} {c d : Nat} {f : Nat → Int32} (h : d ≠ c) : setc σ c f d = σ d := if_neg h
theorem Ws_set {E : EX} {σ : Sg} {c : Nat} {f : Nat → Int32} (h : c < shN) : (Ws E σ).set c (ead E c, enc E (shof c) f) = Ws E (setc σ c f) := by
  apply List.ext_getElem?
  intro d
  rw [List.getElem?_set]
  by_cases hd : d < shN
  · by_cases hc : c = d
    · subst hc
      rw [if_pos rfl, if_pos (by rw [Ws_len]; exact h), Ws_at h, setc_same]
    · rw [if_neg hc, Ws_at hd, Ws_at hd, setc_ne (fun e => hc e.symm)]
  · have h1 : ∀ τ : Sg, (Ws E τ)[d]? = none := fun τ => List.getElem?_eq_none (by rw [Ws_len]; omega)
    rw [h1, h1, if_neg (by omega)]
theorem encF_int {ad : Nat → Nat} {f : Nat → Int32} : ∀ {l : List (Option Nat)} {j k : Nat}, l[k]? = some none → (encF ad f j l)[k]? = some (.int (f (j + k)))
  | [], j, k, h => by simp at h
  | o :: r, j, 0, h => by
    simp at h
    subst h
    rfl
  | none :: r, j, k + 1, h => by
    have := encF_int (ad := ad) (f := f) (l := r) (j := j + 1) (k := k) (by simpa using h)
    simpa [encF, Nat.add_assoc, Nat.add_comm 1 k] using this
  | some i :: r, j, k + 1, h => by
    have := encF_int (ad := ad) (f := f) (l := r) (j := j + 1) (k := k) (by simpa using h)
    simpa [encF, Nat.add_assoc, Nat.add_comm 1 k] using this
theorem encF_ref {ad : Nat → Nat} {f : Nat → Int32} : ∀ {l : List (Option Nat)} {j k i : Nat}, l[k]? = some (some i) → (encF ad f j l)[k]? = some (.ref (ad i))
  | [], j, k, i, h => by simp at h
  | o :: r, j, 0, i, h => by
    simp at h
    subst h
    rfl
  | none :: r, j, k + 1, i, h => by
    have := encF_ref (ad := ad) (f := f) (l := r) (j := j + 1) (k := k) (i := i) (by simpa using h)
    simpa [encF] using this
  | some i' :: r, j, k + 1, i, h => by
    have := encF_ref (ad := ad) (f := f) (l := r) (j := j + 1) (k := k) (i := i) (by simpa using h)
    simpa [encF] using this
theorem encF_len {ad : Nat → Nat} {f : Nat → Int32} : ∀ {l : List (Option Nat)} {j : Nat}, (encF ad f j l).length = l.length
  | [], j => rfl
  | none :: r, j => by simp [encF, encF_len (l := r) (j := j + 1)]
  | some i :: r, j => by simp [encF, encF_len (l := r) (j := j + 1)]
theorem encF_congr {ad : Nat → Nat} {f g : Nat → Int32} : ∀ {l : List (Option Nat)} {j : Nat}, (∀ k, j ≤ k → f k = g k) → encF ad f j l = encF ad g j l
  | [], j, _ => rfl
  | none :: r, j, h => by simp only [encF]; rw [h j (Nat.le_refl j), encF_congr (l := r) (j := j + 1) (fun k hk => h k (by omega))]
  | some i :: r, j, h => by simp only [encF]; rw [encF_congr (l := r) (j := j + 1) (fun k hk => h k (by omega))]
theorem encF_set {ad : Nat → Nat} {f : Nat → Int32} {v : Int32} : ∀ {l : List (Option Nat)} {j k : Nat}, l[k]? = some none → (encF ad f j l).set k (.int v) = encF ad (upd f (j + k) v) j l
  | [], j, k, h => by simp at h
  | o :: r, j, 0, h => by
    simp at h
    subst h
    simp only [encF, List.set_cons_zero, Nat.add_zero]
    rw [encF_congr (f := upd f j v) (g := f) (j := j + 1) (fun k hk => by simp only [upd]; rw [if_neg (by omega)])]
    simp [upd]
  | none :: r, j, k + 1, h => by
    have := encF_set (ad := ad) (f := f) (v := v) (l := r) (j := j + 1) (k := k) (by simpa using h)
    simp only [encF, List.set_cons_succ]
    rw [this, show j + 1 + k = j + (k + 1) by omega]
    congr 2
    simp only [upd]
    rw [if_neg (by omega)]
  | some i :: r, j, k + 1, h => by
    have := encF_set (ad := ad) (f := f) (v := v) (l := r) (j := j + 1) (k := k) (by simpa using h)
    simp only [encF, List.set_cons_succ]
    rw [this, show j + 1 + k = j + (k + 1) by omega]
/-! what a cell is -/
def iF (ci k o : Nat) : Prop := o < shN ∧ (shof o).1 = 2 ∧ (shof o).2.1 = ci ∧ (shof o).2.2[k]? = some none
def rF (ci k o j : Nat) : Prop := o < shN ∧ (shof o).1 = 2 ∧ (shof o).2.1 = ci ∧ (shof o).2.2[k]? = some (some j)
def iO (ci o : Nat) : Prop := o < shN ∧ (shof o).1 = 2 ∧ (shof o).2.1 = ci
def iA (c : Nat) : Prop := c < shN ∧ (shof c).1 = 0
def zA (c : Nat) : Prop := c < shN ∧ (shof c).1 = 1
theorem enc_O {E : EX} {ci o : Nat} {f : Nat → Int32} (h : (shof o).1 = 2) (h2 : (shof o).2.1 = ci) : enc E (shof o) f = .inr (ci, encF (ead E) f 0 (shof o).2.2) := by
  subst h2
  unfold enc
  split
  · rename_i q; rw [h] at q; cases q
  · rename_i q; rw [h] at q; cases q
  · rfl
theorem enc_I {E : EX} {c : Nat} {f : Nat → Int32} (h : (shof c).1 = 0) : enc E (shof c) f = .inl (eI E, alen c, .inl f) := by
  unfold enc alen
  split
  · rfl
  · rename_i q; rw [h] at q; cases q
  · rename_i q1 q2; exact absurd h q1
theorem enc_Z {E : EX} {c : Nat} {f : Nat → Int32} (h : (shof c).1 = 1) : enc E (shof c) f = .inl (eZ E, alen c, .inl f) := by
  unfold enc alen
  split
  · rename_i q; rw [h] at q; cases q
  · rfl
  · rename_i q1 q2; exact absurd h q2
/-! what doesn't change: tables, texts, words of nest mates -/
def tabN (k : Nat) : String := ["NUMBERS", "LIMITS", "NEEDED", "MORE_RANK", "STANDS"].getD k ""
def tabL (k : Nat) : List Int32 := [[1, 4, 6, 2], [3, 0, 0, 0, 0, 0, 8, 8, 10, 16, 0, 0, 6, 7, 24, 10, 10, 16, 16, 100, 0, 0, 0, 0], [2, 3, 2, 4, 2, 2], [0, 0, 0, 0, 1, 2], [3, 3, 9, 3, 3, 18]].getD k []
def isNest : Cond → Bool
  | .fieldLinkNest .. => true
  | .methodLinkNest .. => true
  | _ => false
theorem isNest_warm {w : Cond} (h : isNest w = true) {s U : State} (hW : s.WarmedH U.vm) (hZ : va_Nw w s) : va_Nw w U := by
  cases w <;> first | exact va_Nw.warmF hW hZ | exact va_Nw.warmM hW hZ | (exact absurd h (by simp [isNest]))
def nestW : List Cond := tables_1.filter isNest
def strT (k : Nat) : String := ["town", "street", "event", "rent"].getD k ""
def strI (k : Nat) : Nat := [69, 75, 77, 79].getD k 0
def strLen : List Nat := [4, 6, 5, 4]
def strByt : List (List Int32) := [[116, 111, 119, 110], [115, 116, 114, 101, 101, 116], [101, 118, 101, 110, 116], [114, 101, 110, 116]]
def ST (E : EX) (U : State) (H : Heap) : Prop :=
  (∀ k, k < 5 → va_Z "LastHappened" (tabN k) "[I" (.ref (etb E k)) (AE E) U H ∧ va_T .int (etb E k) (tabL k).length (fun j => .int ((tabL k).getD j 0)) (AE E) U H) ∧
  vk_S 4 strLen strByt (esK E) (esV E) (AE E) U H ∧ (∀ k, k < 4 → vk_R "LastHappened$Text" (strI k) (strT k) (esK E k) U) ∧
  va_Z "java/lang/String" "COMPACT_STRINGS" "Z" (.int 1) (AE E) U H ∧ va_Zq "jdk/internal/util/Preconditions" "SIOOBE_FORMATTER" "Ljava/util/function/BiFunction;" (AE E) U H ∧ ∀ w ∈ nestW, va_Nw w U
theorem ST.warm {E : EX} {s U : State} {H : Heap} (hW : s.WarmedH U.vm) (h : ST E s H) : ST E U H := by
  obtain ⟨h1, h2, h3, h4, h5, h6⟩ := h
  exact ⟨fun k hk => ⟨(h1 k hk).1.moved hW.alike, (h1 k hk).2.moved hW.alike⟩, h2.moved hW.alike, fun k hk => (h3 k hk).warm hW, h4.moved hW.alike, h5.moved hW.alike, fun w hw => isNest_warm (List.mem_filter.mp hw).2 hW (h6 w hw)⟩
theorem ST.kept {E : EX} {U : State} {H H1 : Heap} (h : ST E U H) (hq : ∀ a : Nat, a < H.size → ¬ AE E a → H1[a]? = H[a]?) : ST E U H1 := by
  obtain ⟨h1, h2, h3, h4, h5, h6⟩ := h
  exact ⟨fun k hk => ⟨(h1 k hk).1.kept hq, (h1 k hk).2.kept hq⟩, h2.kept hq, h3, h4.kept hq, h5.kept hq, h6⟩
theorem isNest_tab {w : Cond} (h : isNest w = true) : w.onTables = true := by
  cases w <;> first | rfl | (exact absurd h (by simp [isNest]))
theorem ST.same {E : EX} {s U : State} {H : Heap} (hv : s.vm = U.vm) (h : ST E s H) : ST E U H := by
  obtain ⟨h1, h2, h3, h4, h5, h6⟩ := h
  have hA : s.vm.Alike U.vm := hv ▸ Vm.Alike.refl s.vm
  exact ⟨fun k hk => ⟨(h1 k hk).1.moved hA, (h1 k hk).2.moved hA⟩, h2.moved hA, fun k hk => vk_R.same hv.symm (h3 k hk), h4.moved hA, h5.moved hA, fun w hw => va_Nw.same (isNest_tab (List.mem_filter.mp hw).2) hv (h6 w hw)⟩
/-! a method's contract over the world -/
def IV (E : EX) (σ : Sg) (U : State) : Prop := va_P (eD E) vwCl (Ws E σ) U.heap ∧ va_K (eD E) vwCl (tysE E) U ∧ ST E U U.heap
theorem IV.same {E : EX} {σ : Sg} {s U : State} (hv : s.vm = U.vm) (hh : s.heap = U.heap) (h : IV E σ s) : IV E σ U := by
  obtain ⟨h1, h2, h3⟩ := h
  exact ⟨hh ▸ h1, va_K.moved (hv ▸ Vm.Alike.refl s.vm) h2, hh ▸ ST.same hv h3⟩
def rmK (k : Nat) : Room := { frames := k, cells := 0, slots := 0, locals := 40 * k }
def Gw : List Cond := lw_tbl.filter goodWord
theorem Gw_in {w : Cond} (h : w ∈ lw_tbl) (g : goodWord w = true) : w ∈ Gw := List.mem_filter.mpr ⟨h, g⟩
theorem Gw_good {ws : List Cond} (h : ∀ w ∈ ws, w ∈ Gw) : GoodIn Gw ws := fun w hw => ⟨h w hw, good_of_word (List.mem_filter.mp (h w hw)).2⟩
abbrev MT : Type := MethodName × ByteArray × Nat × Option FieldType
abbrev wsM (M : MT) : List Cond := .code M.1 M.2.1 M.2.2.1 M.2.2.2 :: Gw
def RI (l : Launch) (E : EX) (k : Nat) (M : MT) (av : List Value) (σ : Sg) (v : Int32) (τ : Sg) : Prop :=
  Met l M.1 (wsM M) (rmK k) (va_Pc av (IV E σ)) (va_Qi (fun (a : Int32) (u : Sg) => a = v ∧ u = τ) (fun u t => IV E u t) (AE E)) 0 0 (AE E)
def RLg (l : Launch) (E : EX) (k : Nat) (M : MT) (av : List Value) (σ : Sg) (v : Int64) (τ : Sg) : Prop :=
  Met l M.1 (wsM M) (rmK k) (va_Pc av (IV E σ)) (va_Ql (fun (a : Int64) (u : Sg) => a = v ∧ u = τ) (fun u t => IV E u t) (AE E)) 0 0 (AE E)
def RV (l : Launch) (E : EX) (k : Nat) (M : MT) (av : List Value) (σ : Sg) (τ : Sg) : Prop :=
  Met l M.1 (wsM M) (rmK k) (va_Pc av (IV E σ)) (va_Qv (fun (u : Sg) => u = τ) (fun u t => IV E u t) (AE E)) 0 0 (AE E)
def RR (l : Launch) (E : EX) (k : Nat) (M : MT) (av : List Value) (σ : Sg) (c : Nat) (τ : Sg) : Prop :=
  Met l M.1 (wsM M) (rmK k) (va_Pc av (IV E σ)) (va_Qr (fun (u : Sg) => u = τ) (fun u a t => a = ead E c ∧ IV E u t) (AE E)) 0 0 (AE E)
/-! the machine within one method -/
abbrev CX : Type := Program × Env × Room × State × MethodId × Array Value × List Frame × Method × Code × Nat × Nat
abbrev xP (X : CX) : Program := X.1
abbrev xe (X : CX) : Env := X.2.1
abbrev xR (X : CX) : Room := X.2.2.1
abbrev xs (X : CX) : State := X.2.2.2.1
abbrev xm (X : CX) : MethodId := X.2.2.2.2.1
abbrev xa (X : CX) : Array Value := X.2.2.2.2.2.1
abbrev xb (X : CX) : List Frame := X.2.2.2.2.2.2.1
abbrev xM (X : CX) : Method := X.2.2.2.2.2.2.2.1
abbrev xc (X : CX) : Code := X.2.2.2.2.2.2.2.2.1
abbrev xn (X : CX) : Nat := X.2.2.2.2.2.2.2.2.2.1
abbrev xo (X : CX) : Nat := X.2.2.2.2.2.2.2.2.2.2
def CxOK (_l : Launch) (E : EX) (X : CX) (cc : ByteArray) (nL : Nat) (own : String) (ret : Option FieldType) (kk : Nat) : Prop :=
  CallFix (xP X) (xm X) (xc X) cc nL (xs X) (xa X) Gw own ∧ va_K (eD E) vwCl (tysE E) (xs X) ∧ ST E (xs X) (xs X).heap ∧ DD E ∧
  (xn X ≤ (xR X).cells ∧ xo X ≤ (xR X).slots) ∧ (kk ≤ (xR X).frames ∧ 40 * kk ≤ (xR X).locals) ∧ (xM X).sig.returnType = ret ∧ (xM X).locks = false
def MW (l : Launch) (E : EX) (X : CX) (Q : State → Prop) (σ : Sg) (pc : Nat) (lv : List (Nat × Value)) (st : List Value) : Prop :=
  ∀ (H : Heap) (locs : List Loc) (ls : Array Slot), va_P (eD E) vwCl (Ws E σ) H → va_S (AE E) (xs X).heap H locs → lv_has ls (xc X).maxLocals lv →
    W (xP X) l (xe X) (xR X) (xs X) (xm X) (xa X) (xb X) (xM X) (xc X) H locs (xn X) (xo X) Q (F0 (xm X) pc ls st)
def MF {ρ : Type} (l : Launch) (E : EX) (X : CX) (Q : ρ → State → Prop) (b : Option ρ) (σ : Sg) (pc : Nat) (lv : List (Nat × Value)) (st : List Value) : Prop :=
  ∀ r, b = some r → MW l E X (Q r) σ pc lv st
def Dc (cc : ByteArray) (pc : Nat) (i : Instr) (len pc2 : Nat) : Prop := decode cc pc = .ok (i, len) ∧ pc + len = pc2
/-! locals -/
def ldel1 (i : Nat) : List (Nat × Value) → List (Nat × Value)
  | [] => []
  | (j, v) :: r => bif Nat.beq j i || (Nat.beq (j + 1) i && Nat.beq v.category 2) then ldel1 i r else (j, v) :: ldel1 i r
def ldel2 (i : Nat) : List (Nat × Value) → List (Nat × Value)
  | [] => []
  | (j, v) :: r => bif Nat.beq j i || (Nat.beq j (i + 1) || (Nat.beq (j + 1) i && Nat.beq v.category 2)) then ldel2 i r else (j, v) :: ldel2 i r
def lins (i : Nat) (v : Value) : List (Nat × Value) → List (Nat × Value)
  | [] => [(i, v)]
  | (j, w) :: r => bif Nat.ble j i then (j, w) :: lins i v r else (i, v) :: (j, w) :: r
def lset1 (i : Nat) (v : Value) (lv : List (Nat × Value)) : List (Nat × Value) := lins i v (ldel1 i lv)
def lset2 (i : Nat) (v : Value) (lv : List (Nat × Value)) : List (Nat × Value) := lins i v (ldel2 i lv)
theorem nbf {a b : Nat} (h : Nat.beq a b = false) : a ≠ b := fun e => by rw [e, Nat.beq_refl] at h; cases h
theorem lins_mem {i : Nat} {v : Value} {q : Nat × Value} : ∀ {l : List (Nat × Value)}, q ∈ lins i v l → q = (i, v) ∨ q ∈ l
  | [], h => by simp [lins] at h; exact Or.inl h
  | (j, w) :: r, h => by
    unfold lins at h
    cases hb : Nat.ble j i <;> rw [hb] at h
    · simp at h
      rcases h with h | h | h
      · exact Or.inl h
      · exact Or.inr (by simp [h])
      · exact Or.inr (by simp [h])
    · simp at h
      rcases h with h | h
      · exact Or.inr (by simp [h])
      · rcases lins_mem (l := r) h with h | h
        · exact Or.inl h
        · exact Or.inr (by simp [h])
theorem ldel1_mem {i : Nat} {q : Nat × Value} : ∀ {l : List (Nat × Value)}, q ∈ ldel1 i l → q ∈ l.filter (fun q => !(q.1 == i) && !(q.1 + 1 == i && q.2.category == 2))
  | [], h => by simp [ldel1] at h
  | (j, w) :: r, h => by
    unfold ldel1 at h
    cases hb : (Nat.beq j i || (Nat.beq (j + 1) i && Nat.beq w.category 2)) <;> rw [hb] at h
    · simp only [cond_false, List.mem_cons] at h
      rw [List.mem_filter]
      rcases h with h | h
      · subst h
        refine ⟨List.mem_cons_self, ?_⟩
        rw [Bool.or_eq_false_iff, Bool.and_eq_false_iff] at hb
        have h1 := nbf hb.1
        have h2 : ¬ j + 1 = i ∨ ¬ w.category = 2 := hb.2.elim (fun h => Or.inl (nbf h)) (fun h => Or.inr (nbf h))
        simp
        omega
      · have := List.mem_filter.mp (ldel1_mem h)
        exact ⟨List.mem_cons_of_mem _ this.1, this.2⟩
    · simp only [cond_true] at h
      have := List.mem_filter.mp (ldel1_mem h)
      exact List.mem_filter.mpr ⟨List.mem_cons_of_mem _ this.1, this.2⟩
theorem ldel2_mem {i : Nat} {q : Nat × Value} : ∀ {l : List (Nat × Value)}, q ∈ ldel2 i l → q ∈ l.filter (fun q => !(q.1 == i) && (!(q.1 == i + 1) && !(q.1 + 1 == i && q.2.category == 2)))
  | [], h => by simp [ldel2] at h
  | (j, w) :: r, h => by
    unfold ldel2 at h
    cases hb : (Nat.beq j i || (Nat.beq j (i + 1) || (Nat.beq (j + 1) i && Nat.beq w.category 2))) <;> rw [hb] at h
    · simp only [cond_false, List.mem_cons] at h
      rw [List.mem_filter]
      rcases h with h | h
      · subst h
        refine ⟨List.mem_cons_self, ?_⟩
        rw [Bool.or_eq_false_iff, Bool.or_eq_false_iff, Bool.and_eq_false_iff] at hb
        have h1 := nbf hb.1
        have h3 := nbf hb.2.1
        have h2 : ¬ j + 1 = i ∨ ¬ w.category = 2 := hb.2.2.elim (fun h => Or.inl (nbf h)) (fun h => Or.inr (nbf h))
        simp
        omega
      · have := List.mem_filter.mp (ldel2_mem h)
        exact ⟨List.mem_cons_of_mem _ this.1, this.2⟩
    · simp only [cond_true] at h
      have := List.mem_filter.mp (ldel2_mem h)
      exact List.mem_filter.mpr ⟨List.mem_cons_of_mem _ this.1, this.2⟩
theorem lv_has.of {ls : Array Slot} {n : Nat} {a b : List (Nat × Value)} (h : lv_has ls n a) (hs : ∀ q ∈ b, q ∈ a) : lv_has ls n b := ⟨h.1, h.2.1, fun q hq => h.2.2 q (hs q hq)⟩
theorem lset1_has {ls : Array Slot} {n i : Nat} {v : Value} {lv : List (Nat × Value)} (h : lv_has ls n ((i, v) :: lv.filter (fun q => !(q.1 == i) && !(q.1 + 1 == i && q.2.category == 2)))) : lv_has ls n (lset1 i v lv) :=
  h.of fun q hq => by
    rcases lins_mem hq with h | h
    · rw [h]; exact List.mem_cons_self
    · exact List.mem_cons_of_mem _ (ldel1_mem h)
theorem lset2_has {ls : Array Slot} {n i : Nat} {v : Value} {lv : List (Nat × Value)} (h : lv_has ls n ((i, v) :: lv.filter (fun q => !(q.1 == i) && (!(q.1 == i + 1) && !(q.1 + 1 == i && q.2.category == 2))))) : lv_has ls n (lset2 i v lv) :=
  h.of fun q hq => by
    rcases lins_mem hq with h | h
    · rw [h]; exact List.mem_cons_self
    · exact List.mem_cons_of_mem _ (ldel2_mem h)
/-! THE RULES -/
section MFR
variable {ρ : Type} {l : Launch} {E : EX} {X : CX} {cc : ByteArray} {nL kk : Nat} {own : String} {ret : Option FieldType} {Q : ρ → State → Prop} {b : Option ρ} {σ : Sg} {lv : List (Nat × Value)} {st : List Value}

theorem MF.iconst (C : CxOK l E X cc nL own ret kk) {n : Int} {pc pc' : Nat} (d : Dc cc pc (.iconst n) 1 pc') {v : Int32} (hv : Int32.ofInt n = v) (k : MF l E X Q b σ pc' lv (.int v :: st)) : MF l E X Q b σ pc lv (st) := by
  intro r hr H locs ls hP hS hl
  obtain ⟨d1, rfl⟩ := d
  exact lv_iconst C.1.1 C.1.2.1 d1 hv (k r hr H locs ls hP hS hl)
theorem MF.bipush (C : CxOK l E X cc nL own ret kk) {n : Int} {pc pc' : Nat} (d : Dc cc pc (.bipush n) 2 pc') {v : Int32} (hv : (Int8.ofInt n).toInt32 = v) (k : MF l E X Q b σ pc' lv (.int v :: st)) : MF l E X Q b σ pc lv (st) := by
  intro r hr H locs ls hP hS hl
  obtain ⟨d1, rfl⟩ := d
  exact lv_bipush C.1.1 C.1.2.1 d1 hv (k r hr H locs ls hP hS hl)
theorem MF.sipush (C : CxOK l E X cc nL own ret kk) {n : Int} {pc pc' : Nat} (d : Dc cc pc (.sipush n) 3 pc') {v : Int32} (hv : (Int16.ofInt n).toInt32 = v) (k : MF l E X Q b σ pc' lv (.int v :: st)) : MF l E X Q b σ pc lv (st) := by
  intro r hr H locs ls hP hS hl
  obtain ⟨d1, rfl⟩ := d
  exact lv_sipush C.1.1 C.1.2.1 d1 hv (k r hr H locs ls hP hS hl)
theorem MF.lconst (C : CxOK l E X cc nL own ret kk) {n : Fin 2} {pc pc' : Nat} (d : Dc cc pc (.lconst n) 1 pc') {v : Int64} (hv : Int64.ofNat (n : Nat) = v) (k : MF l E X Q b σ pc' lv (.long v :: st)) : MF l E X Q b σ pc lv (st) := by
  intro r hr H locs ls hP hS hl
  obtain ⟨d1, rfl⟩ := d
  exact lv_lconst C.1.1 C.1.2.1 d1 hv (k r hr H locs ls hP hS hl)
theorem MF.ldc (C : CxOK l E X cc nL own ret kk) {i : Nat} {pc pc' : Nat} (d : Dc cc pc (.ldc i) 2 pc') {v : Int32} (hv : Cond.constant own i v ∈ Gw) (k : MF l E X Q b σ pc' lv (.int v :: st)) : MF l E X Q b σ pc lv (st) := by
  intro r hr H locs ls hP hS hl
  obtain ⟨d1, rfl⟩ := d
  exact lv_ldc C.1.1 C.1.2.1 C.1.2.2.2.1 (C.1.2.2.2.2 _ hv) d1 (k r hr H locs ls hP hS hl)
theorem MF.ldcw (C : CxOK l E X cc nL own ret kk) {i : Nat} {pc pc' : Nat} (d : Dc cc pc (.ldc_w i) 3 pc') {v : Int32} (hv : Cond.constant own i v ∈ Gw) (k : MF l E X Q b σ pc' lv (.int v :: st)) : MF l E X Q b σ pc lv (st) := by
  intro r hr H locs ls hP hS hl
  obtain ⟨d1, rfl⟩ := d
  exact lv_ldcw C.1.1 C.1.2.1 C.1.2.2.2.1 (C.1.2.2.2.2 _ hv) d1 (k r hr H locs ls hP hS hl)
theorem MF.ldc2 (C : CxOK l E X cc nL own ret kk) {i : Nat} {pc pc' : Nat} (d : Dc cc pc (.ldc2_w i) 3 pc') {v : Int64} (hv : Cond.constantLong own i v ∈ Gw) (k : MF l E X Q b σ pc' lv (.long v :: st)) : MF l E X Q b σ pc lv (st) := by
  intro r hr H locs ls hP hS hl
  obtain ⟨d1, rfl⟩ := d
  exact lv_ldc2 C.1.1 C.1.2.1 C.1.2.2.2.1 (C.1.2.2.2.2 _ hv) d1 (k r hr H locs ls hP hS hl)
theorem MF.iadd (C : CxOK l E X cc nL own ret kk) {x y : Int32} {pc pc' : Nat} (d : Dc cc pc .iadd 1 pc') (k : MF l E X Q b σ pc' lv (.int (x + y) :: st)) : MF l E X Q b σ pc lv (.int y :: .int x :: st) := by
  intro r hr H locs ls hP hS hl
  obtain ⟨d1, rfl⟩ := d
  exact lv_iadd C.1.1 C.1.2.1 d1 (k r hr H locs ls hP hS hl)
theorem MF.isub (C : CxOK l E X cc nL own ret kk) {x y : Int32} {pc pc' : Nat} (d : Dc cc pc .isub 1 pc') (k : MF l E X Q b σ pc' lv (.int (x - y) :: st)) : MF l E X Q b σ pc lv (.int y :: .int x :: st) := by
  intro r hr H locs ls hP hS hl
  obtain ⟨d1, rfl⟩ := d
  exact lv_isub C.1.1 C.1.2.1 d1 (k r hr H locs ls hP hS hl)
theorem MF.imul (C : CxOK l E X cc nL own ret kk) {x y : Int32} {pc pc' : Nat} (d : Dc cc pc .imul 1 pc') (k : MF l E X Q b σ pc' lv (.int (x * y) :: st)) : MF l E X Q b σ pc lv (.int y :: .int x :: st) := by
  intro r hr H locs ls hP hS hl
  obtain ⟨d1, rfl⟩ := d
  exact lv_imul C.1.1 C.1.2.1 d1 (k r hr H locs ls hP hS hl)
theorem MF.iand (C : CxOK l E X cc nL own ret kk) {x y : Int32} {pc pc' : Nat} (d : Dc cc pc .iand 1 pc') (k : MF l E X Q b σ pc' lv (.int (x &&& y) :: st)) : MF l E X Q b σ pc lv (.int y :: .int x :: st) := by
  intro r hr H locs ls hP hS hl
  obtain ⟨d1, rfl⟩ := d
  exact lv_iand C.1.1 C.1.2.1 d1 (k r hr H locs ls hP hS hl)
theorem MF.ior (C : CxOK l E X cc nL own ret kk) {x y : Int32} {pc pc' : Nat} (d : Dc cc pc .ior 1 pc') (k : MF l E X Q b σ pc' lv (.int (x ||| y) :: st)) : MF l E X Q b σ pc lv (.int y :: .int x :: st) := by
  intro r hr H locs ls hP hS hl
  obtain ⟨d1, rfl⟩ := d
  exact lv_ior C.1.1 C.1.2.1 d1 (k r hr H locs ls hP hS hl)
theorem MF.ixor (C : CxOK l E X cc nL own ret kk) {x y : Int32} {pc pc' : Nat} (d : Dc cc pc .ixor 1 pc') (k : MF l E X Q b σ pc' lv (.int (x ^^^ y) :: st)) : MF l E X Q b σ pc lv (.int y :: .int x :: st) := by
  intro r hr H locs ls hP hS hl
  obtain ⟨d1, rfl⟩ := d
  exact lv_ixor C.1.1 C.1.2.1 d1 (k r hr H locs ls hP hS hl)
theorem MF.ishl (C : CxOK l E X cc nL own ret kk) {x y : Int32} {pc pc' : Nat} (d : Dc cc pc .ishl 1 pc') (k : MF l E X Q b σ pc' lv (.int (x <<< (y &&& 31)) :: st)) : MF l E X Q b σ pc lv (.int y :: .int x :: st) := by
  intro r hr H locs ls hP hS hl
  obtain ⟨d1, rfl⟩ := d
  exact lv_ishl C.1.1 C.1.2.1 d1 (k r hr H locs ls hP hS hl)
theorem MF.ishr (C : CxOK l E X cc nL own ret kk) {x y : Int32} {pc pc' : Nat} (d : Dc cc pc .ishr 1 pc') (k : MF l E X Q b σ pc' lv (.int (x >>> (y &&& 31)) :: st)) : MF l E X Q b σ pc lv (.int y :: .int x :: st) := by
  intro r hr H locs ls hP hS hl
  obtain ⟨d1, rfl⟩ := d
  exact lv_ishr C.1.1 C.1.2.1 d1 (k r hr H locs ls hP hS hl)
theorem MF.iushr (C : CxOK l E X cc nL own ret kk) {x y : Int32} {pc pc' : Nat} (d : Dc cc pc .iushr 1 pc') (k : MF l E X Q b σ pc' lv (.int ((x.toUInt32 >>> (y.toUInt32 &&& Int32.toUInt32 31)).toInt32) :: st)) : MF l E X Q b σ pc lv (.int y :: .int x :: st) := by
  intro r hr H locs ls hP hS hl
  obtain ⟨d1, rfl⟩ := d
  exact lv_iushr C.1.1 C.1.2.1 d1 rfl (k r hr H locs ls hP hS hl)
theorem MF.idiv (C : CxOK l E X cc nL own ret kk) {x y : Int32} {pc pc' : Nat} (d : Dc cc pc .idiv 1 pc') (h : ¬ y = 0) (k : MF l E X Q b σ pc' lv (.int (x / y) :: st)) : MF l E X Q b σ pc lv (.int y :: .int x :: st) := by
  intro r hr H locs ls hP hS hl
  obtain ⟨d1, rfl⟩ := d
  exact lv_idiv C.1.1 C.1.2.1 d1 h (k r hr H locs ls hP hS hl)
theorem MF.irem (C : CxOK l E X cc nL own ret kk) {x y : Int32} {pc pc' : Nat} (d : Dc cc pc .irem 1 pc') (h : ¬ y = 0) (k : MF l E X Q b σ pc' lv (.int (x - x / y * y) :: st)) : MF l E X Q b σ pc lv (.int y :: .int x :: st) := by
  intro r hr H locs ls hP hS hl
  obtain ⟨d1, rfl⟩ := d
  exact lv_irem C.1.1 C.1.2.1 d1 h (k r hr H locs ls hP hS hl)
theorem MF.ladd (C : CxOK l E X cc nL own ret kk) {x y : Int64} {pc pc' : Nat} (d : Dc cc pc .ladd 1 pc') (k : MF l E X Q b σ pc' lv (.long (x + y) :: st)) : MF l E X Q b σ pc lv (.long y :: .long x :: st) := by
  intro r hr H locs ls hP hS hl
  obtain ⟨d1, rfl⟩ := d
  exact lv_ladd C.1.1 C.1.2.1 d1 (k r hr H locs ls hP hS hl)
theorem MF.lmul (C : CxOK l E X cc nL own ret kk) {x y : Int64} {pc pc' : Nat} (d : Dc cc pc .lmul 1 pc') (k : MF l E X Q b σ pc' lv (.long (x * y) :: st)) : MF l E X Q b σ pc lv (.long y :: .long x :: st) := by
  intro r hr H locs ls hP hS hl
  obtain ⟨d1, rfl⟩ := d
  exact lv_lmul C.1.1 C.1.2.1 d1 (k r hr H locs ls hP hS hl)
theorem MF.ldiv (C : CxOK l E X cc nL own ret kk) {x y : Int64} {pc pc' : Nat} (d : Dc cc pc .ldiv 1 pc') (h : ¬ y = 0) (k : MF l E X Q b σ pc' lv (.long (x / y) :: st)) : MF l E X Q b σ pc lv (.long y :: .long x :: st) := by
  intro r hr H locs ls hP hS hl
  obtain ⟨d1, rfl⟩ := d
  exact lv_ldiv C.1.1 C.1.2.1 d1 h (k r hr H locs ls hP hS hl)
theorem MF.lrem (C : CxOK l E X cc nL own ret kk) {x y : Int64} {pc pc' : Nat} (d : Dc cc pc .lrem 1 pc') (h : ¬ y = 0) (k : MF l E X Q b σ pc' lv (.long (x - x / y * y) :: st)) : MF l E X Q b σ pc lv (.long y :: .long x :: st) := by
  intro r hr H locs ls hP hS hl
  obtain ⟨d1, rfl⟩ := d
  exact lv_lrem C.1.1 C.1.2.1 d1 h (k r hr H locs ls hP hS hl)
theorem MF.lcmp (C : CxOK l E X cc nL own ret kk) {x y : Int64} {pc pc' : Nat} (d : Dc cc pc .lcmp 1 pc') (k : MF l E X Q b σ pc' lv (.int (lg_cmp x y) :: st)) : MF l E X Q b σ pc lv (.long y :: .long x :: st) := by
  intro r hr H locs ls hP hS hl
  obtain ⟨d1, rfl⟩ := d
  exact W.lcmp C.1.1 C.1.2.1 d1 (k r hr H locs ls hP hS hl)
theorem MF.i2l (C : CxOK l E X cc nL own ret kk) {x : Int32} {pc pc' : Nat} (d : Dc cc pc .i2l 1 pc') (k : MF l E X Q b σ pc' lv (.long x.toInt64 :: st)) : MF l E X Q b σ pc lv (.int x :: st) := by
  intro r hr H locs ls hP hS hl
  obtain ⟨d1, rfl⟩ := d
  exact lv_i2l C.1.1 C.1.2.1 d1 rfl (k r hr H locs ls hP hS hl)
theorem MF.l2i (C : CxOK l E X cc nL own ret kk) {x : Int64} {pc pc' : Nat} (d : Dc cc pc .l2i 1 pc') (k : MF l E X Q b σ pc' lv (.int x.toInt32 :: st)) : MF l E X Q b σ pc lv (.long x :: st) := by
  intro r hr H locs ls hP hS hl
  obtain ⟨d1, rfl⟩ := d
  exact lv_l2i C.1.1 C.1.2.1 d1 rfl (k r hr H locs ls hP hS hl)
theorem MF.i2c (C : CxOK l E X cc nL own ret kk) {x : Int32} {pc pc' : Nat} (d : Dc cc pc .i2c 1 pc') (k : MF l E X Q b σ pc' lv (.int (x.toUInt32 % 65536).toInt32 :: st)) : MF l E X Q b σ pc lv (.int x :: st) := by
  intro r hr H locs ls hP hS hl
  obtain ⟨d1, rfl⟩ := d
  exact lv_i2c C.1.1 C.1.2.1 d1 rfl (k r hr H locs ls hP hS hl)
theorem MF.dup (C : CxOK l E X cc nL own ret kk) {a : Value} {pc pc' : Nat} (d : Dc cc pc .dup 1 pc') (h : a.category = 1) (k : MF l E X Q b σ pc' lv (a :: a :: st)) : MF l E X Q b σ pc lv (a :: st) := by
  intro r hr H locs ls hP hS hl
  obtain ⟨d1, rfl⟩ := d
  exact lv_dup C.1.1 C.1.2.1 d1 h (k r hr H locs ls hP hS hl)
theorem MF.pop (C : CxOK l E X cc nL own ret kk) {a : Value} {pc pc' : Nat} (d : Dc cc pc .pop 1 pc') (h : a.category = 1) (k : MF l E X Q b σ pc' lv (st)) : MF l E X Q b σ pc lv (a :: st) := by
  intro r hr H locs ls hP hS hl
  obtain ⟨d1, rfl⟩ := d
  exact lv_pop C.1.1 C.1.2.1 d1 h (k r hr H locs ls hP hS hl)
theorem MF.dup2 (C : CxOK l E X cc nL own ret kk) {a a2 : Value} {pc pc' : Nat} (d : Dc cc pc .dup2 1 pc') (h : a.category = 1) (h2 : a2.category = 1) (k : MF l E X Q b σ pc' lv (a :: a2 :: a :: a2 :: st)) : MF l E X Q b σ pc lv (a :: a2 :: st) := by
  intro r hr H locs ls hP hS hl
  obtain ⟨d1, rfl⟩ := d
  exact lv_dup2_11 C.1.1 C.1.2.1 d1 h h2 (k r hr H locs ls hP hS hl)
theorem MF.iload_n (C : CxOK l E X cc nL own ret kk) {i : Fin 4} {pc pc' : Nat} (d : Dc cc pc (.iload_n i) 1 pc') (j : Nat) {i2 : Nat} {x : Int32} (h : lv[j]? = some (i2, .int x)) (hi : (i : Nat) = i2) (k : MF l E X Q b σ pc' lv (.int x :: st)) : MF l E X Q b σ pc lv (st) := by
  intro r hr H locs ls hP hS hl
  obtain ⟨d1, rfl⟩ := d
  exact lv_iload_n C.1.1 C.1.2.1 d1 hi (lv_at hl j h) (k r hr H locs ls hP hS hl)
theorem MF.iload (C : CxOK l E X cc nL own ret kk) {i : Nat} {pc pc' : Nat} (d : Dc cc pc (.iload i) 2 pc') (j : Nat) {x : Int32} (h : lv[j]? = some (i, .int x)) (k : MF l E X Q b σ pc' lv (.int x :: st)) : MF l E X Q b σ pc lv (st) := by
  intro r hr H locs ls hP hS hl
  obtain ⟨d1, rfl⟩ := d
  exact lv_iload C.1.1 C.1.2.1 d1 (lv_at hl j h) (k r hr H locs ls hP hS hl)
theorem MF.lload_n (C : CxOK l E X cc nL own ret kk) {i : Fin 4} {pc pc' : Nat} (d : Dc cc pc (.lload_n i) 1 pc') (j : Nat) {i2 : Nat} {x : Int64} (h : lv[j]? = some (i2, .long x)) (hi : (i : Nat) = i2) (k : MF l E X Q b σ pc' lv (.long x :: st)) : MF l E X Q b σ pc lv (st) := by
  intro r hr H locs ls hP hS hl
  obtain ⟨d1, rfl⟩ := d
  exact lv_lload_n C.1.1 C.1.2.1 d1 hi (lv_at hl j h) (k r hr H locs ls hP hS hl)
theorem MF.lload (C : CxOK l E X cc nL own ret kk) {i : Nat} {pc pc' : Nat} (d : Dc cc pc (.lload i) 2 pc') (j : Nat) {x : Int64} (h : lv[j]? = some (i, .long x)) (k : MF l E X Q b σ pc' lv (.long x :: st)) : MF l E X Q b σ pc lv (st) := by
  intro r hr H locs ls hP hS hl
  obtain ⟨d1, rfl⟩ := d
  exact lv_lload C.1.1 C.1.2.1 d1 (lv_at hl j h) (k r hr H locs ls hP hS hl)
theorem MF.aload_n (C : CxOK l E X cc nL own ret kk) {i : Fin 4} {pc pc' : Nat} (d : Dc cc pc (.aload_n i) 1 pc') (j : Nat) {i2 : Nat} {x : Nat} (h : lv[j]? = some (i2, .ref x)) (hi : (i : Nat) = i2) (k : MF l E X Q b σ pc' lv (.ref x :: st)) : MF l E X Q b σ pc lv (st) := by
  intro r hr H locs ls hP hS hl
  obtain ⟨d1, rfl⟩ := d
  exact lv_aload_n C.1.1 C.1.2.1 d1 hi (lv_at hl j h) (k r hr H locs ls hP hS hl)
theorem MF.aload (C : CxOK l E X cc nL own ret kk) {i : Nat} {pc pc' : Nat} (d : Dc cc pc (.aload i) 2 pc') (j : Nat) {x : Nat} (h : lv[j]? = some (i, .ref x)) (k : MF l E X Q b σ pc' lv (.ref x :: st)) : MF l E X Q b σ pc lv (st) := by
  intro r hr H locs ls hP hS hl
  obtain ⟨d1, rfl⟩ := d
  exact lv_aload C.1.1 C.1.2.1 d1 (lv_at hl j h) (k r hr H locs ls hP hS hl)
theorem MF.istore_n (C : CxOK l E X cc nL own ret kk) {i : Fin 4} {pc pc' : Nat} {lv lv' : List (Nat × Value)} {x : Int32} (d : Dc cc pc (.istore_n i) 1 pc') (hn : (i : Nat) < nL) (h : lset1 (i : Nat) (.int x) lv = lv') (k : MF l E X Q b σ pc' lv' st) : MF l E X Q b σ pc lv (.int x :: st) := by
  intro r hr H locs ls hP hS hl
  obtain ⟨d1, rfl⟩ := d
  subst h
  have hl2 : lv_has ls nL lv := by rw [← C.1.2.2.1]; exact hl
  exact lv_istore_n C.1.1 C.1.2.1 d1 rfl hl2 hn rfl (fun ls' hl' => k r hr H locs ls' hP hS (by rw [C.1.2.2.1]; exact lset1_has hl'))
theorem MF.istore (C : CxOK l E X cc nL own ret kk) {i : Nat} {pc pc' : Nat} {lv lv' : List (Nat × Value)} {x : Int32} (d : Dc cc pc (.istore i) 2 pc') (hn : (i : Nat) < nL) (h : lset1 (i : Nat) (.int x) lv = lv') (k : MF l E X Q b σ pc' lv' st) : MF l E X Q b σ pc lv (.int x :: st) := by
  intro r hr H locs ls hP hS hl
  obtain ⟨d1, rfl⟩ := d
  subst h
  have hl2 : lv_has ls nL lv := by rw [← C.1.2.2.1]; exact hl
  exact lv_istore C.1.1 C.1.2.1 d1 hl2 hn rfl (fun ls' hl' => k r hr H locs ls' hP hS (by rw [C.1.2.2.1]; exact lset1_has hl'))
theorem MF.lstore_n (C : CxOK l E X cc nL own ret kk) {i : Fin 4} {pc pc' : Nat} {lv lv' : List (Nat × Value)} {x : Int64} (d : Dc cc pc (.lstore_n i) 1 pc') (hn : (i : Nat) + 1 < nL) (h : lset2 (i : Nat) (.long x) lv = lv') (k : MF l E X Q b σ pc' lv' st) : MF l E X Q b σ pc lv (.long x :: st) := by
  intro r hr H locs ls hP hS hl
  obtain ⟨d1, rfl⟩ := d
  subst h
  have hl2 : lv_has ls nL lv := by rw [← C.1.2.2.1]; exact hl
  exact lv_lstore_n C.1.1 C.1.2.1 d1 rfl hl2 hn rfl (fun ls' hl' => k r hr H locs ls' hP hS (by rw [C.1.2.2.1]; exact lset2_has hl'))
theorem MF.lstore (C : CxOK l E X cc nL own ret kk) {i : Nat} {pc pc' : Nat} {lv lv' : List (Nat × Value)} {x : Int64} (d : Dc cc pc (.lstore i) 2 pc') (hn : (i : Nat) + 1 < nL) (h : lset2 (i : Nat) (.long x) lv = lv') (k : MF l E X Q b σ pc' lv' st) : MF l E X Q b σ pc lv (.long x :: st) := by
  intro r hr H locs ls hP hS hl
  obtain ⟨d1, rfl⟩ := d
  subst h
  have hl2 : lv_has ls nL lv := by rw [← C.1.2.2.1]; exact hl
  exact lv_lstore C.1.1 C.1.2.1 d1 hl2 hn rfl (fun ls' hl' => k r hr H locs ls' hP hS (by rw [C.1.2.2.1]; exact lset2_has hl'))
theorem MF.astore_n (C : CxOK l E X cc nL own ret kk) {i : Fin 4} {pc pc' : Nat} {lv lv' : List (Nat × Value)} {x : Nat} (d : Dc cc pc (.astore_n i) 1 pc') (hn : (i : Nat) < nL) (h : lset1 (i : Nat) (.ref x) lv = lv') (k : MF l E X Q b σ pc' lv' st) : MF l E X Q b σ pc lv (.ref x :: st) := by
  intro r hr H locs ls hP hS hl
  obtain ⟨d1, rfl⟩ := d
  subst h
  have hl2 : lv_has ls nL lv := by rw [← C.1.2.2.1]; exact hl
  exact lv_astore_n C.1.1 C.1.2.1 d1 rfl hl2 hn rfl (fun ls' hl' => k r hr H locs ls' hP hS (by rw [C.1.2.2.1]; exact lset1_has hl'))
theorem MF.astore (C : CxOK l E X cc nL own ret kk) {i : Nat} {pc pc' : Nat} {lv lv' : List (Nat × Value)} {x : Nat} (d : Dc cc pc (.astore i) 2 pc') (hn : (i : Nat) < nL) (h : lset1 (i : Nat) (.ref x) lv = lv') (k : MF l E X Q b σ pc' lv' st) : MF l E X Q b σ pc lv (.ref x :: st) := by
  intro r hr H locs ls hP hS hl
  obtain ⟨d1, rfl⟩ := d
  subst h
  have hl2 : lv_has ls nL lv := by rw [← C.1.2.2.1]; exact hl
  exact lv_astore C.1.1 C.1.2.1 d1 hl2 hn rfl (fun ls' hl' => k r hr H locs ls' hP hS (by rw [C.1.2.2.1]; exact lset1_has hl'))
theorem MF.iinc (C : CxOK l E X cc nL own ret kk) {i : Nat} {n : Int} {pc pc' : Nat} {lv lv' : List (Nat × Value)} {x v : Int32} (d : Dc cc pc (.iinc i n) 3 pc') (j : Nat) (hj : lv[j]? = some (i, .int x)) (hv : Int32.ofInt n = v) (hn : i < nL) (h : lset1 i (.int (x + v)) lv = lv') (k : MF l E X Q b σ pc' lv' st) : MF l E X Q b σ pc lv st := by
  intro r hr H locs ls hP hS hl
  obtain ⟨d1, rfl⟩ := d
  subst h; subst hv
  have hl2 : lv_has ls nL lv := by rw [← C.1.2.2.1]; exact hl
  exact lv_iinc C.1.1 C.1.2.1 d1 hl2 hj rfl hn rfl (fun ls' hl' => k r hr H locs ls' hP hS (by rw [C.1.2.2.1]; exact lset1_has hl'))
theorem MF.if_eq (C : CxOK l E X cc nL own ret kk) {x : Int32} {off : Int} {pc pc' tgt : Nat} {bt bf : Option ρ} (d : Dc cc pc (.ifCond .eq off) 3 pc') (ht : (pc : Int) + off = (tgt : Int)) (kt : x = 0 → MF l E X Q bt σ tgt lv st) (kf : ¬ x = 0 → MF l E X Q bf σ pc' lv st) : MF l E X Q (if x = 0 then bt else bf) σ pc lv (.int x :: st) := by
  intro r hr H locs ls hP hS hl
  obtain ⟨d1, rfl⟩ := d
  exact lv_if_eq C.1.1 C.1.2.1 d1 ht (fun h => kt h r (by rw [if_pos h] at hr; exact hr) H locs ls hP hS hl) (fun h => kf h r (by rw [if_neg h] at hr; exact hr) H locs ls hP hS hl)
theorem MF.if_ne (C : CxOK l E X cc nL own ret kk) {x : Int32} {off : Int} {pc pc' tgt : Nat} {bt bf : Option ρ} (d : Dc cc pc (.ifCond .ne off) 3 pc') (ht : (pc : Int) + off = (tgt : Int)) (kt : ¬ x = 0 → MF l E X Q bf σ tgt lv st) (kf : x = 0 → MF l E X Q bt σ pc' lv st) : MF l E X Q (if x = 0 then bt else bf) σ pc lv (.int x :: st) := by
  intro r hr H locs ls hP hS hl
  obtain ⟨d1, rfl⟩ := d
  exact lv_if_ne C.1.1 C.1.2.1 d1 ht (fun h => kt h r (by rw [if_neg h] at hr; exact hr) H locs ls hP hS hl) (fun h => kf h r (by rw [if_pos h] at hr; exact hr) H locs ls hP hS hl)
theorem MF.if_lt (C : CxOK l E X cc nL own ret kk) {x : Int32} {off : Int} {pc pc' tgt : Nat} {bt bf : Option ρ} (d : Dc cc pc (.ifCond .lt off) 3 pc') (ht : (pc : Int) + off = (tgt : Int)) (kt : x < 0 → MF l E X Q bt σ tgt lv st) (kf : ¬ x < 0 → MF l E X Q bf σ pc' lv st) : MF l E X Q (if x < 0 then bt else bf) σ pc lv (.int x :: st) := by
  intro r hr H locs ls hP hS hl
  obtain ⟨d1, rfl⟩ := d
  exact lv_if_lt C.1.1 C.1.2.1 d1 ht (fun h => kt h r (by rw [if_pos h] at hr; exact hr) H locs ls hP hS hl) (fun h => kf h r (by rw [if_neg h] at hr; exact hr) H locs ls hP hS hl)
theorem MF.if_ge (C : CxOK l E X cc nL own ret kk) {x : Int32} {off : Int} {pc pc' tgt : Nat} {bt bf : Option ρ} (d : Dc cc pc (.ifCond .ge off) 3 pc') (ht : (pc : Int) + off = (tgt : Int)) (kt : 0 ≤ x → MF l E X Q bt σ tgt lv st) (kf : ¬ 0 ≤ x → MF l E X Q bf σ pc' lv st) : MF l E X Q (if 0 ≤ x then bt else bf) σ pc lv (.int x :: st) := by
  intro r hr H locs ls hP hS hl
  obtain ⟨d1, rfl⟩ := d
  exact lv_if_ge C.1.1 C.1.2.1 d1 ht (fun h => kt h r (by rw [if_pos h] at hr; exact hr) H locs ls hP hS hl) (fun h => kf h r (by rw [if_neg h] at hr; exact hr) H locs ls hP hS hl)
theorem MF.if_gt (C : CxOK l E X cc nL own ret kk) {x : Int32} {off : Int} {pc pc' tgt : Nat} {bt bf : Option ρ} (d : Dc cc pc (.ifCond .gt off) 3 pc') (ht : (pc : Int) + off = (tgt : Int)) (kt : 0 < x → MF l E X Q bt σ tgt lv st) (kf : ¬ 0 < x → MF l E X Q bf σ pc' lv st) : MF l E X Q (if 0 < x then bt else bf) σ pc lv (.int x :: st) := by
  intro r hr H locs ls hP hS hl
  obtain ⟨d1, rfl⟩ := d
  exact lv_if_gt C.1.1 C.1.2.1 d1 ht (fun h => kt h r (by rw [if_pos h] at hr; exact hr) H locs ls hP hS hl) (fun h => kf h r (by rw [if_neg h] at hr; exact hr) H locs ls hP hS hl)
theorem MF.if_le (C : CxOK l E X cc nL own ret kk) {x : Int32} {off : Int} {pc pc' tgt : Nat} {bt bf : Option ρ} (d : Dc cc pc (.ifCond .le off) 3 pc') (ht : (pc : Int) + off = (tgt : Int)) (kt : x ≤ 0 → MF l E X Q bt σ tgt lv st) (kf : ¬ x ≤ 0 → MF l E X Q bf σ pc' lv st) : MF l E X Q (if x ≤ 0 then bt else bf) σ pc lv (.int x :: st) := by
  intro r hr H locs ls hP hS hl
  obtain ⟨d1, rfl⟩ := d
  exact lv_if_le C.1.1 C.1.2.1 d1 ht (fun h => kt h r (by rw [if_pos h] at hr; exact hr) H locs ls hP hS hl) (fun h => kf h r (by rw [if_neg h] at hr; exact hr) H locs ls hP hS hl)
theorem MF.icmp_eq (C : CxOK l E X cc nL own ret kk) {x y : Int32} {off : Int} {pc pc' tgt : Nat} {bt bf : Option ρ} (d : Dc cc pc (.if_icmp .eq off) 3 pc') (ht : (pc : Int) + off = (tgt : Int)) (kt : x = y → MF l E X Q bt σ tgt lv st) (kf : ¬ x = y → MF l E X Q bf σ pc' lv st) : MF l E X Q (if x = y then bt else bf) σ pc lv (.int y :: .int x :: st) := by
  intro r hr H locs ls hP hS hl
  obtain ⟨d1, rfl⟩ := d
  exact lv_icmp_eq C.1.1 C.1.2.1 d1 ht (fun h => kt h r (by rw [if_pos h] at hr; exact hr) H locs ls hP hS hl) (fun h => kf h r (by rw [if_neg h] at hr; exact hr) H locs ls hP hS hl)
theorem MF.icmp_ne (C : CxOK l E X cc nL own ret kk) {x y : Int32} {off : Int} {pc pc' tgt : Nat} {bt bf : Option ρ} (d : Dc cc pc (.if_icmp .ne off) 3 pc') (ht : (pc : Int) + off = (tgt : Int)) (kt : ¬ x = y → MF l E X Q bf σ tgt lv st) (kf : x = y → MF l E X Q bt σ pc' lv st) : MF l E X Q (if x = y then bt else bf) σ pc lv (.int y :: .int x :: st) := by
  intro r hr H locs ls hP hS hl
  obtain ⟨d1, rfl⟩ := d
  exact lv_icmp_ne C.1.1 C.1.2.1 d1 ht (fun h => kt h r (by rw [if_neg h] at hr; exact hr) H locs ls hP hS hl) (fun h => kf h r (by rw [if_pos h] at hr; exact hr) H locs ls hP hS hl)
theorem MF.icmp_lt (C : CxOK l E X cc nL own ret kk) {x y : Int32} {off : Int} {pc pc' tgt : Nat} {bt bf : Option ρ} (d : Dc cc pc (.if_icmp .lt off) 3 pc') (ht : (pc : Int) + off = (tgt : Int)) (kt : x < y → MF l E X Q bt σ tgt lv st) (kf : ¬ x < y → MF l E X Q bf σ pc' lv st) : MF l E X Q (if x < y then bt else bf) σ pc lv (.int y :: .int x :: st) := by
  intro r hr H locs ls hP hS hl
  obtain ⟨d1, rfl⟩ := d
  exact lv_icmp_lt C.1.1 C.1.2.1 d1 ht (fun h => kt h r (by rw [if_pos h] at hr; exact hr) H locs ls hP hS hl) (fun h => kf h r (by rw [if_neg h] at hr; exact hr) H locs ls hP hS hl)
theorem MF.icmp_ge (C : CxOK l E X cc nL own ret kk) {x y : Int32} {off : Int} {pc pc' tgt : Nat} {bt bf : Option ρ} (d : Dc cc pc (.if_icmp .ge off) 3 pc') (ht : (pc : Int) + off = (tgt : Int)) (kt : y ≤ x → MF l E X Q bt σ tgt lv st) (kf : ¬ y ≤ x → MF l E X Q bf σ pc' lv st) : MF l E X Q (if y ≤ x then bt else bf) σ pc lv (.int y :: .int x :: st) := by
  intro r hr H locs ls hP hS hl
  obtain ⟨d1, rfl⟩ := d
  exact lv_icmp_ge C.1.1 C.1.2.1 d1 ht (fun h => kt h r (by rw [if_pos h] at hr; exact hr) H locs ls hP hS hl) (fun h => kf h r (by rw [if_neg h] at hr; exact hr) H locs ls hP hS hl)
theorem MF.icmp_gt (C : CxOK l E X cc nL own ret kk) {x y : Int32} {off : Int} {pc pc' tgt : Nat} {bt bf : Option ρ} (d : Dc cc pc (.if_icmp .gt off) 3 pc') (ht : (pc : Int) + off = (tgt : Int)) (kt : y < x → MF l E X Q bt σ tgt lv st) (kf : ¬ y < x → MF l E X Q bf σ pc' lv st) : MF l E X Q (if y < x then bt else bf) σ pc lv (.int y :: .int x :: st) := by
  intro r hr H locs ls hP hS hl
  obtain ⟨d1, rfl⟩ := d
  exact lv_icmp_gt C.1.1 C.1.2.1 d1 ht (fun h => kt h r (by rw [if_pos h] at hr; exact hr) H locs ls hP hS hl) (fun h => kf h r (by rw [if_neg h] at hr; exact hr) H locs ls hP hS hl)
theorem MF.icmp_le (C : CxOK l E X cc nL own ret kk) {x y : Int32} {off : Int} {pc pc' tgt : Nat} {bt bf : Option ρ} (d : Dc cc pc (.if_icmp .le off) 3 pc') (ht : (pc : Int) + off = (tgt : Int)) (kt : x ≤ y → MF l E X Q bt σ tgt lv st) (kf : ¬ x ≤ y → MF l E X Q bf σ pc' lv st) : MF l E X Q (if x ≤ y then bt else bf) σ pc lv (.int y :: .int x :: st) := by
  intro r hr H locs ls hP hS hl
  obtain ⟨d1, rfl⟩ := d
  exact lv_icmp_le C.1.1 C.1.2.1 d1 ht (fun h => kt h r (by rw [if_pos h] at hr; exact hr) H locs ls hP hS hl) (fun h => kf h r (by rw [if_neg h] at hr; exact hr) H locs ls hP hS hl)
theorem MF.goto (C : CxOK l E X cc nL own ret kk) {off : Int} {pc pc' tgt : Nat} (d : Dc cc pc (.goto off) 3 pc') (ht : (pc : Int) + off = (tgt : Int)) (k : MF l E X Q b σ tgt lv st) : MF l E X Q b σ pc lv st := by
  intro r hr H locs ls hP hS hl
  exact lv_goto C.1.1 C.1.2.1 d.1 ht (k r hr H locs ls hP hS hl)
/-- locals in another order, or fewer -/
theorem MF.sub {pc : Nat} {lv' : List (Nat × Value)} (ks : List Nat) (h : lv_pick lv ks = lv') (k : MF l E X Q b σ pc lv' st) : MF l E X Q b σ pc lv st := by
  intro r hr H locs ls hP hS hl
  exact k r hr H locs ls hP hS (lv_sub hl ks h)
theorem MF.no {pc : Nat} : MF l E X Q (none : Option ρ) σ pc lv st := fun r hr => by cases hr
/-- what is bound by a name -/
def nm_ {α γ : Type} (x : α) (k : α → γ) : γ := k x
theorem MF.nmI {pc : Nat} {x : Int32} {kb : Int32 → Option ρ} (k : ∀ y : Int32, MF l E X Q (kb y) σ pc lv (.int y :: st)) : MF l E X Q (nm_ x kb) σ pc lv (.int x :: st) := k x
theorem MF.nmL {pc : Nat} {x : Int64} {kb : Int64 → Option ρ} (k : ∀ y : Int64, MF l E X Q (kb y) σ pc lv (.long y :: st)) : MF l E X Q (nm_ x kb) σ pc lv (.long x :: st) := k x
theorem MF.nmS {pc : Nat} {τ : Sg} {kb : Sg → Option ρ} (k : ∀ y : Sg, MF l E X Q (kb y) y pc lv st) : MF l E X Q (nm_ τ kb) τ pc lv st := k τ
/-- a join, or what goes on behind a loop, named -/
theorem MF.join {α : Type} {j : α} {pc : Nat} {kb : α → Option ρ} (P : α → Prop) (hj : P j) (k : ∀ y : α, P y → MF l E X Q (kb y) σ pc lv st) : MF l E X Q (nm_ j kb) σ pc lv st := k j hj
/-! fields -/
def CF (ci : Nat) (Cn : String) (T : u_T) (N : Nat) (ty : Nat → FieldType) : Prop :=
  vwCl[ci]? = some (Cn, T, N) ∧ (∀ w ∈ u_ws Cn T N, w ∈ Gw) ∧ (∀ k, k < N → parseFieldDescriptor (T k).2.2.1 = some (ty k)) ∧ ∀ a, a < N → ∀ b, b < N → a ≠ b → (T a).2.1 ≠ (T b).2.1
def FL (own : String) (idx : Nat) (Cn : String) (T : u_T) (N k : Nat) : Prop := k < N ∧ (T k).1 = Cn ∧ Cond.fieldLink own idx Cn (T k).2.1 (T k).2.2.1 ∈ Gw
def FLN (own : String) (idx : Nat) (Cn : String) (T : u_T) (N k : Nat) : Prop := k < N ∧ (T k).1 = Cn ∧ Cond.fieldLinkNest own idx Cn (T k).2.1 (T k).2.2.1 "LastHappened" ∈ nestW
def PF (T : u_T) (k : Nat) : Prop := (T k).2.2.2 = false ∧ parseFieldDescriptor (T k).2.2.1 = some .int
section MFF
variable {ci N : Nat} {Cn : String} {T : u_T} {ty : Nat → FieldType} {idx pc pc' o k : Nat}
theorem MF.get (C : CxOK l E X cc nL own ret kk) (cf : CF ci Cn T N ty) (f : FL own idx Cn T N k) (d : Dc cc pc (.getfield idx) 3 pc') (hf : iF ci k o) (kn : MF l E X Q b σ pc' lv (.int (σ o k) :: st)) : MF l E X Q b σ pc lv (.ref (ead E o) :: st) := by
  intro r hr H locs ls hP hS hl
  obtain ⟨d1, rfl⟩ := d
  obtain ⟨ho, h1, h2, h3⟩ := hf
  exact va_get C.1.1 C.1.2.1 C.1.2.2.2.2 cf.2.1 C.1.2.2.2.1 C.2.1 hP o ((Ws_at ho).trans (by rw [enc_O h1 h2])) cf.1 k f.1 (C.1.2.2.2.2 _ f.2.2) (by rw [f.2.1]; exact fun x h => h) (by rw [encF_int h3, Nat.zero_add]) d1 (kn r hr H locs ls hP hS hl)
theorem MF.getR {j : Nat} (C : CxOK l E X cc nL own ret kk) (cf : CF ci Cn T N ty) (f : FL own idx Cn T N k) (d : Dc cc pc (.getfield idx) 3 pc') (hf : rF ci k o j) (kn : MF l E X Q b σ pc' lv (.ref (ead E j) :: st)) : MF l E X Q b σ pc lv (.ref (ead E o) :: st) := by
  intro r hr H locs ls hP hS hl
  obtain ⟨d1, rfl⟩ := d
  obtain ⟨ho, h1, h2, h3⟩ := hf
  exact va_get C.1.1 C.1.2.1 C.1.2.2.2.2 cf.2.1 C.1.2.2.2.1 C.2.1 hP o ((Ws_at ho).trans (by rw [enc_O h1 h2])) cf.1 k f.1 (C.1.2.2.2.2 _ f.2.2) (by rw [f.2.1]; exact fun x h => h) (encF_ref h3) d1 (kn r hr H locs ls hP hS hl)
theorem MF.getN (C : CxOK l E X cc nL own ret kk) (cf : CF ci Cn T N ty) (f : FLN own idx Cn T N k) (d : Dc cc pc (.getfield idx) 3 pc') (hf : iF ci k o) (kn : MF l E X Q b σ pc' lv (.int (σ o k) :: st)) : MF l E X Q b σ pc lv (.ref (ead E o) :: st) := by
  intro r hr H locs ls hP hS hl
  obtain ⟨d1, rfl⟩ := d
  obtain ⟨ho, h1, h2, h3⟩ := hf
  exact va_getN C.1.1 C.1.2.1 C.1.2.2.2.2 cf.2.1 C.1.2.2.2.1 C.2.1 hP o ((Ws_at ho).trans (by rw [enc_O h1 h2])) cf.1 k f.1 (va_Nw.use (isNest_tab rfl) (C.2.2.1.2.2.2.2.2 _ f.2.2)) (by rw [f.2.1]; exact fun x h => h) (by rw [encF_int h3, Nat.zero_add]) d1 (kn r hr H locs ls hP hS hl)
theorem MF.getRN {j : Nat} (C : CxOK l E X cc nL own ret kk) (cf : CF ci Cn T N ty) (f : FLN own idx Cn T N k) (d : Dc cc pc (.getfield idx) 3 pc') (hf : rF ci k o j) (kn : MF l E X Q b σ pc' lv (.ref (ead E j) :: st)) : MF l E X Q b σ pc lv (.ref (ead E o) :: st) := by
  intro r hr H locs ls hP hS hl
  obtain ⟨d1, rfl⟩ := d
  obtain ⟨ho, h1, h2, h3⟩ := hf
  exact va_getN C.1.1 C.1.2.1 C.1.2.2.2.2 cf.2.1 C.1.2.2.2.1 C.2.1 hP o ((Ws_at ho).trans (by rw [enc_O h1 h2])) cf.1 k f.1 (va_Nw.use (isNest_tab rfl) (C.2.2.1.2.2.2.2.2 _ f.2.2)) (by rw [f.2.1]; exact fun x h => h) (encF_ref h3) d1 (kn r hr H locs ls hP hS hl)
theorem DWs {E : EX} (h : DD E) (σ : Sg) : va_D (AE E) (Ws E σ) := by
  have key : ∀ (k : Nat) (q : Nat × va_E), (Ws E σ)[k]? = some q → k < shN ∧ q.1 = ead E k := by
    intro k q hq
    have hk : k < shN := by
      have := (List.getElem?_eq_some_iff.mp hq).1
      rw [Ws_len] at this
      exact this
    rw [Ws_at hk] at hq
    exact ⟨hk, by cases hq; rfl⟩
  refine ⟨fun i j p q hi hj e => ?_, fun k q hq => ?_⟩
  · obtain ⟨a1, a2⟩ := key i p hi
    obtain ⟨b1, b2⟩ := key j q hj
    exact h i j a1 b1 (by rw [← a2, ← b2]; exact e)
  · obtain ⟨a1, a2⟩ := key k q hq
    exact ⟨k, a1, a2⟩
theorem MF.put {x : Int32} {τ : Sg} (C : CxOK l E X cc nL own ret kk) (cf : CF ci Cn T N ty) (f : FL own idx Cn T N k) (pf : PF T k) (d : Dc cc pc (.putfield idx) 3 pc') (hf : iF ci k o) (ht : sts σ o k x = τ) (kn : MF l E X Q b τ pc' lv st) : MF l E X Q b σ pc lv (.int x :: .ref (ead E o) :: st) := by
  intro r hr H locs ls hP hS hl
  obtain ⟨d1, rfl⟩ := d
  obtain ⟨ho, h1, h2, h3⟩ := hf
  subst ht
  refine va_put (v := .int x) C.1.1 C.1.2.1 C.1.2.2.2.2 cf.2.1 ty cf.2.2.1 cf.2.2.2 C.1.2.2.2.1 C.2.1 hP (DWs C.2.2.2.1 σ) hS o ((Ws_at ho).trans (by rw [enc_O h1 h2])) cf.1 k f.1 (C.1.2.2.2.2 _ f.2.2) (by rw [f.2.1]; exact fun x h => h) pf.1 pf.2 rfl rfl (by rw [encF_len]; exact (List.getElem?_eq_some_iff.mp h3).1) d1 (fun H1 locs1 hP1 hD1 hS1 => kn r hr H1 locs1 ls ?_ hS1 hl)
  rw [encF_set h3, Nat.zero_add, ← enc_O (E := E) h1 h2, Ws_set ho] at hP1
  exact hP1
end MFF
/-! arrays -/
def aget (σ : Sg) (c : Nat) (i : Int32) : Option Int32 := if i < 0 ∨ alen c ≤ i.toNatClampNeg then none else some (σ c i.toNatClampNeg)
def aset (σ : Sg) (c : Nat) (i x : Int32) : Option Sg := if i < 0 ∨ alen c ≤ i.toNatClampNeg then none else some (sts σ c i.toNatClampNeg x)
def zset (σ : Sg) (c : Nat) (i x : Int32) : Option Sg := if i < 0 ∨ alen c ≤ i.toNatClampNeg then none else some (sts σ c i.toNatClampNeg (vp_nar .boolean x))
def tget (t : Nat) (i : Int32) : Option Int32 := if i < 0 ∨ (tabL t).length ≤ i.toNatClampNeg then none else some ((tabL t).getD i.toNatClampNeg 0)
def acpy (σ : Sg) (c : Nat) (sp : Int32) (c2 : Nat) (dp n : Int32) : Option Sg :=
  if sp < 0 ∨ dp < 0 ∨ n < 0 ∨ alen c < sp.toNatClampNeg + n.toNatClampNeg ∨ alen c2 < dp.toNatClampNeg + n.toNatClampNeg then none else some (setc σ c2 (va_cpy (σ c) (σ c2) sp.toNatClampNeg dp.toNatClampNeg n.toNatClampNeg))
section MFA
variable {pc pc' c c2 : Nat} {i x : Int32}
theorem MF.iald {kb : Int32 → Option ρ} (C : CxOK l E X cc nL own ret kk) (d : Dc cc pc .iaload 1 pc') (hc : iA c) (k : ∀ v : Int32, MF l E X Q (kb v) σ pc' lv (.int v :: st)) : MF l E X Q ((aget σ c i).bind kb) σ pc lv (.int i :: .ref (ead E c) :: st) := by
  intro r hr H locs ls hP hS hl
  obtain ⟨d1, rfl⟩ := d
  unfold aget at hr
  by_cases h : i < 0 ∨ alen c ≤ i.toNatClampNeg
  · rw [if_pos h] at hr; cases hr
  · rw [if_neg h] at hr
    exact va_iald C.1.1 C.1.2.1 C.2.1 hP c 0 ((Ws_at hc.1).trans (by rw [enc_I hc.2])) rfl h d1 (k _ r hr H locs ls hP hS hl)
theorem MF.zald {kb : Int32 → Option ρ} (C : CxOK l E X cc nL own ret kk) (d : Dc cc pc .baload 1 pc') (hc : zA c) (k : ∀ v : Int32, MF l E X Q (kb v) σ pc' lv (.int v :: st)) : MF l E X Q ((aget σ c i).bind kb) σ pc lv (.int i :: .ref (ead E c) :: st) := by
  intro r hr H locs ls hP hS hl
  obtain ⟨d1, rfl⟩ := d
  unfold aget at hr
  by_cases h : i < 0 ∨ alen c ≤ i.toNatClampNeg
  · rw [if_pos h] at hr; cases hr
  · rw [if_neg h] at hr
    exact va_zald C.1.1 C.1.2.1 C.2.1 hP c 1 ((Ws_at hc.1).trans (by rw [enc_Z hc.2])) rfl h d1 (k _ r hr H locs ls hP hS hl)
theorem MF.iast {kb : Sg → Option ρ} (C : CxOK l E X cc nL own ret kk) (d : Dc cc pc .iastore 1 pc') (hc : iA c) (k : ∀ τ : Sg, MF l E X Q (kb τ) τ pc' lv st) : MF l E X Q ((aset σ c i x).bind kb) σ pc lv (.int x :: .int i :: .ref (ead E c) :: st) := by
  intro r hr H locs ls hP hS hl
  obtain ⟨d1, rfl⟩ := d
  unfold aset at hr
  by_cases h : i < 0 ∨ alen c ≤ i.toNatClampNeg
  · rw [if_pos h] at hr; cases hr
  · rw [if_neg h] at hr
    refine va_iast C.1.1 C.1.2.1 C.2.1 hP (DWs C.2.2.2.1 σ) hS c 0 ((Ws_at hc.1).trans (by rw [enc_I hc.2])) rfl h d1 (fun H1 locs1 hP1 hD1 hS1 => k _ r hr H1 locs1 ls ?_ hS1 hl)
    rw [← enc_I (E := E) hc.2, Ws_set hc.1] at hP1
    exact hP1
theorem MF.zast {kb : Sg → Option ρ} (C : CxOK l E X cc nL own ret kk) (d : Dc cc pc .bastore 1 pc') (hc : zA c) (k : ∀ τ : Sg, MF l E X Q (kb τ) τ pc' lv st) : MF l E X Q ((zset σ c i x).bind kb) σ pc lv (.int x :: .int i :: .ref (ead E c) :: st) := by
  intro r hr H locs ls hP hS hl
  obtain ⟨d1, rfl⟩ := d
  unfold zset at hr
  by_cases h : i < 0 ∨ alen c ≤ i.toNatClampNeg
  · rw [if_pos h] at hr; cases hr
  · rw [if_neg h] at hr
    refine va_zast C.1.1 C.1.2.1 C.2.1 hP (DWs C.2.2.2.1 σ) hS c 1 ((Ws_at hc.1).trans (by rw [enc_Z hc.2])) rfl h d1 (fun H1 locs1 hP1 hD1 hS1 => k _ r hr H1 locs1 ls ?_ hS1 hl)
    rw [← enc_Z (E := E) hc.2, Ws_set hc.1] at hP1
    exact hP1
theorem MF.alenI (C : CxOK l E X cc nL own ret kk) (d : Dc cc pc .arraylength 1 pc') (hc : iA c) (k : MF l E X Q b σ pc' lv (.int (nI (alen c)) :: st)) : MF l E X Q b σ pc lv (.ref (ead E c) :: st) := by
  intro r hr H locs ls hP hS hl
  obtain ⟨d1, rfl⟩ := d
  exact va_alen (x := (alen c, .inl (σ c))) (v := nI (alen c)) C.1.1 C.1.2.1 C.2.1 hP c 0 ((Ws_at hc.1).trans (by rw [enc_I hc.2])) rfl rfl d1 (k r hr H locs ls hP hS hl)
/-- what the tables give for System.arraycopy, Math.max .. -/
def CPW (own : String) (idx : Nat) : Prop := Cond.methodLink own idx arraycopyName ∈ Gw ∧ Cond.native arraycopyName ∈ Gw ∧ Cond.static arraycopyName ∈ Gw ∧ Cond.initialized "java/lang/System" ∈ Gw
theorem MF.copy {sp dp n : Int32} {idx : Nat} {kb : Sg → Option ρ} (C : CxOK l E X cc nL own ret kk) (w : CPW own idx) (d : Dc cc pc (.invokestatic idx) 3 pc') (hc : iA c) (hc2 : iA c2) (hk : 1 ≤ kk) (hcat : (st.map fun v => v.category).sum ≤ 8) (k : ∀ τ : Sg, MF l E X Q (kb τ) τ pc' lv st) : MF l E X Q ((acpy σ c sp c2 dp n).bind kb) σ pc lv (.int n :: .int dp :: .ref (ead E c2) :: .int sp :: .ref (ead E c) :: st) := by
  intro r hr H locs ls hP hS hl
  obtain ⟨d1, rfl⟩ := d
  unfold acpy at hr
  by_cases h : sp < 0 ∨ dp < 0 ∨ n < 0 ∨ alen c < sp.toNatClampNeg + n.toNatClampNeg ∨ alen c2 < dp.toNatClampNeg + n.toNatClampNeg
  · rw [if_pos h] at hr; cases hr
  · rw [if_neg h] at hr
    simp only [not_or, Nat.not_lt] at h
    have hR := C.2.2.2.2.2.1
    have e1 : nativeFrameWords "java/lang/System" "arraycopy" 5 + 11 ≤ 32 := by decide
    refine va_copyi C.1.1 C.1.2.1 hl.1.symm C.1.2.2.2.1 (C.1.2.2.2.2 _ w.1) (C.1.2.2.2.2 _ w.2.1) (C.1.2.2.2.2 _ w.2.2.1) (C.1.2.2.2.2 _ w.2.2.2) C.2.1 hP (DWs C.2.2.2.1 σ) hS c c2 0 0 ((Ws_at hc.1).trans (by rw [enc_I hc.2])) ((Ws_at hc2.1).trans (by rw [enc_I hc2.2])) rfl rfl rfl h.1 h.2.1 h.2.2.1 h.2.2.2.1 h.2.2.2.2 (fun _ _ => rfl) (by omega) (by omega) d1 (fun H1 locs1 hP1 hD1 hS1 => k _ r hr H1 locs1 ls ?_ hS1 hl)
    rw [← enc_I (E := E) hc2.2, Ws_set hc2.1] at hP1
    exact hP1
def MMW (own : String) (idx : Nat) (y : MethodName) (b : ByteArray) : Prop := Cond.methodLink own idx y ∈ Gw ∧ Cond.static y ∈ Gw ∧ Cond.initialized "java/lang/Math" ∈ Gw ∧ Cond.code y b 2 (some .int) ∈ Gw
theorem MF.max {x y : Int32} {idx : Nat} (C : CxOK l E X cc nL own ret kk) (w : MMW own idx Lib.Math.max.name Lib.Math.max.code) (d : Dc cc pc (.invokestatic idx) 3 pc') (hk : 1 ≤ kk) (hcat : (st.map fun v => v.category).sum ≤ 8) (k : MF l E X Q b σ pc' lv (.int (if x < y then y else x) :: st)) : MF l E X Q b σ pc lv (.int y :: .int x :: st) := by
  intro r hr H locs ls hP hS hl
  obtain ⟨d1, rfl⟩ := d
  have hR := C.2.2.2.2.2.1
  exact va_mmax C.1.1 C.1.2.1 hl.1.symm C.1.2.2.2.1 (C.1.2.2.2.2 _ w.1) (C.1.2.2.2.2 _ w.2.1) (C.1.2.2.2.2 _ w.2.2.1) (C.1.2.2.2.2 _ w.2.2.2) (by omega) (by omega) C.2.2.2.2.1.1 C.2.2.2.2.1.2 d1 (k r hr H locs ls hP hS hl)
theorem MF.min {x y : Int32} {idx : Nat} (C : CxOK l E X cc nL own ret kk) (w : MMW own idx Lib.Math.min.name Lib.Math.min.code) (d : Dc cc pc (.invokestatic idx) 3 pc') (hk : 1 ≤ kk) (hcat : (st.map fun v => v.category).sum ≤ 8) (k : MF l E X Q b σ pc' lv (.int (if y < x then y else x) :: st)) : MF l E X Q b σ pc lv (.int y :: .int x :: st) := by
  intro r hr H locs ls hP hS hl
  obtain ⟨d1, rfl⟩ := d
  have hR := C.2.2.2.2.2.1
  exact va_mmin C.1.1 C.1.2.1 hl.1.symm C.1.2.2.2.1 (C.1.2.2.2.2 _ w.1) (C.1.2.2.2.2 _ w.2.1) (C.1.2.2.2.2 _ w.2.2.1) (C.1.2.2.2.2 _ w.2.2.2) (by omega) (by omega) C.2.2.2.2.1.1 C.2.2.2.2.1.2 d1 (k r hr H locs ls hP hS hl)
end MFA

/-! branches without a machine step; switches -/
theorem MF.split {c : Prop} [Decidable c] {bt bf : Option ρ} {pc : Nat} (kt : c → MF l E X Q bt σ pc lv st) (kf : ¬ c → MF l E X Q bf σ pc lv st) : MF l E X Q (if c then bt else bf) σ pc lv st := by
  intro r hr
  by_cases h : c
  · rw [if_pos h] at hr; exact kt h r hr
  · rw [if_neg h] at hr; exact kf h r hr
theorem i32_ne {x v : Int32} (h : ¬ x = v) : x.toInt ≠ v.toInt := fun e => h (Int32.toInt_inj.mp e)
theorem MF.tabIn {x v : Int32} {dflt lo hi off : Int} {offs : Array Int} {len pc pc' tgt : Nat} (C : CxOK l E X cc nL own ret kk) (d : Dc cc pc (.tableswitch dflt lo hi offs) len pc') (hx : x = v) (h1 : ¬ v.toInt < lo) (h2 : ¬ hi < v.toInt) (ho : offs[(v.toInt - lo).toNat]? = some off) (ht : (pc : Int) + off = (tgt : Int)) (k : MF l E X Q b σ tgt lv st) : MF l E X Q b σ pc lv (.int x :: st) := by
  intro r hr H locs ls hP hS hl
  subst hx
  exact lv_tableIn C.1.1 C.1.2.1 d.1 h1 h2 ho ht (k r hr H locs ls hP hS hl)
theorem MF.tabOut {x : Int32} {dflt lo hi : Int} {offs : Array Int} {len pc pc' tgt : Nat} (C : CxOK l E X cc nL own ret kk) (d : Dc cc pc (.tableswitch dflt lo hi offs) len pc') (h : x.toInt < lo ∨ hi < x.toInt) (ht : (pc : Int) + dflt = (tgt : Int)) (k : MF l E X Q b σ tgt lv st) : MF l E X Q b σ pc lv (.int x :: st) := by
  intro r hr H locs ls hP hS hl
  exact lv_tableOut C.1.1 C.1.2.1 d.1 h ht (k r hr H locs ls hP hS hl)
/-! tables, texts -/
section MFT
variable {pc pc' t idx : Nat} {i : Int32}
theorem MF.getT (C : CxOK l E X cc nL own ret kk) (ht : t < 5) (hl : Cond.fieldLink own idx "LastHappened" (tabN t) "[I" ∈ Gw) (d : Dc cc pc (.getstatic idx) 3 pc') (k : MF l E X Q b σ pc' lv (.ref (etb E t) :: st)) : MF l E X Q b σ pc lv st := by
  intro r hr H locs ls hP hS hls
  obtain ⟨d1, rfl⟩ := d
  exact va_gets C.1.1 C.1.2.1 (C.2.2.1.1 t ht).1 hS C.1.2.2.2.1 (C.1.2.2.2.2 _ hl) (fun _ h => h) d1 (k r hr H locs ls hP hS hls)
theorem MF.getTN (C : CxOK l E X cc nL own ret kk) (ht : t < 5) (hl : Cond.fieldLinkNest own idx "LastHappened" (tabN t) "[I" "LastHappened" ∈ nestW) (d : Dc cc pc (.getstatic idx) 3 pc') (k : MF l E X Q b σ pc' lv (.ref (etb E t) :: st)) : MF l E X Q b σ pc lv st := by
  intro r hr H locs ls hP hS hls
  obtain ⟨d1, rfl⟩ := d
  exact va_getsN C.1.1 C.1.2.1 (C.2.2.1.1 t ht).1 hS C.1.2.2.2.1 (va_Nw.use (isNest_tab rfl) (C.2.2.1.2.2.2.2.2 _ hl)) (fun _ h => h) d1 (k r hr H locs ls hP hS hls)
theorem MF.tald {kb : Int32 → Option ρ} (C : CxOK l E X cc nL own ret kk) (ht : t < 5) (d : Dc cc pc .iaload 1 pc') (k : ∀ v : Int32, MF l E X Q (kb v) σ pc' lv (.int v :: st)) : MF l E X Q ((tget t i).bind kb) σ pc lv (.int i :: .ref (etb E t) :: st) := by
  intro r hr H locs ls hP hS hls
  obtain ⟨d1, rfl⟩ := d
  unfold tget at hr
  by_cases h : i < 0 ∨ (tabL t).length ≤ i.toNatClampNeg
  · rw [if_pos h] at hr; cases hr
  · rw [if_neg h] at hr
    exact va_ti C.1.1 C.1.2.1 (C.2.2.1.1 t ht).2 hS h rfl d1 (k _ r hr H locs ls hP hS hls)
theorem MF.tlen {n : Int32} (C : CxOK l E X cc nL own ret kk) (ht : t < 5) (hn : nI (tabL t).length = n) (d : Dc cc pc .arraylength 1 pc') (k : MF l E X Q b σ pc' lv (.int n :: st)) : MF l E X Q b σ pc lv (.ref (etb E t) :: st) := by
  intro r hr H locs ls hP hS hls
  obtain ⟨d1, rfl⟩ := d
  exact va_tlen C.1.1 C.1.2.1 (C.2.2.1.1 t ht).2 hS hn d1 (k r hr H locs ls hP hS hls)
theorem MF.ldcS (C : CxOK l E X cc nL "LastHappened$Text" ret kk) (ht : t < 4) (hi : strI t = idx) (d : Dc cc pc (.ldc idx) 2 pc') (k : MF l E X Q b σ pc' lv (.ref (esK E t) :: st)) : MF l E X Q b σ pc lv st := by
  intro r hr H locs ls hP hS hls
  obtain ⟨d1, rfl⟩ := d
  subst hi
  exact va_ldcS C.1.1 C.1.2.1 C.1.2.2.2.1 (C.2.2.1.2.2.1 t ht) d1 (k r hr H locs ls hP hS hls)
theorem MF.strV (C : CxOK l E X cc nL own ret kk) (ht : t < 4) (hl : Cond.fieldLink own idx "java/lang/String" "value" "[B" ∈ Gw) (d : Dc cc pc (.getfield idx) 3 pc') (k : MF l E X Q b σ pc' lv (.ref (esV E t) :: st)) : MF l E X Q b σ pc lv (.ref (esK E t) :: st) := by
  intro r hr H locs ls hP hS hls
  obtain ⟨d1, rfl⟩ := d
  exact vk_getf C.1.1 C.1.2.1 (C.2.2.1.2.1.1 t ht).2.2.1 hS C.1.2.2.2.1 (C.1.2.2.2.2 _ hl) (fun _ h => h) d1 (k r hr H locs ls hP hS hls)
theorem MF.strC (C : CxOK l E X cc nL own ret kk) (ht : t < 4) (hl : Cond.fieldLink own idx "java/lang/String" "coder" "B" ∈ Gw) (d : Dc cc pc (.getfield idx) 3 pc') (k : MF l E X Q b σ pc' lv (.int 0 :: st)) : MF l E X Q b σ pc lv (.ref (esK E t) :: st) := by
  intro r hr H locs ls hP hS hls
  obtain ⟨d1, rfl⟩ := d
  exact vk_getf C.1.1 C.1.2.1 (C.2.2.1.2.1.1 t ht).2.1 hS C.1.2.2.2.1 (C.1.2.2.2.2 _ hl) (fun _ h => h) d1 (k r hr H locs ls hP hS hls)
theorem MF.slen {n : Int32} (C : CxOK l E X cc nL own ret kk) (ht : t < 4) (hn : nI (strLen.getD t 0) = n) (d : Dc cc pc .arraylength 1 pc') (k : MF l E X Q b σ pc' lv (.int n :: st)) : MF l E X Q b σ pc lv (.ref (esV E t) :: st) := by
  intro r hr H locs ls hP hS hls
  obtain ⟨d1, rfl⟩ := d
  exact va_tlen C.1.1 C.1.2.1 (C.2.2.1.2.1.1 t ht).2.2.2 hS hn d1 (k r hr H locs ls hP hS hls)
def sget (t : Nat) (i : Int32) : Option Int32 := if i < 0 ∨ strLen.getD t 0 ≤ i.toNatClampNeg then none else some ((strByt.getD t []).getD i.toNatClampNeg 0)
theorem MF.sald {kb : Int32 → Option ρ} (C : CxOK l E X cc nL own ret kk) (ht : t < 4) (d : Dc cc pc .baload 1 pc') (k : ∀ v : Int32, MF l E X Q (kb v) σ pc' lv (.int v :: st)) : MF l E X Q ((sget t i).bind kb) σ pc lv (.int i :: .ref (esV E t) :: st) := by
  intro r hr H locs ls hP hS hls
  obtain ⟨d1, rfl⟩ := d
  unfold sget at hr
  by_cases h : i < 0 ∨ strLen.getD t 0 ≤ i.toNatClampNeg
  · rw [if_pos h] at hr; cases hr
  · rw [if_neg h] at hr
    exact va_tb C.1.1 C.1.2.1 (C.2.2.1.2.1.1 t ht).2.2.2 hS h rfl d1 (k _ r hr H locs ls hP hS hls)
theorem MF.getCS (C : CxOK l E X cc nL own ret kk) (hl : Cond.fieldLink own idx "java/lang/String" "COMPACT_STRINGS" "Z" ∈ Gw) (d : Dc cc pc (.getstatic idx) 3 pc') (k : MF l E X Q b σ pc' lv (.int 1 :: st)) : MF l E X Q b σ pc lv st := by
  intro r hr H locs ls hP hS hls
  obtain ⟨d1, rfl⟩ := d
  exact va_gets C.1.1 C.1.2.1 C.2.2.1.2.2.2.1 hS C.1.2.2.2.1 (C.1.2.2.2.2 _ hl) (fun _ h => h) d1 (k r hr H locs ls hP hS hls)
theorem MF.getSF (C : CxOK l E X cc nL own ret kk) (hl : Cond.fieldLink own idx "jdk/internal/util/Preconditions" "SIOOBE_FORMATTER" "Ljava/util/function/BiFunction;" ∈ Gw) (d : Dc cc pc (.getstatic idx) 3 pc') (k : ∀ v : Value, v = .null ∨ (∃ t : Nat, v = .ref t) → MF l E X Q b σ pc' lv (v :: st)) : MF l E X Q b σ pc lv st := by
  intro r hr H locs ls hP hS hls
  obtain ⟨d1, rfl⟩ := d
  rcases C.2.2.1.2.2.2.2.1 with h | ⟨t, h⟩
  · exact va_gets C.1.1 C.1.2.1 h hS C.1.2.2.2.1 (C.1.2.2.2.2 _ hl) (fun _ h => h) d1 (k _ (Or.inl rfl) r hr H locs ls hP hS hls)
  · exact va_gets C.1.1 C.1.2.1 h hS C.1.2.2.2.1 (C.1.2.2.2.2 _ hl) (fun _ h => h) d1 (k _ (Or.inr ⟨t, rfl⟩) r hr H locs ls hP hS hls)
end MFT
/-! ends -/
theorem W_nret {p : Program} {e : Env} {R : Room} {s : State} {m : MethodId} {args : Array Value} {below : List Frame} {meth : Method} {c : Code} {H : Heap} {locs : List Loc} {cells slots : Nat} {cc : ByteArray} {Qc : Array Value → State → Outcome → State → Prop} {free : Addr → Prop} {v w : Int32} {ty : FieldType} (hexec : p.tables.exec = Jvm.exec) (hb : c.code = cc) (hr : meth.sig.returnType = some ty) (hn : narrow ty (.int v) = .int w)
    (hq : ∀ t : State, t.heap = H → s.WarmedH t.vm → Qc args s (.returned (some (.int w))) t) (hf : ∀ q ∈ locs, free q.base)
    {pc : Nat} {ls : Array Slot} (hdg : decode cc pc = .ok (.ireturn, 1)) (hlocks : meth.locks = false) : W p l e R s m args below meth c H locs cells slots (MQ below Qc args s cells slots free) (F0 m pc ls [.int v]) := by
  intro T hT X
  obtain ⟨fs, hret, hrun, hended, hW, hframe⟩ := X.leave (v := some (.int w)) (fun h => by rw [hr] at h; cases h)
  have hmeth' : T.vm.method? m = some meth := X.method'
  refine ⟨T.setFrames fs, ?_, .returned (some (.int w)), hrun, hended, hq _ hT hW, locs, ⟨⟨_, rfl⟩, hW, hframe⟩, hf⟩
  jvm_step X.here [X.here.top, hexec, hb, hdg, hmeth', hr, hn]
  (try refine ⟨rfl, ?_⟩); (try refine ⟨rfl, ?_⟩)
  first | (intro acts; rw [hret _ acts rfl rfl rfl]) | rw [hret _ _ rfl rfl rfl]
  exact Steps.refl _
abbrev QI (E : EX) (X : CX) (v : Int32) (τ : Sg) : State → Prop := MQ (xb X) (va_Qi (fun (a : Int32) (u : Sg) => a = v ∧ u = τ) (fun u t => IV E u t) (AE E)) (xa X) (xs X) (xn X) (xo X) (AE E)
abbrev QL (E : EX) (X : CX) (v : Int64) (τ : Sg) : State → Prop := MQ (xb X) (va_Ql (fun (a : Int64) (u : Sg) => a = v ∧ u = τ) (fun u t => IV E u t) (AE E)) (xa X) (xs X) (xn X) (xo X) (AE E)
abbrev QV (E : EX) (X : CX) (τ : Sg) : State → Prop := MQ (xb X) (va_Qv (fun (u : Sg) => u = τ) (fun u t => IV E u t) (AE E)) (xa X) (xs X) (xn X) (xo X) (AE E)
abbrev QR (E : EX) (X : CX) (c : Nat) (τ : Sg) : State → Prop := MQ (xb X) (va_Qr (fun (u : Sg) => u = τ) (fun u a t => a = ead E c ∧ IV E u t) (AE E)) (xa X) (xs X) (xn X) (xo X) (AE E)
theorem iv_end (C : CxOK l E X cc nL own ret kk) {H : Heap} {locs : List Loc} (hP : va_P (eD E) vwCl (Ws E σ) H) (hS : va_S (AE E) (xs X).heap H locs) {t : State} (ht : t.heap = H) (hW : (xs X).WarmedH t.vm) : IV E σ t :=
  ⟨by rw [ht]; exact hP, va_K.moved hW.alike C.2.1, by rw [ht]; exact ST.warm hW (C.2.2.1.kept hS.2.1)⟩
section MFE
variable {pc pc' : Nat} {v : Int32} {w : Int64}
theorem MF.iret (C : CxOK l E X cc nL own (some .int) kk) (d : Dc cc pc .ireturn 1 pc') : MF l E X (fun q : Int32 × Sg => QI E X q.1 q.2) (some (v, σ)) σ pc lv [.int v] := by
  intro r hr H locs ls hP hS hl
  cases hr
  exact W.iret C.1.1 C.1.2.1 C.2.2.2.2.2.2.1 (fun t ht hW => ⟨⟨v, σ, rfl, ⟨rfl, rfl⟩, iv_end C hP hS ht hW⟩, hS.F ht⟩) hS.2.2 d.1 C.2.2.2.2.2.2.2
theorem MF.iretp (C : CxOK l E X cc nL own (some .int) kk) (d : Dc cc pc .ireturn 1 pc') : MF l E X (fun q : Int32 => QI E X q σ) (some v) σ pc lv [.int v] := by
  intro r hr H locs ls hP hS hl
  cases hr
  exact W.iret C.1.1 C.1.2.1 C.2.2.2.2.2.2.1 (fun t ht hW => ⟨⟨v, σ, rfl, ⟨rfl, rfl⟩, iv_end C hP hS ht hW⟩, hS.F ht⟩) hS.2.2 d.1 C.2.2.2.2.2.2.2
theorem MF.lretp (C : CxOK l E X cc nL own (some .long) kk) (d : Dc cc pc .lreturn 1 pc') : MF l E X (fun q : Int64 => QL E X q σ) (some w) σ pc lv [.long w] := by
  intro r hr H locs ls hP hS hl
  cases hr
  exact W.lret C.1.1 C.1.2.1 C.2.2.2.2.2.2.1 (fun t ht hW => ⟨⟨w, σ, rfl, ⟨rfl, rfl⟩, iv_end C hP hS ht hW⟩, hS.F ht⟩) hS.2.2 d.1 C.2.2.2.2.2.2.2
theorem MF.nret {w : Int32} {ty : FieldType} (C : CxOK l E X cc nL own (some ty) kk) (d : Dc cc pc .ireturn 1 pc') (hn : narrow ty (.int v) = .int w) : MF l E X (fun q : Int32 × Sg => QI E X q.1 q.2) (some (w, σ)) σ pc lv [.int v] := by
  intro r hr H locs ls hP hS hl
  cases hr
  exact W_nret C.1.1 C.1.2.1 C.2.2.2.2.2.2.1 hn (fun t ht hW => ⟨⟨w, σ, rfl, ⟨rfl, rfl⟩, iv_end C hP hS ht hW⟩, hS.F ht⟩) hS.2.2 d.1 C.2.2.2.2.2.2.2
theorem MF.nretp {w : Int32} {ty : FieldType} (C : CxOK l E X cc nL own (some ty) kk) (d : Dc cc pc .ireturn 1 pc') (hn : narrow ty (.int v) = .int w) : MF l E X (fun q : Int32 => QI E X q σ) (some w) σ pc lv [.int v] := by
  intro r hr H locs ls hP hS hl
  cases hr
  exact W_nret C.1.1 C.1.2.1 C.2.2.2.2.2.2.1 hn (fun t ht hW => ⟨⟨w, σ, rfl, ⟨rfl, rfl⟩, iv_end C hP hS ht hW⟩, hS.F ht⟩) hS.2.2 d.1 C.2.2.2.2.2.2.2
theorem MF.vret (C : CxOK l E X cc nL own none kk) (d : Dc cc pc .return_ 1 pc') : MF l E X (fun q : Sg => QV E X q) (some σ) σ pc lv [] := by
  intro r hr H locs ls hP hS hl
  cases hr
  exact W.vret C.1.1 C.1.2.1 C.2.2.2.2.2.2.1 (fun t ht hW => ⟨⟨σ, rfl, rfl, iv_end C hP hS ht hW⟩, hS.F ht⟩) hS.2.2 d.1 C.2.2.2.2.2.2.2
theorem MF.aretp {c : Nat} {n : String} (C : CxOK l E X cc nL own (some (.object n)) kk) (d : Dc cc pc .areturn 1 pc') : MF l E X (fun q : Nat => QR E X q σ) (some c) σ pc lv [.ref (ead E c)] := by
  intro r hr H locs ls hP hS hl
  cases hr
  exact W.aret C.1.1 C.1.2.1 C.2.2.2.2.2.2.1 (Or.inl ⟨n, rfl⟩) (Or.inr ⟨_, rfl⟩) (fun t ht hW => ⟨⟨σ, _, rfl, rfl, rfl, iv_end C hP hS ht hW⟩, hS.F ht⟩) hS.2.2 d.1 C.2.2.2.2.2.2.2
end MFE
/-! calls -/
def ob2 {α β γ : Type} (x : Option (α × β)) (k : α → β → Option γ) : Option γ := x.bind (fun q => k q.1 q.2)
theorem blindIV {E : EX} {σ : Sg} {av : List Value} : FrameBlind (va_Pc av (IV E σ)) := fun _ U _ _ q => ⟨q.1, IV.same (s := U) rfl rfl q.2⟩
/-- a method that can be called: its code and class are in the words -/
def MM (M : MT) (n : Nat) : Prop := Cond.code M.1 M.2.1 M.2.2.1 M.2.2.2 ∈ Gw ∧ Cond.initialized M.1.cls ∈ Gw ∧ M.2.2.1 ≤ 21 ∧ M.1.cls ≠ "java/lang/invoke/MethodHandle" ∧ M.1.cls ≠ "java/lang/invoke/VarHandle" ∧ (parseMethodDescriptor M.1.desc).map (fun d => d.parameters.length) = some n
def MV (M : MT) (n : Nat) : Prop := MM M n ∧ Cond.instanceMethod M.1 ∈ Gw ∧ Cond.selects M.1.cls M.1 M.1 ∈ Gw
def MS (M : MT) (n : Nat) : Prop := MM M n ∧ Cond.static M.1 ∈ Gw
section MFC
variable {pc pc' o ci kc idx n : Nat} {M : MT} {As st0 : List Value}
theorem room_of (C : CxOK l E X cc nL own ret kk) (hm : MM M n) (hk : kc + 1 ≤ kk) : (rmK kc).frames + 1 ≤ (xR X).frames ∧ 8 + (M.2.2.1 + 11) + (rmK kc).locals ≤ (xR X).locals := by
  have h1 := C.2.2.2.2.2.1
  have h2 := hm.2.2.1
  show kc + 1 ≤ _ ∧ 8 + (M.2.2.1 + 11) + 40 * kc ≤ _
  omega
theorem run_V {Qc : Array Value → State → Outcome → State → Prop} (C : CxOK l E X cc nL own ret kk) (hM : Met l M.1 (wsM M) (rmK kc) (va_Pc (.ref (ead E o) :: As) (IV E σ)) Qc 0 0 (AE E)) (hm : MV M n) (hln : Cond.methodLink own idx M.1 ∈ Gw) (ho : iO ci o) (hcl : (vwCl[ci]?).map (fun q => q.1) = some M.1.cls) (hk : kc + 1 ≤ kk) (d : Dc cc pc (.invokevirtual idx) 3 pc') (hn : As.length = n) (hst : st0 = As.reverse ++ .ref (ead E o) :: st) (hcat : (st.map fun v => v.category).sum ≤ 8)
    {H : Heap} {locs : List Loc} {ls : Array Slot} (hP : va_P (eD E) vwCl (Ws E σ) H) (hS : va_S (AE E) (xs X).heap H locs) (hl : lv_has ls (xc X).maxLocals lv) :
    va_Run (xP X) l (xe X) (xR X) (xs X) (xm X) (xa X) (xb X) (xM X) (xc X) H locs (xn X) (xo X) 0 0 (F0 (xm X) pc ls st0) st (Qc (Value.ref (ead E o) :: As).toArray) (AE E) := by
  have hG : GoodIn Gw (wsV own idx M.1.cls M.1 (wsM M)) := Gw_good (fun w hw => by
    simp only [wsV, wsM, List.cons_append, List.nil_append, List.mem_cons] at hw
    rcases hw with rfl | rfl | rfl | rfl | rfl | hw
    · exact hln
    · exact hm.2.1
    · exact hm.2.2
    · exact hm.1.2.1
    · exact hm.1.1
    · exact hw)
  obtain ⟨q, hq, hq2⟩ := Option.map_eq_some_iff.mp hcl
  refine va_runV (As := As) (rest := st) C.1 hM (cwV n C.1.2.2.2.2 hG rfl rfl rfl ⟨rfl, hm.1.2.2.2⟩ (room_of C hm.1 hk)) ⟨blindIV, ?_, fun U hU hW => ⟨rfl, iv_end C hP hS hU hW⟩⟩ rfl hn (hl.1.trans C.1.2.2.1) hst (lv_room hcat) d.1 C.2.2.2.2.1
  have := va_recv C.2.1 hP hq (q0 := o) ((Ws_at ho.1).trans (by rw [enc_O ho.2.1 ho.2.2]))
  rw [hq2] at this
  exact this
theorem run_T {Qc : Array Value → State → Outcome → State → Prop} (C : CxOK l E X cc nL own ret kk) (hM : Met l M.1 (wsM M) (rmK kc) (va_Pc (.ref (esK E o) :: As) (IV E σ)) Qc 0 0 (AE E)) (hm : MV M n) (hln : Cond.methodLink own idx M.1 ∈ Gw) (ho : o < 4) (hcl : M.1.cls = "java/lang/String") (hk : kc + 1 ≤ kk) (d : Dc cc pc (.invokevirtual idx) 3 pc') (hn : As.length = n) (hst : st0 = As.reverse ++ .ref (esK E o) :: st) (hcat : (st.map fun v => v.category).sum ≤ 8)
    {H : Heap} {locs : List Loc} {ls : Array Slot} (hP : va_P (eD E) vwCl (Ws E σ) H) (hS : va_S (AE E) (xs X).heap H locs) (hl : lv_has ls (xc X).maxLocals lv) :
    va_Run (xP X) l (xe X) (xR X) (xs X) (xm X) (xa X) (xb X) (xM X) (xc X) H locs (xn X) (xo X) 0 0 (F0 (xm X) pc ls st0) st (Qc (Value.ref (esK E o) :: As).toArray) (AE E) := by
  have hG : GoodIn Gw (wsV own idx M.1.cls M.1 (wsM M)) := Gw_good (fun w hw => by
    simp only [wsV, wsM, List.cons_append, List.nil_append, List.mem_cons] at hw
    rcases hw with rfl | rfl | rfl | rfl | rfl | hw
    · exact hln
    · exact hm.2.1
    · exact hm.2.2
    · exact hm.1.2.1
    · exact hm.1.1
    · exact hw)
  refine va_runV (As := As) (rest := st) C.1 hM (cwV n C.1.2.2.2.2 hG rfl rfl rfl ⟨rfl, hm.1.2.2.2⟩ (room_of C hm.1 hk)) ⟨blindIV, ?_, fun U hU hW => ⟨rfl, iv_end C hP hS hU hW⟩⟩ rfl hn (hl.1.trans C.1.2.2.1) hst (lv_room hcat) d.1 C.2.2.2.2.1
  have := vk_recv C.2.2.1.2.1 ho hS
  rw [hcl]
  exact this
theorem run_S {Qc : Array Value → State → Outcome → State → Prop} (C : CxOK l E X cc nL own ret kk) (hM : Met l M.1 (wsM M) (rmK kc) (va_Pc As (IV E σ)) Qc 0 0 (AE E)) (hm : MS M n) (hln : Cond.methodLink own idx M.1 ∈ Gw) (hk : kc + 1 ≤ kk) (d : Dc cc pc (.invokestatic idx) 3 pc') (hn : As.length = n) (hst : st0 = As.reverse ++ st) (hcat : (st.map fun v => v.category).sum ≤ 8)
    {H : Heap} {locs : List Loc} {ls : Array Slot} (hP : va_P (eD E) vwCl (Ws E σ) H) (hS : va_S (AE E) (xs X).heap H locs) (hl : lv_has ls (xc X).maxLocals lv) :
    va_Run (xP X) l (xe X) (xR X) (xs X) (xm X) (xa X) (xb X) (xM X) (xc X) H locs (xn X) (xo X) 0 0 (F0 (xm X) pc ls st0) st (Qc As.toArray) (AE E) := by
  have hG : GoodIn Gw (va_wsS own idx M.1 (wsM M)) := Gw_good (fun w hw => by
    simp only [va_wsS, wsM, List.cons_append, List.nil_append, List.mem_cons] at hw
    rcases hw with rfl | rfl | rfl | rfl | hw
    · exact hln
    · exact hm.2
    · exact hm.1.2.1
    · exact hm.1.1
    · exact hw)
  exact va_runS (As := As) (rest := st) C.1 hM (va_cwS n C.1.2.2.2.2 hG rfl rfl rfl hm.1.2.2.2 (room_of C hm.1 hk)) ⟨blindIV, fun U hU hW => ⟨rfl, iv_end C hP hS hU hW⟩⟩ rfl hn (hl.1.trans C.1.2.2.1) hst (lv_room hcat) d.1 C.2.2.2.2.1
theorem run_SN {Qc : Array Value → State → Outcome → State → Prop} (C : CxOK l E X cc nL own ret kk) (hM : Met l M.1 (wsM M) (rmK kc) (va_Pc As (IV E σ)) Qc 0 0 (AE E)) (hm : MS M n) (hln : Cond.methodLinkNest own idx M.1 "LastHappened" ∈ nestW) (hk : kc + 1 ≤ kk) (d : Dc cc pc (.invokestatic idx) 3 pc') (hn : As.length = n) (hst : st0 = As.reverse ++ st) (hcat : (st.map fun v => v.category).sum ≤ 8)
    {H : Heap} {locs : List Loc} {ls : Array Slot} (hP : va_P (eD E) vwCl (Ws E σ) H) (hS : va_S (AE E) (xs X).heap H locs) (hl : lv_has ls (xc X).maxLocals lv) :
    va_Run (xP X) l (xe X) (xR X) (xs X) (xm X) (xa X) (xb X) (xM X) (xc X) H locs (xn X) (xo X) 0 0 (F0 (xm X) pc ls st0) st (Qc As.toArray) (AE E) := by
  have hG : GoodIn Gw (wsM M) := Gw_good (fun w hw => by
    simp only [wsM, List.mem_cons] at hw
    rcases hw with rfl | hw
    · exact hm.1.1
    · exact hw)
  exact va_runSN (As := As) (rest := st) C.1 hM ⟨va_cnB n C.1.2.2.2.2 hG rfl rfl rfl (C.2.2.1.2.2.2.2.2 _ hln) (C.1.2.2.2.2 _ hm.1.2.1) hm.1.2.2.2 (room_of C hm.1 hk), C.1.2.2.2.2 _ hm.2, trivial⟩ ⟨blindIV, fun U hU hW => ⟨rfl, iv_end C hP hS hU hW⟩⟩ rfl hn (hl.1.trans C.1.2.2.1) hst (lv_room hcat) d.1 C.2.2.2.2.1
theorem MF.callVI {fx : Option (Int32 × Sg)} {kb : Int32 → Sg → Option ρ} (C : CxOK l E X cc nL own ret kk) (hR : ∀ v τ, fx = some (v, τ) → RI l E kc M (.ref (ead E o) :: As) σ v τ) (hm : MV M n) (hln : Cond.methodLink own idx M.1 ∈ Gw) (ho : iO ci o) (hcl : (vwCl[ci]?).map (fun q => q.1) = some M.1.cls) (hk : kc + 1 ≤ kk) (d : Dc cc pc (.invokevirtual idx) 3 pc') (hn : As.length = n) (hst : st0 = As.reverse ++ .ref (ead E o) :: st) (hcat : (st.map fun v => v.category).sum ≤ 8) (k : ∀ v τ, MF l E X Q (kb v τ) τ pc' lv (.int v :: st)) : MF l E X Q (ob2 fx kb) σ pc lv st0 := by
  intro r hr H locs ls hP hS hl
  obtain ⟨⟨v, τ⟩, hq, hr2⟩ := Option.bind_eq_some_iff.mp hr
  refine va_calli (run_V C (hR v τ hq) hm hln ho hcl hk d hn hst hcat hP hS hl) hS (fun q _ h => h) (fun q h => h) (fun r2 u t H1 locs1 ht hvm hp hB hz hk1 hS1 => ?_)
  obtain ⟨rfl, rfl⟩ := hp
  obtain ⟨d1, rfl⟩ := d
  exact k r2 u r hr2 H1 locs1 ls (ht ▸ hB.1) hS1 hl
theorem MF.callVP {fx : Option Int32} {kb : Int32 → Option ρ} (C : CxOK l E X cc nL own ret kk) (hR : ∀ v, fx = some v → RI l E kc M (.ref (ead E o) :: As) σ v σ) (hm : MV M n) (hln : Cond.methodLink own idx M.1 ∈ Gw) (ho : iO ci o) (hcl : (vwCl[ci]?).map (fun q => q.1) = some M.1.cls) (hk : kc + 1 ≤ kk) (d : Dc cc pc (.invokevirtual idx) 3 pc') (hn : As.length = n) (hst : st0 = As.reverse ++ .ref (ead E o) :: st) (hcat : (st.map fun v => v.category).sum ≤ 8) (k : ∀ v, MF l E X Q (kb v) σ pc' lv (.int v :: st)) : MF l E X Q (fx.bind kb) σ pc lv st0 := by
  intro r hr H locs ls hP hS hl
  obtain ⟨v, hq, hr2⟩ := Option.bind_eq_some_iff.mp hr
  refine va_calli (run_V C (hR v hq) hm hln ho hcl hk d hn hst hcat hP hS hl) hS (fun q _ h => h) (fun q h => h) (fun r2 u t H1 locs1 ht hvm hp hB hz hk1 hS1 => ?_)
  obtain ⟨rfl, rfl⟩ := hp
  obtain ⟨d1, rfl⟩ := d
  exact k r2 r hr2 H1 locs1 ls (ht ▸ hB.1) hS1 hl
theorem MF.callTP {fx : Option Int32} {kb : Int32 → Option ρ} (C : CxOK l E X cc nL own ret kk) (hR : ∀ v, fx = some v → RI l E kc M (.ref (esK E o) :: As) σ v σ) (hm : MV M n) (hln : Cond.methodLink own idx M.1 ∈ Gw) (ho : o < 4) (hcl : M.1.cls = "java/lang/String") (hk : kc + 1 ≤ kk) (d : Dc cc pc (.invokevirtual idx) 3 pc') (hn : As.length = n) (hst : st0 = As.reverse ++ .ref (esK E o) :: st) (hcat : (st.map fun v => v.category).sum ≤ 8) (k : ∀ v, MF l E X Q (kb v) σ pc' lv (.int v :: st)) : MF l E X Q (fx.bind kb) σ pc lv st0 := by
  intro r hr H locs ls hP hS hl
  obtain ⟨v, hq, hr2⟩ := Option.bind_eq_some_iff.mp hr
  refine va_calli (run_T C (hR v hq) hm hln ho hcl hk d hn hst hcat hP hS hl) hS (fun q _ h => h) (fun q h => h) (fun r2 u t H1 locs1 ht hvm hp hB hz hk1 hS1 => ?_)
  obtain ⟨rfl, rfl⟩ := hp
  obtain ⟨d1, rfl⟩ := d
  exact k r2 r hr2 H1 locs1 ls (ht ▸ hB.1) hS1 hl
theorem MF.callVL {fx : Option Int64} {kb : Int64 → Option ρ} (C : CxOK l E X cc nL own ret kk) (hR : ∀ v, fx = some v → RLg l E kc M (.ref (ead E o) :: As) σ v σ) (hm : MV M n) (hln : Cond.methodLink own idx M.1 ∈ Gw) (ho : iO ci o) (hcl : (vwCl[ci]?).map (fun q => q.1) = some M.1.cls) (hk : kc + 1 ≤ kk) (d : Dc cc pc (.invokevirtual idx) 3 pc') (hn : As.length = n) (hst : st0 = As.reverse ++ .ref (ead E o) :: st) (hcat : (st.map fun v => v.category).sum ≤ 8) (k : ∀ v, MF l E X Q (kb v) σ pc' lv (.long v :: st)) : MF l E X Q (fx.bind kb) σ pc lv st0 := by
  intro r hr H locs ls hP hS hl
  obtain ⟨v, hq, hr2⟩ := Option.bind_eq_some_iff.mp hr
  refine va_calll (run_V C (hR v hq) hm hln ho hcl hk d hn hst hcat hP hS hl) hS (fun q _ h => h) (fun q h => h) (fun r2 u t H1 locs1 ht hvm hp hB hz hk1 hS1 => ?_)
  obtain ⟨rfl, rfl⟩ := hp
  obtain ⟨d1, rfl⟩ := d
  exact k r2 r hr2 H1 locs1 ls (ht ▸ hB.1) hS1 hl
theorem MF.callVU {fx : Option Sg} {kb : Sg → Option ρ} (C : CxOK l E X cc nL own ret kk) (hR : ∀ τ, fx = some τ → RV l E kc M (.ref (ead E o) :: As) σ τ) (hm : MV M n) (hln : Cond.methodLink own idx M.1 ∈ Gw) (ho : iO ci o) (hcl : (vwCl[ci]?).map (fun q => q.1) = some M.1.cls) (hk : kc + 1 ≤ kk) (d : Dc cc pc (.invokevirtual idx) 3 pc') (hn : As.length = n) (hst : st0 = As.reverse ++ .ref (ead E o) :: st) (hcat : (st.map fun v => v.category).sum ≤ 8) (k : ∀ τ, MF l E X Q (kb τ) τ pc' lv st) : MF l E X Q (fx.bind kb) σ pc lv st0 := by
  intro r hr H locs ls hP hS hl
  obtain ⟨τ, hq, hr2⟩ := Option.bind_eq_some_iff.mp hr
  refine va_callv (run_V C (hR τ hq) hm hln ho hcl hk d hn hst hcat hP hS hl) hS (fun q _ h => h) (fun q h => h) (fun u t H1 locs1 ht hvm hp hB hz hk1 hS1 => ?_)
  obtain rfl := hp
  obtain ⟨d1, rfl⟩ := d
  exact k u r hr2 H1 locs1 ls (ht ▸ hB.1) hS1 hl
theorem MF.callVR {fx : Option Nat} {kb : Nat → Option ρ} (C : CxOK l E X cc nL own ret kk) (hR : ∀ c, fx = some c → RR l E kc M (.ref (ead E o) :: As) σ c σ) (hm : MV M n) (hln : Cond.methodLink own idx M.1 ∈ Gw) (ho : iO ci o) (hcl : (vwCl[ci]?).map (fun q => q.1) = some M.1.cls) (hk : kc + 1 ≤ kk) (d : Dc cc pc (.invokevirtual idx) 3 pc') (hn : As.length = n) (hst : st0 = As.reverse ++ .ref (ead E o) :: st) (hcat : (st.map fun v => v.category).sum ≤ 8) (k : ∀ c, fx = some c → MF l E X Q (kb c) σ pc' lv (.ref (ead E c) :: st)) : MF l E X Q (fx.bind kb) σ pc lv st0 := by
  intro r hr H locs ls hP hS hl
  obtain ⟨c, hq, hr2⟩ := Option.bind_eq_some_iff.mp hr
  refine va_callr (run_V C (hR c hq) hm hln ho hcl hk d hn hst hcat hP hS hl) hS (fun q _ h => h) (fun q h => h) (fun u ra t H1 locs1 ht hvm hp hB hz hk1 hS1 => ?_)
  obtain rfl := hp
  obtain ⟨rfl, hB⟩ := hB
  obtain ⟨d1, rfl⟩ := d
  exact k c hq r hr2 H1 locs1 ls (ht ▸ hB.1) hS1 hl
theorem MF.callSI {fx : Option (Int32 × Sg)} {kb : Int32 → Sg → Option ρ} (C : CxOK l E X cc nL own ret kk) (hR : ∀ v τ, fx = some (v, τ) → RI l E kc M As σ v τ) (hm : MS M n) (hln : Cond.methodLink own idx M.1 ∈ Gw) (hk : kc + 1 ≤ kk) (d : Dc cc pc (.invokestatic idx) 3 pc') (hn : As.length = n) (hst : st0 = As.reverse ++ st) (hcat : (st.map fun v => v.category).sum ≤ 8) (k : ∀ v τ, MF l E X Q (kb v τ) τ pc' lv (.int v :: st)) : MF l E X Q (ob2 fx kb) σ pc lv st0 := by
  intro r hr H locs ls hP hS hl
  obtain ⟨⟨v, τ⟩, hq, hr2⟩ := Option.bind_eq_some_iff.mp hr
  refine va_calli (run_S C (hR v τ hq) hm hln hk d hn hst hcat hP hS hl) hS (fun q _ h => h) (fun q h => h) (fun r2 u t H1 locs1 ht hvm hp hB hz hk1 hS1 => ?_)
  obtain ⟨rfl, rfl⟩ := hp
  obtain ⟨d1, rfl⟩ := d
  exact k r2 u r hr2 H1 locs1 ls (ht ▸ hB.1) hS1 hl
theorem MF.callSP {fx : Option Int32} {kb : Int32 → Option ρ} (C : CxOK l E X cc nL own ret kk) (hR : ∀ v, fx = some v → RI l E kc M As σ v σ) (hm : MS M n) (hln : Cond.methodLink own idx M.1 ∈ Gw) (hk : kc + 1 ≤ kk) (d : Dc cc pc (.invokestatic idx) 3 pc') (hn : As.length = n) (hst : st0 = As.reverse ++ st) (hcat : (st.map fun v => v.category).sum ≤ 8) (k : ∀ v, MF l E X Q (kb v) σ pc' lv (.int v :: st)) : MF l E X Q (fx.bind kb) σ pc lv st0 := by
  intro r hr H locs ls hP hS hl
  obtain ⟨v, hq, hr2⟩ := Option.bind_eq_some_iff.mp hr
  refine va_calli (run_S C (hR v hq) hm hln hk d hn hst hcat hP hS hl) hS (fun q _ h => h) (fun q h => h) (fun r2 u t H1 locs1 ht hvm hp hB hz hk1 hS1 => ?_)
  obtain ⟨rfl, rfl⟩ := hp
  obtain ⟨d1, rfl⟩ := d
  exact k r2 r hr2 H1 locs1 ls (ht ▸ hB.1) hS1 hl
theorem MF.callSL {fx : Option Int64} {kb : Int64 → Option ρ} (C : CxOK l E X cc nL own ret kk) (hR : ∀ v, fx = some v → RLg l E kc M As σ v σ) (hm : MS M n) (hln : Cond.methodLink own idx M.1 ∈ Gw) (hk : kc + 1 ≤ kk) (d : Dc cc pc (.invokestatic idx) 3 pc') (hn : As.length = n) (hst : st0 = As.reverse ++ st) (hcat : (st.map fun v => v.category).sum ≤ 8) (k : ∀ v, MF l E X Q (kb v) σ pc' lv (.long v :: st)) : MF l E X Q (fx.bind kb) σ pc lv st0 := by
  intro r hr H locs ls hP hS hl
  obtain ⟨v, hq, hr2⟩ := Option.bind_eq_some_iff.mp hr
  refine va_calll (run_S C (hR v hq) hm hln hk d hn hst hcat hP hS hl) hS (fun q _ h => h) (fun q h => h) (fun r2 u t H1 locs1 ht hvm hp hB hz hk1 hS1 => ?_)
  obtain ⟨rfl, rfl⟩ := hp
  obtain ⟨d1, rfl⟩ := d
  exact k r2 r hr2 H1 locs1 ls (ht ▸ hB.1) hS1 hl
theorem MF.callSU {fx : Option Sg} {kb : Sg → Option ρ} (C : CxOK l E X cc nL own ret kk) (hR : ∀ τ, fx = some τ → RV l E kc M As σ τ) (hm : MS M n) (hln : Cond.methodLink own idx M.1 ∈ Gw) (hk : kc + 1 ≤ kk) (d : Dc cc pc (.invokestatic idx) 3 pc') (hn : As.length = n) (hst : st0 = As.reverse ++ st) (hcat : (st.map fun v => v.category).sum ≤ 8) (k : ∀ τ, MF l E X Q (kb τ) τ pc' lv st) : MF l E X Q (fx.bind kb) σ pc lv st0 := by
  intro r hr H locs ls hP hS hl
  obtain ⟨τ, hq, hr2⟩ := Option.bind_eq_some_iff.mp hr
  refine va_callv (run_S C (hR τ hq) hm hln hk d hn hst hcat hP hS hl) hS (fun q _ h => h) (fun q h => h) (fun u t H1 locs1 ht hvm hp hB hz hk1 hS1 => ?_)
  obtain rfl := hp
  obtain ⟨d1, rfl⟩ := d
  exact k u r hr2 H1 locs1 ls (ht ▸ hB.1) hS1 hl
theorem MF.callSNI {fx : Option (Int32 × Sg)} {kb : Int32 → Sg → Option ρ} (C : CxOK l E X cc nL own ret kk) (hR : ∀ v τ, fx = some (v, τ) → RI l E kc M As σ v τ) (hm : MS M n) (hln : Cond.methodLinkNest own idx M.1 "LastHappened" ∈ nestW) (hk : kc + 1 ≤ kk) (d : Dc cc pc (.invokestatic idx) 3 pc') (hn : As.length = n) (hst : st0 = As.reverse ++ st) (hcat : (st.map fun v => v.category).sum ≤ 8) (k : ∀ v τ, MF l E X Q (kb v τ) τ pc' lv (.int v :: st)) : MF l E X Q (ob2 fx kb) σ pc lv st0 := by
  intro r hr H locs ls hP hS hl
  obtain ⟨⟨v, τ⟩, hq, hr2⟩ := Option.bind_eq_some_iff.mp hr
  refine va_calli (run_SN C (hR v τ hq) hm hln hk d hn hst hcat hP hS hl) hS (fun q _ h => h) (fun q h => h) (fun r2 u t H1 locs1 ht hvm hp hB hz hk1 hS1 => ?_)
  obtain ⟨rfl, rfl⟩ := hp
  obtain ⟨d1, rfl⟩ := d
  exact k r2 u r hr2 H1 locs1 ls (ht ▸ hB.1) hS1 hl
theorem MF.callSNP {fx : Option Int32} {kb : Int32 → Option ρ} (C : CxOK l E X cc nL own ret kk) (hR : ∀ v, fx = some v → RI l E kc M As σ v σ) (hm : MS M n) (hln : Cond.methodLinkNest own idx M.1 "LastHappened" ∈ nestW) (hk : kc + 1 ≤ kk) (d : Dc cc pc (.invokestatic idx) 3 pc') (hn : As.length = n) (hst : st0 = As.reverse ++ st) (hcat : (st.map fun v => v.category).sum ≤ 8) (k : ∀ v, MF l E X Q (kb v) σ pc' lv (.int v :: st)) : MF l E X Q (fx.bind kb) σ pc lv st0 := by
  intro r hr H locs ls hP hS hl
  obtain ⟨v, hq, hr2⟩ := Option.bind_eq_some_iff.mp hr
  refine va_calli (run_SN C (hR v hq) hm hln hk d hn hst hcat hP hS hl) hS (fun q _ h => h) (fun q h => h) (fun r2 u t H1 locs1 ht hvm hp hB hz hk1 hS1 => ?_)
  obtain ⟨rfl, rfl⟩ := hp
  obtain ⟨d1, rfl⟩ := d
  exact k r2 r hr2 H1 locs1 ls (ht ▸ hB.1) hS1 hl
theorem MF.callSNL {fx : Option Int64} {kb : Int64 → Option ρ} (C : CxOK l E X cc nL own ret kk) (hR : ∀ v, fx = some v → RLg l E kc M As σ v σ) (hm : MS M n) (hln : Cond.methodLinkNest own idx M.1 "LastHappened" ∈ nestW) (hk : kc + 1 ≤ kk) (d : Dc cc pc (.invokestatic idx) 3 pc') (hn : As.length = n) (hst : st0 = As.reverse ++ st) (hcat : (st.map fun v => v.category).sum ≤ 8) (k : ∀ v, MF l E X Q (kb v) σ pc' lv (.long v :: st)) : MF l E X Q (fx.bind kb) σ pc lv st0 := by
  intro r hr H locs ls hP hS hl
  obtain ⟨v, hq, hr2⟩ := Option.bind_eq_some_iff.mp hr
  refine va_calll (run_SN C (hR v hq) hm hln hk d hn hst hcat hP hS hl) hS (fun q _ h => h) (fun q h => h) (fun r2 u t H1 locs1 ht hvm hp hB hz hk1 hS1 => ?_)
  obtain ⟨rfl, rfl⟩ := hp
  obtain ⟨d1, rfl⟩ := d
  exact k r2 r hr2 H1 locs1 ls (ht ▸ hB.1) hS1 hl
theorem MF.callSNU {fx : Option Sg} {kb : Sg → Option ρ} (C : CxOK l E X cc nL own ret kk) (hR : ∀ τ, fx = some τ → RV l E kc M As σ τ) (hm : MS M n) (hln : Cond.methodLinkNest own idx M.1 "LastHappened" ∈ nestW) (hk : kc + 1 ≤ kk) (d : Dc cc pc (.invokestatic idx) 3 pc') (hn : As.length = n) (hst : st0 = As.reverse ++ st) (hcat : (st.map fun v => v.category).sum ≤ 8) (k : ∀ τ, MF l E X Q (kb τ) τ pc' lv st) : MF l E X Q (fx.bind kb) σ pc lv st0 := by
  intro r hr H locs ls hP hS hl
  obtain ⟨τ, hq, hr2⟩ := Option.bind_eq_some_iff.mp hr
  refine va_callv (run_SN C (hR τ hq) hm hln hk d hn hst hcat hP hS hl) hS (fun q _ h => h) (fun q h => h) (fun u t H1 locs1 ht hvm hp hB hz hk1 hS1 => ?_)
  obtain rfl := hp
  obtain ⟨d1, rfl⟩ := d
  exact k u r hr2 H1 locs1 ls (ht ▸ hB.1) hS1 hl
end MFC
end MFR
/-! a contract out of a walk from a method's entry -/
section MFS
variable {l : Launch} {E : EX} {k : Nat} {M : MT} {av : List Value} {σ : Sg}
theorem cx_of {p : Program} {e : Env} {s : State} {m : MethodId} {args : Array Value} {below : List Frame} {meth : Method} {c : Code} {s1 : State} (hD : DD E) (B : BodyLoose p l M.1 (headSpec (wsM M) (rmK k)) M.2.1 M.2.2.1 M.2.2.2 e s m args below meth c s1) (hml : c.maxLocals = M.2.2.1) (hv : IV E σ s) : CxOK l E (p, e, (headSpec (wsM M) (rmK k)).room, s, m, args, below, meth, c, 0, 0) M.2.1 M.2.2.1 M.1.cls M.2.2.2 k := by
  have hts := atoms_spec (ws := wsM M) B.pre
  exact ⟨⟨B.exec, B.bytes, hml, findClass_of_methodNamed B.named, fun w hw => hts w (List.mem_cons_of_mem _ hw)⟩, hv.2.1, hv.2.2, hD, ⟨Nat.zero_le _, Nat.zero_le _⟩, ⟨Nat.le_refl _, Nat.le_refl _⟩, B.returns, B.notSynchronized⟩
theorem ofI {fx : Option (Int32 × Sg)} (hD : DD E) (hy : plainName M.1.cls = true) (hav : (lg_sl av).length ≤ M.2.2.1) (body : ∀ X : CX, CxOK l E X M.2.1 M.2.2.1 M.1.cls M.2.2.2 k → MF l E X (fun q : Int32 × Sg => QI E X q.1 q.2) fx σ 0 (lv_args 0 av) []) : ∀ v τ, fx = some (v, τ) → RI l E k M av σ v τ := by
  intro v τ hq
  refine Met.ofW (cc := M.2.1) (maxL := M.2.2.1) (ret := M.2.2.2) hy rfl ?_
  intro p e s m args below meth c s1 B hml hv
  obtain ⟨rfl, hv⟩ := hv
  have C := cx_of hD B hml hv
  have hl := lv_entry av (n := M.2.2.1) hav
  rw [lg_entry_eq]
  exact body _ C _ hq s.heap [] _ hv.1 va_S.rf (by rw [show (xc (p, e, (headSpec (wsM M) (rmK k)).room, s, m, av.toArray, below, meth, c, 0, 0)).maxLocals = M.2.2.1 from hml]; exact hl)
theorem ofP {fx : Option Int32} (hD : DD E) (hy : plainName M.1.cls = true) (hav : (lg_sl av).length ≤ M.2.2.1) (body : ∀ X : CX, CxOK l E X M.2.1 M.2.2.1 M.1.cls M.2.2.2 k → MF l E X (fun q : Int32 => QI E X q σ) fx σ 0 (lv_args 0 av) []) : ∀ v, fx = some v → RI l E k M av σ v σ := by
  intro v hq
  refine Met.ofW (cc := M.2.1) (maxL := M.2.2.1) (ret := M.2.2.2) hy rfl ?_
  intro p e s m args below meth c s1 B hml hv
  obtain ⟨rfl, hv⟩ := hv
  have C := cx_of hD B hml hv
  have hl := lv_entry av (n := M.2.2.1) hav
  rw [lg_entry_eq]
  exact body _ C _ hq s.heap [] _ hv.1 va_S.rf (by rw [show (xc (p, e, (headSpec (wsM M) (rmK k)).room, s, m, av.toArray, below, meth, c, 0, 0)).maxLocals = M.2.2.1 from hml]; exact hl)
theorem ofL {fx : Option Int64} (hD : DD E) (hy : plainName M.1.cls = true) (hav : (lg_sl av).length ≤ M.2.2.1) (body : ∀ X : CX, CxOK l E X M.2.1 M.2.2.1 M.1.cls M.2.2.2 k → MF l E X (fun q : Int64 => QL E X q σ) fx σ 0 (lv_args 0 av) []) : ∀ v, fx = some v → RLg l E k M av σ v σ := by
  intro v hq
  refine Met.ofW (cc := M.2.1) (maxL := M.2.2.1) (ret := M.2.2.2) hy rfl ?_
  intro p e s m args below meth c s1 B hml hv
  obtain ⟨rfl, hv⟩ := hv
  have C := cx_of hD B hml hv
  have hl := lv_entry av (n := M.2.2.1) hav
  rw [lg_entry_eq]
  exact body _ C _ hq s.heap [] _ hv.1 va_S.rf (by rw [show (xc (p, e, (headSpec (wsM M) (rmK k)).room, s, m, av.toArray, below, meth, c, 0, 0)).maxLocals = M.2.2.1 from hml]; exact hl)
theorem ofU {fx : Option Sg} (hD : DD E) (hy : plainName M.1.cls = true) (hav : (lg_sl av).length ≤ M.2.2.1) (body : ∀ X : CX, CxOK l E X M.2.1 M.2.2.1 M.1.cls M.2.2.2 k → MF l E X (fun q : Sg => QV E X q) fx σ 0 (lv_args 0 av) []) : ∀ τ, fx = some τ → RV l E k M av σ τ := by
  intro τ hq
  refine Met.ofW (cc := M.2.1) (maxL := M.2.2.1) (ret := M.2.2.2) hy rfl ?_
  intro p e s m args below meth c s1 B hml hv
  obtain ⟨rfl, hv⟩ := hv
  have C := cx_of hD B hml hv
  have hl := lv_entry av (n := M.2.2.1) hav
  rw [lg_entry_eq]
  exact body _ C _ hq s.heap [] _ hv.1 va_S.rf (by rw [show (xc (p, e, (headSpec (wsM M) (rmK k)).room, s, m, av.toArray, below, meth, c, 0, 0)).maxLocals = M.2.2.1 from hml]; exact hl)
theorem ofR {fx : Option Nat} (hD : DD E) (hy : plainName M.1.cls = true) (hav : (lg_sl av).length ≤ M.2.2.1) (body : ∀ X : CX, CxOK l E X M.2.1 M.2.2.1 M.1.cls M.2.2.2 k → MF l E X (fun q : Nat => QR E X q σ) fx σ 0 (lv_args 0 av) []) : ∀ c, fx = some c → RR l E k M av σ c σ := by
  intro c hq
  refine Met.ofW (cc := M.2.1) (maxL := M.2.2.1) (ret := M.2.2.2) hy rfl ?_
  intro p e s m args below meth c s1 B hml hv
  obtain ⟨rfl, hv⟩ := hv
  have C := cx_of hD B hml hv
  have hl := lv_entry av (n := M.2.2.1) hav
  rw [lg_entry_eq]
  exact body _ C _ hq s.heap [] _ hv.1 va_S.rf (by rw [show (xc (p, e, (headSpec (wsM M) (rmK k)).room, s, m, av.toArray, below, meth, c, 0, 0)).maxLocals = M.2.2.1 from hml]; exact hl)
end MFS
end
section
/-! kinds of cells, words, loops -/
def iRo (o : Nat) : Prop := o < shN ∧ shof o = (2, 2, [none, some (o + 1), none]) ∧ o + 1 < shN ∧ (shof (o + 1)).1 = 0
theorem iRo.o {o : Nat} (h : iRo o) : iO 2 o := ⟨h.1, by rw [h.2.1], by rw [h.2.1]⟩
theorem iRo.f0 {o : Nat} (h : iRo o) : iF 2 0 o := ⟨h.1, by rw [h.2.1], by rw [h.2.1], by rw [h.2.1]; rfl⟩
theorem iRo.f1 {o : Nat} (h : iRo o) : rF 2 1 o (o + 1) := ⟨h.1, by rw [h.2.1], by rw [h.2.1], by rw [h.2.1]; rfl⟩
theorem iRo.f2 {o : Nat} (h : iRo o) : iF 2 2 o := ⟨h.1, by rw [h.2.1], by rw [h.2.1], by rw [h.2.1]; rfl⟩
theorem iRo.a {o : Nat} (h : iRo o) : iA (o + 1) := ⟨h.2.2.1, h.2.2.2⟩
def iTo (t : Nat) : Prop := t < shN ∧ shof t = (2, 5, [some (t + 1), some (t + 3), some (t + 5), some (t + 7), some (t + 9), some (t + 10), some (t + 11), none]) ∧ iRo (t + 1) ∧ iRo (t + 3) ∧ iRo (t + 5) ∧ iRo (t + 7) ∧ iA (t + 9) ∧ iA (t + 10) ∧ iA (t + 11)
theorem iTo.o {t : Nat} (h : iTo t) : iO 5 t := ⟨h.1, by rw [h.2.1], by rw [h.2.1]⟩
theorem iTo.f0 {t : Nat} (h : iTo t) : rF 5 0 t (t + 1) := ⟨h.1, by rw [h.2.1], by rw [h.2.1], by rw [h.2.1]; rfl⟩
theorem iTo.f1 {t : Nat} (h : iTo t) : rF 5 1 t (t + 3) := ⟨h.1, by rw [h.2.1], by rw [h.2.1], by rw [h.2.1]; rfl⟩
theorem iTo.f2 {t : Nat} (h : iTo t) : rF 5 2 t (t + 5) := ⟨h.1, by rw [h.2.1], by rw [h.2.1], by rw [h.2.1]; rfl⟩
theorem iTo.f3 {t : Nat} (h : iTo t) : rF 5 3 t (t + 7) := ⟨h.1, by rw [h.2.1], by rw [h.2.1], by rw [h.2.1]; rfl⟩
theorem iTo.f4 {t : Nat} (h : iTo t) : rF 5 4 t (t + 9) := ⟨h.1, by rw [h.2.1], by rw [h.2.1], by rw [h.2.1]; rfl⟩
theorem iTo.f5 {t : Nat} (h : iTo t) : rF 5 5 t (t + 10) := ⟨h.1, by rw [h.2.1], by rw [h.2.1], by rw [h.2.1]; rfl⟩
theorem iTo.f6 {t : Nat} (h : iTo t) : rF 5 6 t (t + 11) := ⟨h.1, by rw [h.2.1], by rw [h.2.1], by rw [h.2.1]; rfl⟩
theorem iTo.f7 {t : Nat} (h : iTo t) : iF 5 7 t := ⟨h.1, by rw [h.2.1], by rw [h.2.1], by rw [h.2.1]; rfl⟩
theorem iTo.o0 {t : Nat} (h : iTo t) : iRo (t + 1) := h.2.2.1
theorem iTo.o1 {t : Nat} (h : iTo t) : iRo (t + 3) := h.2.2.2.1
theorem iTo.o2 {t : Nat} (h : iTo t) : iRo (t + 5) := h.2.2.2.2.1
theorem iTo.o3 {t : Nat} (h : iTo t) : iRo (t + 7) := h.2.2.2.2.2.1
theorem iTo.o4 {t : Nat} (h : iTo t) : iA (t + 9) := h.2.2.2.2.2.2.1
theorem iTo.o5 {t : Nat} (h : iTo t) : iA (t + 10) := h.2.2.2.2.2.2.2.1
theorem iTo.o6 {t : Nat} (h : iTo t) : iA (t + 11) := h.2.2.2.2.2.2.2.2
/-- rounds enough for any loop here; never unfolded -/
def fu : Nat := 1099511627776
theorem fu_big : 1099511627776 ≤ fu := Nat.le_refl _

def lp1_ {α0 γ : Type} (B : (α0 → Option γ) → α0 → Option γ) : Nat → α0 → Option γ
  | 0, _ => none
  | n + 1, a0 => B (lp1_ B n) a0
theorem MF.loop1 {ρ : Type} {l : Launch} {E : EX} {X : CX} {Q : ρ → State → Prop} {α0 : Type} {B : (α0 → Option ρ) → α0 → Option ρ} {pc : Nat} (sg : α0 → Sg) (lo : α0 → List (Nat × Value)) (hB : ∀ self : α0 → Option ρ, (∀ (a0 : α0), MF l E X Q (self a0) (sg a0) pc (lo a0) []) → ∀ (a0 : α0), MF l E X Q (B self a0) (sg a0) pc (lo a0) []) : ∀ n (a0 : α0), MF l E X Q (lp1_ B n a0) (sg a0) pc (lo a0) []
  | 0, _ => MF.no
  | n + 1, a0 => hB (lp1_ B n) (MF.loop1 sg lo hB n) a0
def lp2_ {α0 α1 γ : Type} (B : (α0 → α1 → Option γ) → α0 → α1 → Option γ) : Nat → α0 → α1 → Option γ
  | 0, _, _ => none
  | n + 1, a0, a1 => B (lp2_ B n) a0 a1
theorem MF.loop2 {ρ : Type} {l : Launch} {E : EX} {X : CX} {Q : ρ → State → Prop} {α0 α1 : Type} {B : (α0 → α1 → Option ρ) → α0 → α1 → Option ρ} {pc : Nat} (sg : α0 → α1 → Sg) (lo : α0 → α1 → List (Nat × Value)) (hB : ∀ self : α0 → α1 → Option ρ, (∀ (a0 : α0) (a1 : α1), MF l E X Q (self a0 a1) (sg a0 a1) pc (lo a0 a1) []) → ∀ (a0 : α0) (a1 : α1), MF l E X Q (B self a0 a1) (sg a0 a1) pc (lo a0 a1) []) : ∀ n (a0 : α0) (a1 : α1), MF l E X Q (lp2_ B n a0 a1) (sg a0 a1) pc (lo a0 a1) []
  | 0, _, _ => MF.no
  | n + 1, a0, a1 => hB (lp2_ B n) (MF.loop2 sg lo hB n) a0 a1
def lp3_ {α0 α1 α2 γ : Type} (B : (α0 → α1 → α2 → Option γ) → α0 → α1 → α2 → Option γ) : Nat → α0 → α1 → α2 → Option γ
  | 0, _, _, _ => none
  | n + 1, a0, a1, a2 => B (lp3_ B n) a0 a1 a2
theorem MF.loop3 {ρ : Type} {l : Launch} {E : EX} {X : CX} {Q : ρ → State → Prop} {α0 α1 α2 : Type} {B : (α0 → α1 → α2 → Option ρ) → α0 → α1 → α2 → Option ρ} {pc : Nat} (sg : α0 → α1 → α2 → Sg) (lo : α0 → α1 → α2 → List (Nat × Value)) (hB : ∀ self : α0 → α1 → α2 → Option ρ, (∀ (a0 : α0) (a1 : α1) (a2 : α2), MF l E X Q (self a0 a1 a2) (sg a0 a1 a2) pc (lo a0 a1 a2) []) → ∀ (a0 : α0) (a1 : α1) (a2 : α2), MF l E X Q (B self a0 a1 a2) (sg a0 a1 a2) pc (lo a0 a1 a2) []) : ∀ n (a0 : α0) (a1 : α1) (a2 : α2), MF l E X Q (lp3_ B n a0 a1 a2) (sg a0 a1 a2) pc (lo a0 a1 a2) []
  | 0, _, _, _ => MF.no
  | n + 1, a0, a1, a2 => hB (lp3_ B n) (MF.loop3 sg lo hB n) a0 a1 a2
def lp4_ {α0 α1 α2 α3 γ : Type} (B : (α0 → α1 → α2 → α3 → Option γ) → α0 → α1 → α2 → α3 → Option γ) : Nat → α0 → α1 → α2 → α3 → Option γ
  | 0, _, _, _, _ => none
  | n + 1, a0, a1, a2, a3 => B (lp4_ B n) a0 a1 a2 a3
theorem MF.loop4 {ρ : Type} {l : Launch} {E : EX} {X : CX} {Q : ρ → State → Prop} {α0 α1 α2 α3 : Type} {B : (α0 → α1 → α2 → α3 → Option ρ) → α0 → α1 → α2 → α3 → Option ρ} {pc : Nat} (sg : α0 → α1 → α2 → α3 → Sg) (lo : α0 → α1 → α2 → α3 → List (Nat × Value)) (hB : ∀ self : α0 → α1 → α2 → α3 → Option ρ, (∀ (a0 : α0) (a1 : α1) (a2 : α2) (a3 : α3), MF l E X Q (self a0 a1 a2 a3) (sg a0 a1 a2 a3) pc (lo a0 a1 a2 a3) []) → ∀ (a0 : α0) (a1 : α1) (a2 : α2) (a3 : α3), MF l E X Q (B self a0 a1 a2 a3) (sg a0 a1 a2 a3) pc (lo a0 a1 a2 a3) []) : ∀ n (a0 : α0) (a1 : α1) (a2 : α2) (a3 : α3), MF l E X Q (lp4_ B n a0 a1 a2 a3) (sg a0 a1 a2 a3) pc (lo a0 a1 a2 a3) []
  | 0, _, _, _, _ => MF.no
  | n + 1, a0, a1, a2, a3 => hB (lp4_ B n) (MF.loop4 sg lo hB n) a0 a1 a2 a3
theorem kF_0_0 : rF 7 0 0 1 := ⟨by decide, rfl, rfl, rfl⟩
theorem kF_0_1 : rF 7 1 0 13 := ⟨by decide, rfl, rfl, rfl⟩
theorem kF_0_2 : rF 7 2 0 25 := ⟨by decide, rfl, rfl, rfl⟩
theorem kF_0_3 : rF 7 3 0 37 := ⟨by decide, rfl, rfl, rfl⟩
theorem kF_0_4 : rF 7 4 0 49 := ⟨by decide, rfl, rfl, rfl⟩
theorem kF_0_5 : rF 7 5 0 52 := ⟨by decide, rfl, rfl, rfl⟩
theorem kF_0_6 : rF 7 6 0 61 := ⟨by decide, rfl, rfl, rfl⟩
theorem kF_0_7 : rF 7 7 0 63 := ⟨by decide, rfl, rfl, rfl⟩
theorem kF_0_8 : rF 7 8 0 66 := ⟨by decide, rfl, rfl, rfl⟩
theorem kF_0_9 : rF 7 9 0 69 := ⟨by decide, rfl, rfl, rfl⟩
theorem kF_0_10 : iF 7 10 0 := ⟨by decide, rfl, rfl, rfl⟩
theorem kF_0_11 : iF 7 11 0 := ⟨by decide, rfl, rfl, rfl⟩
theorem kF_0_12 : iF 7 12 0 := ⟨by decide, rfl, rfl, rfl⟩
theorem kF_0_13 : iF 7 13 0 := ⟨by decide, rfl, rfl, rfl⟩
theorem kF_49_0 : rF 4 0 49 50 := ⟨by decide, rfl, rfl, rfl⟩
theorem kF_49_1 : rF 4 1 49 51 := ⟨by decide, rfl, rfl, rfl⟩
theorem kF_49_2 : iF 4 2 49 := ⟨by decide, rfl, rfl, rfl⟩
theorem kF_49_3 : iF 4 3 49 := ⟨by decide, rfl, rfl, rfl⟩
theorem kF_49_4 : iF 4 4 49 := ⟨by decide, rfl, rfl, rfl⟩
theorem kF_49_5 : iF 4 5 49 := ⟨by decide, rfl, rfl, rfl⟩
theorem kF_52_0 : rF 0 0 52 53 := ⟨by decide, rfl, rfl, rfl⟩
theorem kF_52_1 : rF 0 1 52 55 := ⟨by decide, rfl, rfl, rfl⟩
theorem kF_52_2 : rF 0 2 52 56 := ⟨by decide, rfl, rfl, rfl⟩
theorem kF_52_3 : rF 0 3 52 57 := ⟨by decide, rfl, rfl, rfl⟩
theorem kF_52_4 : rF 0 4 52 58 := ⟨by decide, rfl, rfl, rfl⟩
theorem kF_52_5 : rF 0 5 52 59 := ⟨by decide, rfl, rfl, rfl⟩
theorem kF_52_6 : rF 0 6 52 60 := ⟨by decide, rfl, rfl, rfl⟩
theorem kF_52_7 : iF 0 7 52 := ⟨by decide, rfl, rfl, rfl⟩
theorem kF_52_8 : iF 0 8 52 := ⟨by decide, rfl, rfl, rfl⟩
theorem kF_52_9 : iF 0 9 52 := ⟨by decide, rfl, rfl, rfl⟩
theorem kF_61_0 : rF 1 0 61 52 := ⟨by decide, rfl, rfl, rfl⟩
theorem kF_61_1 : rF 1 1 61 62 := ⟨by decide, rfl, rfl, rfl⟩
theorem kF_63_0 : rF 3 0 63 52 := ⟨by decide, rfl, rfl, rfl⟩
theorem kF_63_1 : rF 3 1 63 64 := ⟨by decide, rfl, rfl, rfl⟩
theorem kF_63_2 : rF 3 2 63 65 := ⟨by decide, rfl, rfl, rfl⟩
theorem kF_63_3 : iF 3 3 63 := ⟨by decide, rfl, rfl, rfl⟩
theorem kF_63_4 : iF 3 4 63 := ⟨by decide, rfl, rfl, rfl⟩
theorem kF_63_5 : iF 3 5 63 := ⟨by decide, rfl, rfl, rfl⟩
theorem kF_66_0 : rF 6 0 66 67 := ⟨by decide, rfl, rfl, rfl⟩
theorem kF_66_1 : rF 6 1 66 68 := ⟨by decide, rfl, rfl, rfl⟩
theorem kF_70_0 : rF 8 0 70 71 := ⟨by decide, rfl, rfl, rfl⟩
theorem kF_70_1 : rF 8 1 70 72 := ⟨by decide, rfl, rfl, rfl⟩
theorem kF_70_2 : rF 8 2 70 73 := ⟨by decide, rfl, rfl, rfl⟩
theorem kF_70_3 : rF 8 3 70 74 := ⟨by decide, rfl, rfl, rfl⟩
theorem kF_70_4 : rF 8 4 70 75 := ⟨by decide, rfl, rfl, rfl⟩
theorem kF_70_5 : rF 8 5 70 76 := ⟨by decide, rfl, rfl, rfl⟩
theorem kF_70_6 : rF 8 6 70 77 := ⟨by decide, rfl, rfl, rfl⟩
theorem kF_70_7 : rF 8 7 70 78 := ⟨by decide, rfl, rfl, rfl⟩
theorem kF_70_8 : rF 8 8 70 79 := ⟨by decide, rfl, rfl, rfl⟩
theorem kF_70_9 : rF 8 9 70 80 := ⟨by decide, rfl, rfl, rfl⟩
theorem kF_70_10 : rF 8 10 70 81 := ⟨by decide, rfl, rfl, rfl⟩
theorem kF_70_11 : iF 8 11 70 := ⟨by decide, rfl, rfl, rfl⟩
theorem kF_70_12 : rF 8 12 70 82 := ⟨by decide, rfl, rfl, rfl⟩
theorem kF_70_13 : rF 8 13 70 83 := ⟨by decide, rfl, rfl, rfl⟩
theorem kF_70_14 : rF 8 14 70 84 := ⟨by decide, rfl, rfl, rfl⟩
theorem kF_70_15 : iF 8 15 70 := ⟨by decide, rfl, rfl, rfl⟩
theorem kF_70_16 : iF 8 16 70 := ⟨by decide, rfl, rfl, rfl⟩
theorem kF_70_17 : iF 8 17 70 := ⟨by decide, rfl, rfl, rfl⟩
theorem kF_70_18 : rF 8 18 70 85 := ⟨by decide, rfl, rfl, rfl⟩
theorem kF_70_19 : rF 8 19 70 86 := ⟨by decide, rfl, rfl, rfl⟩
theorem kF_70_20 : rF 8 20 70 87 := ⟨by decide, rfl, rfl, rfl⟩
theorem kF_70_21 : rF 8 21 70 88 := ⟨by decide, rfl, rfl, rfl⟩
theorem kF_70_22 : iF 8 22 70 := ⟨by decide, rfl, rfl, rfl⟩
theorem kF_70_23 : iF 8 23 70 := ⟨by decide, rfl, rfl, rfl⟩
theorem kF_70_24 : iF 8 24 70 := ⟨by decide, rfl, rfl, rfl⟩
theorem kF_70_25 : iF 8 25 70 := ⟨by decide, rfl, rfl, rfl⟩
theorem kF_70_26 : iF 8 26 70 := ⟨by decide, rfl, rfl, rfl⟩
theorem kF_70_27 : rF 8 27 70 89 := ⟨by decide, rfl, rfl, rfl⟩
theorem kF_70_28 : rF 8 28 70 90 := ⟨by decide, rfl, rfl, rfl⟩
theorem kO_0 : iO 7 0 := ⟨by decide, rfl, rfl⟩
theorem kO_1 : iO 5 1 := ⟨by decide, rfl, rfl⟩
theorem kO_2 : iO 2 2 := ⟨by decide, rfl, rfl⟩
theorem kR_2 : iRo 2 := ⟨by decide, rfl, by decide, rfl⟩
theorem kA_3 : iA 3 := ⟨by decide, rfl⟩
theorem kO_4 : iO 2 4 := ⟨by decide, rfl, rfl⟩
theorem kR_4 : iRo 4 := ⟨by decide, rfl, by decide, rfl⟩
theorem kA_5 : iA 5 := ⟨by decide, rfl⟩
theorem kO_6 : iO 2 6 := ⟨by decide, rfl, rfl⟩
theorem kR_6 : iRo 6 := ⟨by decide, rfl, by decide, rfl⟩
theorem kA_7 : iA 7 := ⟨by decide, rfl⟩
theorem kO_8 : iO 2 8 := ⟨by decide, rfl, rfl⟩
theorem kR_8 : iRo 8 := ⟨by decide, rfl, by decide, rfl⟩
theorem kA_9 : iA 9 := ⟨by decide, rfl⟩
theorem kA_10 : iA 10 := ⟨by decide, rfl⟩
theorem kA_11 : iA 11 := ⟨by decide, rfl⟩
theorem kA_12 : iA 12 := ⟨by decide, rfl⟩
theorem kO_13 : iO 5 13 := ⟨by decide, rfl, rfl⟩
theorem kO_14 : iO 2 14 := ⟨by decide, rfl, rfl⟩
theorem kR_14 : iRo 14 := ⟨by decide, rfl, by decide, rfl⟩
theorem kA_15 : iA 15 := ⟨by decide, rfl⟩
theorem kO_16 : iO 2 16 := ⟨by decide, rfl, rfl⟩
theorem kR_16 : iRo 16 := ⟨by decide, rfl, by decide, rfl⟩
theorem kA_17 : iA 17 := ⟨by decide, rfl⟩
theorem kO_18 : iO 2 18 := ⟨by decide, rfl, rfl⟩
theorem kR_18 : iRo 18 := ⟨by decide, rfl, by decide, rfl⟩
theorem kA_19 : iA 19 := ⟨by decide, rfl⟩
theorem kO_20 : iO 2 20 := ⟨by decide, rfl, rfl⟩
theorem kR_20 : iRo 20 := ⟨by decide, rfl, by decide, rfl⟩
theorem kA_21 : iA 21 := ⟨by decide, rfl⟩
theorem kA_22 : iA 22 := ⟨by decide, rfl⟩
theorem kA_23 : iA 23 := ⟨by decide, rfl⟩
theorem kA_24 : iA 24 := ⟨by decide, rfl⟩
theorem kO_25 : iO 5 25 := ⟨by decide, rfl, rfl⟩
theorem kO_26 : iO 2 26 := ⟨by decide, rfl, rfl⟩
theorem kR_26 : iRo 26 := ⟨by decide, rfl, by decide, rfl⟩
theorem kA_27 : iA 27 := ⟨by decide, rfl⟩
theorem kO_28 : iO 2 28 := ⟨by decide, rfl, rfl⟩
theorem kR_28 : iRo 28 := ⟨by decide, rfl, by decide, rfl⟩
theorem kA_29 : iA 29 := ⟨by decide, rfl⟩
theorem kO_30 : iO 2 30 := ⟨by decide, rfl, rfl⟩
theorem kR_30 : iRo 30 := ⟨by decide, rfl, by decide, rfl⟩
theorem kA_31 : iA 31 := ⟨by decide, rfl⟩
theorem kO_32 : iO 2 32 := ⟨by decide, rfl, rfl⟩
theorem kR_32 : iRo 32 := ⟨by decide, rfl, by decide, rfl⟩
theorem kA_33 : iA 33 := ⟨by decide, rfl⟩
theorem kA_34 : iA 34 := ⟨by decide, rfl⟩
theorem kA_35 : iA 35 := ⟨by decide, rfl⟩
theorem kA_36 : iA 36 := ⟨by decide, rfl⟩
theorem kO_37 : iO 5 37 := ⟨by decide, rfl, rfl⟩
theorem kO_38 : iO 2 38 := ⟨by decide, rfl, rfl⟩
theorem kR_38 : iRo 38 := ⟨by decide, rfl, by decide, rfl⟩
theorem kA_39 : iA 39 := ⟨by decide, rfl⟩
theorem kO_40 : iO 2 40 := ⟨by decide, rfl, rfl⟩
theorem kR_40 : iRo 40 := ⟨by decide, rfl, by decide, rfl⟩
theorem kA_41 : iA 41 := ⟨by decide, rfl⟩
theorem kO_42 : iO 2 42 := ⟨by decide, rfl, rfl⟩
theorem kR_42 : iRo 42 := ⟨by decide, rfl, by decide, rfl⟩
theorem kA_43 : iA 43 := ⟨by decide, rfl⟩
theorem kO_44 : iO 2 44 := ⟨by decide, rfl, rfl⟩
theorem kR_44 : iRo 44 := ⟨by decide, rfl, by decide, rfl⟩
theorem kA_45 : iA 45 := ⟨by decide, rfl⟩
theorem kA_46 : iA 46 := ⟨by decide, rfl⟩
theorem kA_47 : iA 47 := ⟨by decide, rfl⟩
theorem kA_48 : iA 48 := ⟨by decide, rfl⟩
theorem kO_49 : iO 4 49 := ⟨by decide, rfl, rfl⟩
theorem kA_50 : iA 50 := ⟨by decide, rfl⟩
theorem kA_51 : iA 51 := ⟨by decide, rfl⟩
theorem kO_52 : iO 0 52 := ⟨by decide, rfl, rfl⟩
theorem kO_53 : iO 2 53 := ⟨by decide, rfl, rfl⟩
theorem kR_53 : iRo 53 := ⟨by decide, rfl, by decide, rfl⟩
theorem kA_54 : iA 54 := ⟨by decide, rfl⟩
theorem kA_55 : iA 55 := ⟨by decide, rfl⟩
theorem kA_56 : iA 56 := ⟨by decide, rfl⟩
theorem kA_57 : iA 57 := ⟨by decide, rfl⟩
theorem kA_58 : iA 58 := ⟨by decide, rfl⟩
theorem kA_59 : iA 59 := ⟨by decide, rfl⟩
theorem kA_60 : iA 60 := ⟨by decide, rfl⟩
theorem kO_61 : iO 1 61 := ⟨by decide, rfl, rfl⟩
theorem kA_62 : iA 62 := ⟨by decide, rfl⟩
theorem kO_63 : iO 3 63 := ⟨by decide, rfl, rfl⟩
theorem kA_64 : iA 64 := ⟨by decide, rfl⟩
theorem kA_65 : iA 65 := ⟨by decide, rfl⟩
theorem kO_66 : iO 6 66 := ⟨by decide, rfl, rfl⟩
theorem kA_67 : iA 67 := ⟨by decide, rfl⟩
theorem kA_68 : iA 68 := ⟨by decide, rfl⟩
theorem kA_69 : iA 69 := ⟨by decide, rfl⟩
theorem kO_70 : iO 8 70 := ⟨by decide, rfl, rfl⟩
theorem kA_71 : iA 71 := ⟨by decide, rfl⟩
theorem kA_72 : iA 72 := ⟨by decide, rfl⟩
theorem kZ_73 : zA 73 := ⟨by decide, rfl⟩
theorem kA_74 : iA 74 := ⟨by decide, rfl⟩
theorem kA_75 : iA 75 := ⟨by decide, rfl⟩
theorem kA_76 : iA 76 := ⟨by decide, rfl⟩
theorem kA_77 : iA 77 := ⟨by decide, rfl⟩
theorem kA_78 : iA 78 := ⟨by decide, rfl⟩
theorem kA_79 : iA 79 := ⟨by decide, rfl⟩
theorem kA_80 : iA 80 := ⟨by decide, rfl⟩
theorem kA_81 : iA 81 := ⟨by decide, rfl⟩
theorem kA_82 : iA 82 := ⟨by decide, rfl⟩
theorem kA_83 : iA 83 := ⟨by decide, rfl⟩
theorem kA_84 : iA 84 := ⟨by decide, rfl⟩
theorem kA_85 : iA 85 := ⟨by decide, rfl⟩
theorem kA_86 : iA 86 := ⟨by decide, rfl⟩
theorem kA_87 : iA 87 := ⟨by decide, rfl⟩
theorem kA_88 : iA 88 := ⟨by decide, rfl⟩
theorem kA_89 : iA 89 := ⟨by decide, rfl⟩
theorem kA_90 : iA 90 := ⟨by decide, rfl⟩
theorem kT_1 : iTo 1 := ⟨by decide, rfl, kR_2, kR_4, kR_6, kR_8, kA_10, kA_11, kA_12⟩
theorem kT_13 : iTo 13 := ⟨by decide, rfl, kR_14, kR_16, kR_18, kR_20, kA_22, kA_23, kA_24⟩
theorem kT_25 : iTo 25 := ⟨by decide, rfl, kR_26, kR_28, kR_30, kR_32, kA_34, kA_35, kA_36⟩
theorem kT_37 : iTo 37 := ⟨by decide, rfl, kR_38, kR_40, kR_42, kR_44, kA_46, kA_47, kA_48⟩
theorem cf_X0 : CF 0 RX0 TX0 10 tyX0 := ⟨rfl, fun w hw => Gw_in ((show ∀ w ∈ wsX00, w ∈ lw_tbl by decide +kernel) w hw) ((show ∀ w ∈ wsX00, goodWord w = true by decide +kernel) w hw), tyX0_ok, nmX0⟩
theorem cf_X1 : CF 1 RX1 TX1 2 tyX1 := ⟨rfl, fun w hw => Gw_in ((show ∀ w ∈ wsX10, w ∈ lw_tbl by decide +kernel) w hw) ((show ∀ w ∈ wsX10, goodWord w = true by decide +kernel) w hw), tyX1_ok, nmX1⟩
theorem cf_X2 : CF 2 RX2 TX2 3 tyX2 := ⟨rfl, fun w hw => Gw_in ((show ∀ w ∈ wsX20, w ∈ lw_tbl by decide +kernel) w hw) ((show ∀ w ∈ wsX20, goodWord w = true by decide +kernel) w hw), tyX2_ok, nmX2⟩
theorem cf_X3 : CF 3 RX3 TX3 6 tyX3 := ⟨rfl, fun w hw => Gw_in ((show ∀ w ∈ wsX30, w ∈ lw_tbl by decide +kernel) w hw) ((show ∀ w ∈ wsX30, goodWord w = true by decide +kernel) w hw), tyX3_ok, nmX3⟩
theorem cf_X4 : CF 4 RX4 TX4 6 tyX4 := ⟨rfl, fun w hw => Gw_in ((show ∀ w ∈ wsX40, w ∈ lw_tbl by decide +kernel) w hw) ((show ∀ w ∈ wsX40, goodWord w = true by decide +kernel) w hw), tyX4_ok, nmX4⟩
theorem cf_X5 : CF 5 RX5 TX5 8 tyX5 := ⟨rfl, fun w hw => Gw_in ((show ∀ w ∈ wsX50, w ∈ lw_tbl by decide +kernel) w hw) ((show ∀ w ∈ wsX50, goodWord w = true by decide +kernel) w hw), tyX5_ok, nmX5⟩
theorem cf_X6 : CF 6 RX6 TX6 2 tyX6 := ⟨rfl, fun w hw => Gw_in ((show ∀ w ∈ wsX60, w ∈ lw_tbl by decide +kernel) w hw) ((show ∀ w ∈ wsX60, goodWord w = true by decide +kernel) w hw), tyX6_ok, nmX6⟩
theorem cf_X7 : CF 7 RX7 TX7 14 tyX7 := ⟨rfl, fun w hw => Gw_in ((show ∀ w ∈ wsX70, w ∈ lw_tbl by decide +kernel) w hw) ((show ∀ w ∈ wsX70, goodWord w = true by decide +kernel) w hw), tyX7_ok, nmX7⟩
theorem cf_X8 : CF 8 RX8 TX8 29 tyX8 := ⟨rfl, fun w hw => Gw_in ((show ∀ w ∈ wsX80, w ∈ lw_tbl by decide +kernel) w hw) ((show ∀ w ∈ wsX80, goodWord w = true by decide +kernel) w hw), tyX8_ok, nmX8⟩
end
section
theorem l_X2_7 : FL RX2 7 RX2 TX2 3 2 := ⟨by decide, rfl, Gw_in (List.mem_of_getElem? (i := 113) (by decide +kernel)) rfl⟩
abbrev M_X2_size : MT := (yX2_size, cX2_size, 1, (some .int))
theorem m_X2_size : MV M_X2_size 0 := ⟨⟨Gw_in (List.mem_of_getElem? (i := 336) (by decide +kernel)) rfl, Gw_in (List.mem_of_getElem? (i := 77) (by decide +kernel)) rfl, by decide, by decide, by decide, by decide +kernel⟩, Gw_in (List.mem_of_getElem? (i := 334) (by decide +kernel)) rfl, Gw_in (List.mem_of_getElem? (i := 335) (by decide +kernel)) rfl⟩
theorem l_X2_13 : FL RX2 13 RX2 TX2 3 0 := ⟨by decide, rfl, Gw_in (List.mem_of_getElem? (i := 111) (by decide +kernel)) rfl⟩
theorem l_X2_16 : FL RX2 16 RX2 TX2 3 1 := ⟨by decide, rfl, Gw_in (List.mem_of_getElem? (i := 112) (by decide +kernel)) rfl⟩
abbrev M_X2_cell : MT := (yX2_cell, cX2_cell, 3, (some .int))
theorem m_X2_cell : MV M_X2_cell 2 := ⟨⟨Gw_in (List.mem_of_getElem? (i := 386) (by decide +kernel)) rfl, Gw_in (List.mem_of_getElem? (i := 77) (by decide +kernel)) rfl, by decide, by decide, by decide, by decide +kernel⟩, Gw_in (List.mem_of_getElem? (i := 384) (by decide +kernel)) rfl, Gw_in (List.mem_of_getElem? (i := 385) (by decide +kernel)) rfl⟩
theorem p_X2_2 : PF TX2 2 := ⟨rfl, by decide +kernel⟩
abbrev M_X2_empty : MT := (yX2_empty, cX2_empty, 1, none)
theorem m_X2_empty : MV M_X2_empty 0 := ⟨⟨Gw_in (List.mem_of_getElem? (i := 366) (by decide +kernel)) rfl, Gw_in (List.mem_of_getElem? (i := 77) (by decide +kernel)) rfl, by decide, by decide, by decide, by decide +kernel⟩, Gw_in (List.mem_of_getElem? (i := 364) (by decide +kernel)) rfl, Gw_in (List.mem_of_getElem? (i := 365) (by decide +kernel)) rfl⟩
abbrev M_X7_isBelow : MT := (yX7_isBelow, cX7_isBelow, 2, (some .boolean))
theorem m_X7_isBelow : MS M_X7_isBelow 2 := ⟨⟨Gw_in (List.mem_of_getElem? (i := 332) (by decide +kernel)) rfl, Gw_in (List.mem_of_getElem? (i := 75) (by decide +kernel)) rfl, by decide, by decide, by decide, by decide +kernel⟩, Gw_in (List.mem_of_getElem? (i := 331) (by decide +kernel)) rfl⟩
theorem l_X5_20 : FL RX5 20 RX5 TX5 8 1 := ⟨by decide, rfl, Gw_in (List.mem_of_getElem? (i := 125) (by decide +kernel)) rfl⟩
theorem k_X5_83 : Cond.methodLink RX5 83 yX2_cell ∈ Gw := Gw_in (List.mem_of_getElem? (i := 383) (by decide +kernel)) rfl
theorem l_X5_86 : Cond.fieldLinkNest RX5 86 "LastHappened" (tabN 2) "[I" "LastHappened" ∈ nestW := by decide +kernel
theorem k_X5_46 : Cond.methodLinkNest RX5 46 yX7_isBelow "LastHappened" ∈ nestW := List.mem_filter.mpr ⟨List.mem_of_getElem? (i := 256) (by decide +kernel), rfl⟩
abbrev M_X5_kindOf : MT := (yX5_kindOf, cX5_kindOf, 3, (some .int))
theorem m_X5_kindOf : MV M_X5_kindOf 1 := ⟨⟨Gw_in (List.mem_of_getElem? (i := 588) (by decide +kernel)) rfl, Gw_in (List.mem_of_getElem? (i := 76) (by decide +kernel)) rfl, by decide, by decide, by decide, by decide +kernel⟩, Gw_in (List.mem_of_getElem? (i := 587) (by decide +kernel)) rfl, Gw_in (List.mem_of_getElem? (i := 15) (by decide +kernel)) rfl⟩
theorem k_X5_89 : Cond.methodLink RX5 89 yX5_kindOf ∈ Gw := Gw_in (List.mem_of_getElem? (i := 585) (by decide +kernel)) rfl
abbrev M_X5_needed : MT := (yX5_needed, cX5_needed, 2, (some .int))
theorem m_X5_needed : MV M_X5_needed 1 := ⟨⟨Gw_in (List.mem_of_getElem? (i := 582) (by decide +kernel)) rfl, Gw_in (List.mem_of_getElem? (i := 76) (by decide +kernel)) rfl, by decide, by decide, by decide, by decide +kernel⟩, Gw_in (List.mem_of_getElem? (i := 580) (by decide +kernel)) rfl, Gw_in (List.mem_of_getElem? (i := 581) (by decide +kernel)) rfl⟩
theorem k_X5_92 : Cond.methodLink RX5 92 yX5_needed ∈ Gw := Gw_in (List.mem_of_getElem? (i := 639) (by decide +kernel)) rfl
abbrev M_X5_isSeenByEnough : MT := (yX5_isSeenByEnough, cX5_isSeenByEnough, 2, (some .boolean))
theorem m_X5_isSeenByEnough : MV M_X5_isSeenByEnough 1 := ⟨⟨Gw_in (List.mem_of_getElem? (i := 638) (by decide +kernel)) rfl, Gw_in (List.mem_of_getElem? (i := 76) (by decide +kernel)) rfl, by decide, by decide, by decide, by decide +kernel⟩, Gw_in (List.mem_of_getElem? (i := 636) (by decide +kernel)) rfl, Gw_in (List.mem_of_getElem? (i := 637) (by decide +kernel)) rfl⟩
theorem l_X5_16 : FL RX5 16 RX5 TX5 8 0 := ⟨by decide, rfl, Gw_in (List.mem_of_getElem? (i := 122) (by decide +kernel)) rfl⟩
abbrev M_X5_meet : MT := (yX5_meet, cX5_meet, 7, (some .boolean))
theorem m_X5_meet : MV M_X5_meet 2 := ⟨⟨Gw_in (List.mem_of_getElem? (i := 611) (by decide +kernel)) rfl, Gw_in (List.mem_of_getElem? (i := 76) (by decide +kernel)) rfl, by decide, by decide, by decide, by decide +kernel⟩, Gw_in (List.mem_of_getElem? (i := 610) (by decide +kernel)) rfl, Gw_in (List.mem_of_getElem? (i := 16) (by decide +kernel)) rfl⟩
theorem k_X5_50 : Cond.methodLink RX5 50 yX2_size ∈ Gw := Gw_in (List.mem_of_getElem? (i := 333) (by decide +kernel)) rfl
theorem k_X5_101 : Cond.methodLink RX5 101 yX5_meet ∈ Gw := Gw_in (List.mem_of_getElem? (i := 608) (by decide +kernel)) rfl
abbrev M_X5_streetsOf : MT := (yX5_streetsOf, cX5_streetsOf, 5, (some .int))
theorem m_X5_streetsOf : MV M_X5_streetsOf 1 := ⟨⟨Gw_in (List.mem_of_getElem? (i := 607) (by decide +kernel)) rfl, Gw_in (List.mem_of_getElem? (i := 76) (by decide +kernel)) rfl, by decide, by decide, by decide, by decide +kernel⟩, Gw_in (List.mem_of_getElem? (i := 605) (by decide +kernel)) rfl, Gw_in (List.mem_of_getElem? (i := 606) (by decide +kernel)) rfl⟩
theorem l_X7_275 : Cond.fieldLink RX7 275 "LastHappened" (tabN 3) "[I" ∈ Gw := Gw_in (by decide +kernel) rfl
theorem k_X7_93 : Cond.methodLink RX7 93 yX7_isBelow ∈ Gw := Gw_in (List.mem_of_getElem? (i := 409) (by decide +kernel)) rfl
abbrev M_X7_rankBy : MT := (yX7_rankBy, cX7_rankBy, 2, (some .int))
theorem m_X7_rankBy : MS M_X7_rankBy 2 := ⟨⟨Gw_in (List.mem_of_getElem? (i := 595) (by decide +kernel)) rfl, Gw_in (List.mem_of_getElem? (i := 75) (by decide +kernel)) rfl, by decide, by decide, by decide, by decide +kernel⟩, Gw_in (List.mem_of_getElem? (i := 594) (by decide +kernel)) rfl⟩
theorem k_X5_95 : Cond.methodLinkNest RX5 95 yX7_rankBy "LastHappened" ∈ nestW := List.mem_filter.mpr ⟨List.mem_of_getElem? (i := 519) (by decide +kernel), rfl⟩
abbrev M_X5_rankGiven : MT := (yX5_rankGiven, cX5_rankGiven, 2, (some .int))
theorem m_X5_rankGiven : MV M_X5_rankGiven 1 := ⟨⟨Gw_in (List.mem_of_getElem? (i := 592) (by decide +kernel)) rfl, Gw_in (List.mem_of_getElem? (i := 76) (by decide +kernel)) rfl, by decide, by decide, by decide, by decide +kernel⟩, Gw_in (List.mem_of_getElem? (i := 590) (by decide +kernel)) rfl, Gw_in (List.mem_of_getElem? (i := 591) (by decide +kernel)) rfl⟩
theorem l_X5_98 : Cond.fieldLinkNest RX5 98 "LastHappened" (tabN 4) "[I" "LastHappened" ∈ nestW := by decide +kernel
abbrev M_X5_hoursGiven : MT := (yX5_hoursGiven, cX5_hoursGiven, 2, (some .int))
theorem m_X5_hoursGiven : MV M_X5_hoursGiven 1 := ⟨⟨Gw_in (List.mem_of_getElem? (i := 601) (by decide +kernel)) rfl, Gw_in (List.mem_of_getElem? (i := 76) (by decide +kernel)) rfl, by decide, by decide, by decide, by decide +kernel⟩, Gw_in (List.mem_of_getElem? (i := 599) (by decide +kernel)) rfl, Gw_in (List.mem_of_getElem? (i := 600) (by decide +kernel)) rfl⟩
theorem l_X0_16 : FL RX0 16 RX0 TX0 10 0 := ⟨by decide, rfl, Gw_in (List.mem_of_getElem? (i := 190) (by decide +kernel)) rfl⟩
theorem k_X0_54 : Cond.methodLink RX0 54 yX2_size ∈ Gw := Gw_in (List.mem_of_getElem? (i := 632) (by decide +kernel)) rfl
theorem k_X0_58 : Cond.methodLink RX0 58 yX2_cell ∈ Gw := Gw_in (List.mem_of_getElem? (i := 633) (by decide +kernel)) rfl
abbrev M_X0_placeBehind : MT := (yX0_placeBehind, cX0_placeBehind, 3, (some .int))
theorem m_X0_placeBehind : MV M_X0_placeBehind 1 := ⟨⟨Gw_in (List.mem_of_getElem? (i := 650) (by decide +kernel)) rfl, Gw_in (List.mem_of_getElem? (i := 79) (by decide +kernel)) rfl, by decide, by decide, by decide, by decide +kernel⟩, Gw_in (List.mem_of_getElem? (i := 649) (by decide +kernel)) rfl, Gw_in (List.mem_of_getElem? (i := 19) (by decide +kernel)) rfl⟩
abbrev M_X2_isFull : MT := (yX2_isFull, cX2_isFull, 1, (some .boolean))
theorem m_X2_isFull : MV M_X2_isFull 0 := ⟨⟨Gw_in (List.mem_of_getElem? (i := 350) (by decide +kernel)) rfl, Gw_in (List.mem_of_getElem? (i := 77) (by decide +kernel)) rfl, by decide, by decide, by decide, by decide +kernel⟩, Gw_in (List.mem_of_getElem? (i := 348) (by decide +kernel)) rfl, Gw_in (List.mem_of_getElem? (i := 349) (by decide +kernel)) rfl⟩
theorem k_X2_24 : Cond.methodLink RX2 24 yX2_isFull ∈ Gw := Gw_in (List.mem_of_getElem? (i := 375) (by decide +kernel)) rfl
theorem k_X2_28 : CPW RX2 28 := ⟨Gw_in (by decide +kernel) rfl, Gw_in (by decide +kernel) rfl, Gw_in (by decide +kernel) rfl, Gw_in (by decide +kernel) rfl⟩
abbrev M_X2_insert : MT := (yX2_insert, cX2_insert, 4, none)
theorem m_X2_insert : MV M_X2_insert 2 := ⟨⟨Gw_in (List.mem_of_getElem? (i := 374) (by decide +kernel)) rfl, Gw_in (List.mem_of_getElem? (i := 77) (by decide +kernel)) rfl, by decide, by decide, by decide, by decide +kernel⟩, Gw_in (List.mem_of_getElem? (i := 372) (by decide +kernel)) rfl, Gw_in (List.mem_of_getElem? (i := 373) (by decide +kernel)) rfl⟩
theorem l_X0_20 : FL RX0 20 RX0 TX0 10 1 := ⟨by decide, rfl, Gw_in (List.mem_of_getElem? (i := 191) (by decide +kernel)) rfl⟩
theorem l_X0_65 : FLN RX0 65 RX5 TX5 8 1 := ⟨by decide, rfl, List.mem_filter.mpr ⟨List.mem_of_getElem? (i := 52) (by decide +kernel), rfl⟩⟩
theorem k_X0_76 : Cond.methodLink RX0 76 yX5_streetsOf ∈ Gw := Gw_in (List.mem_of_getElem? (i := 644) (by decide +kernel)) rfl
theorem k_X0_80 : Cond.methodLink RX0 80 yX5_rankGiven ∈ Gw := Gw_in (List.mem_of_getElem? (i := 645) (by decide +kernel)) rfl
theorem k_X0_83 : Cond.methodLink RX0 83 yX5_hoursGiven ∈ Gw := Gw_in (List.mem_of_getElem? (i := 646) (by decide +kernel)) rfl
theorem k_X0_86 : Cond.methodLink RX0 86 yX0_placeBehind ∈ Gw := Gw_in (List.mem_of_getElem? (i := 647) (by decide +kernel)) rfl
theorem k_X0_89 : Cond.methodLink RX0 89 yX2_insert ∈ Gw := Gw_in (List.mem_of_getElem? (i := 651) (by decide +kernel)) rfl
abbrev M_X0_planEvent : MT := (yX0_planEvent, cX0_planEvent, 3, none)
theorem m_X0_planEvent : MV M_X0_planEvent 2 := ⟨⟨Gw_in (List.mem_of_getElem? (i := 643) (by decide +kernel)) rfl, Gw_in (List.mem_of_getElem? (i := 79) (by decide +kernel)) rfl, by decide, by decide, by decide, by decide +kernel⟩, Gw_in (List.mem_of_getElem? (i := 642) (by decide +kernel)) rfl, Gw_in (List.mem_of_getElem? (i := 18) (by decide +kernel)) rfl⟩
theorem l_X0_49 : FLN RX0 49 RX5 TX5 8 7 := ⟨by decide, rfl, List.mem_filter.mpr ⟨List.mem_of_getElem? (i := 64) (by decide +kernel), rfl⟩⟩
theorem l_X0_43 : FL RX0 43 RX0 TX0 10 8 := ⟨by decide, rfl, Gw_in (List.mem_of_getElem? (i := 198) (by decide +kernel)) rfl⟩
theorem p_X0_8 : PF TX0 8 := ⟨rfl, by decide +kernel⟩
theorem l_X0_52 : FLN RX0 52 RX5 TX5 8 0 := ⟨by decide, rfl, List.mem_filter.mpr ⟨List.mem_of_getElem? (i := 49) (by decide +kernel), rfl⟩⟩
theorem l_X0_39 : FL RX0 39 RX0 TX0 10 7 := ⟨by decide, rfl, Gw_in (List.mem_of_getElem? (i := 197) (by decide +kernel)) rfl⟩
theorem p_X0_7 : PF TX0 7 := ⟨rfl, by decide +kernel⟩
theorem k_X0_62 : Cond.methodLink RX0 62 yX2_empty ∈ Gw := Gw_in (List.mem_of_getElem? (i := 634) (by decide +kernel)) rfl
theorem k_X0_68 : Cond.methodLink RX0 68 yX5_isSeenByEnough ∈ Gw := Gw_in (List.mem_of_getElem? (i := 635) (by decide +kernel)) rfl
theorem k_X0_72 : Cond.methodLink RX0 72 yX0_planEvent ∈ Gw := Gw_in (List.mem_of_getElem? (i := 640) (by decide +kernel)) rfl
theorem l_X0_24 : FL RX0 24 RX0 TX0 10 2 := ⟨by decide, rfl, Gw_in (List.mem_of_getElem? (i := 192) (by decide +kernel)) rfl⟩
abbrev M_X0_plan : MT := (yX0_plan, cX0_plan, 3, none)
theorem m_X0_plan : MV M_X0_plan 1 := ⟨⟨Gw_in (List.mem_of_getElem? (i := 631) (by decide +kernel)) rfl, Gw_in (List.mem_of_getElem? (i := 79) (by decide +kernel)) rfl, by decide, by decide, by decide, by decide +kernel⟩, Gw_in (List.mem_of_getElem? (i := 629) (by decide +kernel)) rfl, Gw_in (List.mem_of_getElem? (i := 630) (by decide +kernel)) rfl⟩
theorem k_X0_93 : Cond.methodLinkNest RX0 93 yX7_rankBy "LastHappened" ∈ nestW := List.mem_filter.mpr ⟨List.mem_of_getElem? (i := 698) (by decide +kernel), rfl⟩
theorem l_X0_96 : Cond.fieldLinkNest RX0 96 "LastHappened" (tabN 4) "[I" "LastHappened" ∈ nestW := by decide +kernel
abbrev M_X0_addStaged : MT := (yX0_addStaged, cX0_addStaged, 5, (some .int))
theorem m_X0_addStaged : MV M_X0_addStaged 3 := ⟨⟨Gw_in (List.mem_of_getElem? (i := 771) (by decide +kernel)) rfl, Gw_in (List.mem_of_getElem? (i := 79) (by decide +kernel)) rfl, by decide, by decide, by decide, by decide +kernel⟩, Gw_in (List.mem_of_getElem? (i := 769) (by decide +kernel)) rfl, Gw_in (List.mem_of_getElem? (i := 770) (by decide +kernel)) rfl⟩
theorem k_X2_34 : Cond.methodLinkNest RX2 34 yX7_isBelow "LastHappened" ∈ nestW := List.mem_filter.mpr ⟨List.mem_of_getElem? (i := 317) (by decide +kernel), rfl⟩
abbrev M_X2_drop : MT := (yX2_drop, cX2_drop, 3, none)
theorem m_X2_drop : MV M_X2_drop 1 := ⟨⟨Gw_in (List.mem_of_getElem? (i := 390) (by decide +kernel)) rfl, Gw_in (List.mem_of_getElem? (i := 77) (by decide +kernel)) rfl, by decide, by decide, by decide, by decide +kernel⟩, Gw_in (List.mem_of_getElem? (i := 388) (by decide +kernel)) rfl, Gw_in (List.mem_of_getElem? (i := 389) (by decide +kernel)) rfl⟩
theorem k_X0_99 : Cond.methodLink RX0 99 yX2_drop ∈ Gw := Gw_in (List.mem_of_getElem? (i := 778) (by decide +kernel)) rfl
abbrev M_X0_dropStaged : MT := (yX0_dropStaged, cX0_dropStaged, 2, none)
theorem m_X0_dropStaged : MV M_X0_dropStaged 1 := ⟨⟨Gw_in (List.mem_of_getElem? (i := 777) (by decide +kernel)) rfl, Gw_in (List.mem_of_getElem? (i := 79) (by decide +kernel)) rfl, by decide, by decide, by decide, by decide +kernel⟩, Gw_in (List.mem_of_getElem? (i := 775) (by decide +kernel)) rfl, Gw_in (List.mem_of_getElem? (i := 776) (by decide +kernel)) rfl⟩
abbrev M_X0_streets : MT := (yX0_streets, cX0_streets, 1, (some .int))
theorem m_X0_streets : MV M_X0_streets 0 := ⟨⟨Gw_in (List.mem_of_getElem? (i := 682) (by decide +kernel)) rfl, Gw_in (List.mem_of_getElem? (i := 79) (by decide +kernel)) rfl, by decide, by decide, by decide, by decide +kernel⟩, Gw_in (List.mem_of_getElem? (i := 680) (by decide +kernel)) rfl, Gw_in (List.mem_of_getElem? (i := 681) (by decide +kernel)) rfl⟩
theorem k_X0_103 : Cond.methodLinkNest RX0 103 yX7_isBelow "LastHappened" ∈ nestW := List.mem_filter.mpr ⟨List.mem_of_getElem? (i := 613) (by decide +kernel), rfl⟩
abbrev M_X0_firstWordOf : MT := (yX0_firstWordOf, cX0_firstWordOf, 2, (some .int))
theorem m_X0_firstWordOf : MV M_X0_firstWordOf 1 := ⟨⟨Gw_in (List.mem_of_getElem? (i := 796) (by decide +kernel)) rfl, Gw_in (List.mem_of_getElem? (i := 79) (by decide +kernel)) rfl, by decide, by decide, by decide, by decide +kernel⟩, Gw_in (List.mem_of_getElem? (i := 794) (by decide +kernel)) rfl, Gw_in (List.mem_of_getElem? (i := 795) (by decide +kernel)) rfl⟩
theorem l_X0_46 : FL RX0 46 RX0 TX0 10 9 := ⟨by decide, rfl, Gw_in (List.mem_of_getElem? (i := 199) (by decide +kernel)) rfl⟩
theorem p_X0_9 : PF TX0 9 := ⟨rfl, by decide +kernel⟩
theorem l_X0_27 : FL RX0 27 RX0 TX0 10 3 := ⟨by decide, rfl, Gw_in (List.mem_of_getElem? (i := 193) (by decide +kernel)) rfl⟩
theorem l_X0_30 : FL RX0 30 RX0 TX0 10 4 := ⟨by decide, rfl, Gw_in (List.mem_of_getElem? (i := 194) (by decide +kernel)) rfl⟩
theorem l_X0_33 : FL RX0 33 RX0 TX0 10 5 := ⟨by decide, rfl, Gw_in (List.mem_of_getElem? (i := 195) (by decide +kernel)) rfl⟩
theorem l_X0_36 : FL RX0 36 RX0 TX0 10 6 := ⟨by decide, rfl, Gw_in (List.mem_of_getElem? (i := 196) (by decide +kernel)) rfl⟩
abbrev M_X0_begin : MT := (yX0_begin, cX0_begin, 2, none)
theorem m_X0_begin : MV M_X0_begin 1 := ⟨⟨Gw_in (List.mem_of_getElem? (i := 659) (by decide +kernel)) rfl, Gw_in (List.mem_of_getElem? (i := 79) (by decide +kernel)) rfl, by decide, by decide, by decide, by decide +kernel⟩, Gw_in (List.mem_of_getElem? (i := 658) (by decide +kernel)) rfl, Gw_in (List.mem_of_getElem? (i := 20) (by decide +kernel)) rfl⟩
abbrev M_X7_holds : MT := (yX7_holds, cX7_holds, 2, (some .boolean))
theorem m_X7_holds : MS M_X7_holds 2 := ⟨⟨Gw_in (List.mem_of_getElem? (i := 670) (by decide +kernel)) rfl, Gw_in (List.mem_of_getElem? (i := 75) (by decide +kernel)) rfl, by decide, by decide, by decide, by decide +kernel⟩, Gw_in (List.mem_of_getElem? (i := 669) (by decide +kernel)) rfl⟩
abbrev M_X0_yields : MT := (yX0_yields, cX0_yields, 4, (some .boolean))
theorem m_X0_yields : MV M_X0_yields 3 := ⟨⟨Gw_in (List.mem_of_getElem? (i := 674) (by decide +kernel)) rfl, Gw_in (List.mem_of_getElem? (i := 79) (by decide +kernel)) rfl, by decide, by decide, by decide, by decide +kernel⟩, Gw_in (List.mem_of_getElem? (i := 673) (by decide +kernel)) rfl, Gw_in (List.mem_of_getElem? (i := 22) (by decide +kernel)) rfl⟩
theorem k_X0_123 : Cond.methodLinkNest RX0 123 yX7_holds "LastHappened" ∈ nestW := List.mem_filter.mpr ⟨List.mem_of_getElem? (i := 594) (by decide +kernel), rfl⟩
theorem k_X0_126 : Cond.methodLink RX0 126 yX0_yields ∈ Gw := Gw_in (List.mem_of_getElem? (i := 671) (by decide +kernel)) rfl
abbrev M_X0_isRenamed : MT := (yX0_isRenamed, cX0_isRenamed, 4, (some .boolean))
theorem m_X0_isRenamed : MV M_X0_isRenamed 2 := ⟨⟨Gw_in (List.mem_of_getElem? (i := 667) (by decide +kernel)) rfl, Gw_in (List.mem_of_getElem? (i := 79) (by decide +kernel)) rfl, by decide, by decide, by decide, by decide +kernel⟩, Gw_in (List.mem_of_getElem? (i := 666) (by decide +kernel)) rfl, Gw_in (List.mem_of_getElem? (i := 21) (by decide +kernel)) rfl⟩
theorem k_X0_117 : Cond.methodLink RX0 117 yX0_isRenamed ∈ Gw := Gw_in (List.mem_of_getElem? (i := 664) (by decide +kernel)) rfl
abbrev M_X0_live : MT := (yX0_live, cX0_live, 5, (some .int))
theorem m_X0_live : MV M_X0_live 3 := ⟨⟨Gw_in (List.mem_of_getElem? (i := 706) (by decide +kernel)) rfl, Gw_in (List.mem_of_getElem? (i := 79) (by decide +kernel)) rfl, by decide, by decide, by decide, by decide +kernel⟩, Gw_in (List.mem_of_getElem? (i := 705) (by decide +kernel)) rfl, Gw_in (List.mem_of_getElem? (i := 24) (by decide +kernel)) rfl⟩
theorem k_X0_107 : Cond.methodLink RX0 107 yX0_begin ∈ Gw := Gw_in (List.mem_of_getElem? (i := 656) (by decide +kernel)) rfl
theorem k_X0_110 : Cond.methodLink RX0 110 yX0_live ∈ Gw := Gw_in (List.mem_of_getElem? (i := 703) (by decide +kernel)) rfl
abbrev M_X0_wordIn : MT := (yX0_wordIn, cX0_wordIn, 4, (some .int))
theorem m_X0_wordIn : MV M_X0_wordIn 3 := ⟨⟨Gw_in (List.mem_of_getElem? (i := 763) (by decide +kernel)) rfl, Gw_in (List.mem_of_getElem? (i := 79) (by decide +kernel)) rfl, by decide, by decide, by decide, by decide +kernel⟩, Gw_in (List.mem_of_getElem? (i := 761) (by decide +kernel)) rfl, Gw_in (List.mem_of_getElem? (i := 762) (by decide +kernel)) rfl⟩
abbrev M_X0_renamings : MT := (yX0_renamings, cX0_renamings, 3, (some .int))
theorem m_X0_renamings : MV M_X0_renamings 2 := ⟨⟨Gw_in (List.mem_of_getElem? (i := 702) (by decide +kernel)) rfl, Gw_in (List.mem_of_getElem? (i := 79) (by decide +kernel)) rfl, by decide, by decide, by decide, by decide +kernel⟩, Gw_in (List.mem_of_getElem? (i := 700) (by decide +kernel)) rfl, Gw_in (List.mem_of_getElem? (i := 701) (by decide +kernel)) rfl⟩
theorem l_X5_29 : FL RX5 29 RX5 TX5 8 4 := ⟨by decide, rfl, Gw_in (List.mem_of_getElem? (i := 134) (by decide +kernel)) rfl⟩
abbrev M_X5_rentAt : MT := (yX5_rentAt, cX5_rentAt, 2, (some .int))
theorem m_X5_rentAt : MV M_X5_rentAt 1 := ⟨⟨Gw_in (List.mem_of_getElem? (i := 808) (by decide +kernel)) rfl, Gw_in (List.mem_of_getElem? (i := 76) (by decide +kernel)) rfl, by decide, by decide, by decide, by decide +kernel⟩, Gw_in (List.mem_of_getElem? (i := 806) (by decide +kernel)) rfl, Gw_in (List.mem_of_getElem? (i := 807) (by decide +kernel)) rfl⟩
theorem k_X0_114 : Cond.methodLink RX0 114 yX5_rentAt ∈ Gw := Gw_in (List.mem_of_getElem? (i := 805) (by decide +kernel)) rfl
abbrev M_X0_rentOf : MT := (yX0_rentOf, cX0_rentOf, 5, (some .int))
theorem m_X0_rentOf : MV M_X0_rentOf 2 := ⟨⟨Gw_in (List.mem_of_getElem? (i := 804) (by decide +kernel)) rfl, Gw_in (List.mem_of_getElem? (i := 79) (by decide +kernel)) rfl, by decide, by decide, by decide, by decide +kernel⟩, Gw_in (List.mem_of_getElem? (i := 802) (by decide +kernel)) rfl, Gw_in (List.mem_of_getElem? (i := 803) (by decide +kernel)) rfl⟩
abbrev M_X0_beginAll : MT := (yX0_beginAll, cX0_beginAll, 2, none)
theorem m_X0_beginAll : MV M_X0_beginAll 0 := ⟨⟨Gw_in (List.mem_of_getElem? (i := 655) (by decide +kernel)) rfl, Gw_in (List.mem_of_getElem? (i := 79) (by decide +kernel)) rfl, by decide, by decide, by decide, by decide +kernel⟩, Gw_in (List.mem_of_getElem? (i := 653) (by decide +kernel)) rfl, Gw_in (List.mem_of_getElem? (i := 654) (by decide +kernel)) rfl⟩
abbrev M_X0_numberFor : MT := (yX0_numberFor, cX0_numberFor, 4, (some .int))
theorem m_X0_numberFor : MV M_X0_numberFor 1 := ⟨⟨Gw_in (List.mem_of_getElem? (i := 678) (by decide +kernel)) rfl, Gw_in (List.mem_of_getElem? (i := 79) (by decide +kernel)) rfl, by decide, by decide, by decide, by decide +kernel⟩, Gw_in (List.mem_of_getElem? (i := 677) (by decide +kernel)) rfl, Gw_in (List.mem_of_getElem? (i := 23) (by decide +kernel)) rfl⟩
theorem k_X0_120 : Cond.methodLink RX0 120 yX0_numberFor ∈ Gw := Gw_in (List.mem_of_getElem? (i := 675) (by decide +kernel)) rfl
abbrev M_X0_liveAll : MT := (yX0_liveAll, cX0_liveAll, 3, none)
theorem m_X0_liveAll : MV M_X0_liveAll 1 := ⟨⟨Gw_in (List.mem_of_getElem? (i := 663) (by decide +kernel)) rfl, Gw_in (List.mem_of_getElem? (i := 79) (by decide +kernel)) rfl, by decide, by decide, by decide, by decide +kernel⟩, Gw_in (List.mem_of_getElem? (i := 661) (by decide +kernel)) rfl, Gw_in (List.mem_of_getElem? (i := 662) (by decide +kernel)) rfl⟩
abbrev M_X0_nameNow : MT := (yX0_nameNow, cX0_nameNow, 2, (some .int))
theorem m_X0_nameNow : MV M_X0_nameNow 1 := ⟨⟨Gw_in (List.mem_of_getElem? (i := 686) (by decide +kernel)) rfl, Gw_in (List.mem_of_getElem? (i := 79) (by decide +kernel)) rfl, by decide, by decide, by decide, by decide +kernel⟩, Gw_in (List.mem_of_getElem? (i := 684) (by decide +kernel)) rfl, Gw_in (List.mem_of_getElem? (i := 685) (by decide +kernel)) rfl⟩
theorem l_X1_15 : FL RX1 15 RX1 TX1 2 0 := ⟨by decide, rfl, Gw_in (List.mem_of_getElem? (i := 227) (by decide +kernel)) rfl⟩
theorem k_X1_19 : Cond.methodLink RX1 19 yX0_plan ∈ Gw := Gw_in (List.mem_of_getElem? (i := 628) (by decide +kernel)) rfl
theorem k_X1_25 : Cond.methodLink RX1 25 yX0_beginAll ∈ Gw := Gw_in (List.mem_of_getElem? (i := 652) (by decide +kernel)) rfl
theorem k_X1_28 : Cond.methodLink RX1 28 yX0_liveAll ∈ Gw := Gw_in (List.mem_of_getElem? (i := 660) (by decide +kernel)) rfl
theorem k_X1_32 : Cond.methodLink RX1 32 yX0_streets ∈ Gw := Gw_in (List.mem_of_getElem? (i := 679) (by decide +kernel)) rfl
theorem l_X1_9 : FL RX1 9 RX1 TX1 2 1 := ⟨by decide, rfl, Gw_in (List.mem_of_getElem? (i := 228) (by decide +kernel)) rfl⟩
theorem k_X1_36 : Cond.methodLink RX1 36 yX0_nameNow ∈ Gw := Gw_in (List.mem_of_getElem? (i := 683) (by decide +kernel)) rfl
abbrev M_X1_write : MT := (yX1_write, cX1_write, 4, none)
theorem m_X1_write : MV M_X1_write 1 := ⟨⟨Gw_in (List.mem_of_getElem? (i := 627) (by decide +kernel)) rfl, Gw_in (List.mem_of_getElem? (i := 80) (by decide +kernel)) rfl, by decide, by decide, by decide, by decide +kernel⟩, Gw_in (List.mem_of_getElem? (i := 625) (by decide +kernel)) rfl, Gw_in (List.mem_of_getElem? (i := 626) (by decide +kernel)) rfl⟩
abbrev M_X7_isHour : MT := (yX7_isHour, cX7_isHour, 1, (some .boolean))
theorem m_X7_isHour : MS M_X7_isHour 1 := ⟨⟨Gw_in (List.mem_of_getElem? (i := 623) (by decide +kernel)) rfl, Gw_in (List.mem_of_getElem? (i := 75) (by decide +kernel)) rfl, by decide, by decide, by decide, by decide +kernel⟩, Gw_in (List.mem_of_getElem? (i := 622) (by decide +kernel)) rfl⟩
theorem k_X1_40 : Cond.methodLinkNest RX1 40 yX7_isBelow "LastHappened" ∈ nestW := List.mem_filter.mpr ⟨List.mem_of_getElem? (i := 618) (by decide +kernel), rfl⟩
theorem k_X1_44 : Cond.methodLinkNest RX1 44 yX7_isHour "LastHappened" ∈ nestW := List.mem_filter.mpr ⟨List.mem_of_getElem? (i := 619) (by decide +kernel), rfl⟩
abbrev M_X1_at : MT := (yX1_at, cX1_at, 3, (some .int))
theorem m_X1_at : MV M_X1_at 2 := ⟨⟨Gw_in (List.mem_of_getElem? (i := 691) (by decide +kernel)) rfl, Gw_in (List.mem_of_getElem? (i := 80) (by decide +kernel)) rfl, by decide, by decide, by decide, by decide +kernel⟩, Gw_in (List.mem_of_getElem? (i := 689) (by decide +kernel)) rfl, Gw_in (List.mem_of_getElem? (i := 690) (by decide +kernel)) rfl⟩
theorem k_X1_48 : Cond.methodLink RX1 48 yX1_at ∈ Gw := Gw_in (List.mem_of_getElem? (i := 715) (by decide +kernel)) rfl
abbrev M_X1_having : MT := (yX1_having, cX1_having, 5, (some .int))
theorem m_X1_having : MV M_X1_having 2 := ⟨⟨Gw_in (List.mem_of_getElem? (i := 714) (by decide +kernel)) rfl, Gw_in (List.mem_of_getElem? (i := 80) (by decide +kernel)) rfl, by decide, by decide, by decide, by decide +kernel⟩, Gw_in (List.mem_of_getElem? (i := 712) (by decide +kernel)) rfl, Gw_in (List.mem_of_getElem? (i := 713) (by decide +kernel)) rfl⟩
abbrev M_X1_firstHaving : MT := (yX1_firstHaving, cX1_firstHaving, 4, (some .int))
theorem m_X1_firstHaving : MV M_X1_firstHaving 2 := ⟨⟨Gw_in (List.mem_of_getElem? (i := 723) (by decide +kernel)) rfl, Gw_in (List.mem_of_getElem? (i := 80) (by decide +kernel)) rfl, by decide, by decide, by decide, by decide +kernel⟩, Gw_in (List.mem_of_getElem? (i := 721) (by decide +kernel)) rfl, Gw_in (List.mem_of_getElem? (i := 722) (by decide +kernel)) rfl⟩
theorem t_J6_265 : Cond.constant RJ6 265 (1431655765 : Int32) ∈ Gw := Gw_in (List.mem_of_getElem? (i := 748) (by decide +kernel)) rfl
theorem t_J6_266 : Cond.constant RJ6 266 (858993459 : Int32) ∈ Gw := Gw_in (List.mem_of_getElem? (i := 749) (by decide +kernel)) rfl
theorem t_J6_267 : Cond.constant RJ6 267 (252645135 : Int32) ∈ Gw := Gw_in (List.mem_of_getElem? (i := 750) (by decide +kernel)) rfl
abbrev M_J6_bitCount_0f7a4 : MT := (yJ6_bitCount_0f7a4, cJ6_bitCount_0f7a4, 1, (some .int))
theorem m_J6_bitCount_0f7a4 : MS M_J6_bitCount_0f7a4 1 := ⟨⟨Gw_in (List.mem_of_getElem? (i := 747) (by decide +kernel)) rfl, Gw_in (List.mem_of_getElem? (i := 90) (by decide +kernel)) rfl, by decide, by decide, by decide, by decide +kernel⟩, Gw_in (List.mem_of_getElem? (i := 746) (by decide +kernel)) rfl⟩
theorem k_X1_52 : Cond.methodLinkNest RX1 52 yX7_holds "LastHappened" ∈ nestW := List.mem_filter.mpr ⟨List.mem_of_getElem? (i := 669) (by decide +kernel), rfl⟩
theorem k_X1_55 : Cond.methodLink RX1 55 yX1_having ∈ Gw := Gw_in (List.mem_of_getElem? (i := 744) (by decide +kernel)) rfl
theorem k_X1_58 : Cond.methodLink RX1 58 yJ6_bitCount_0f7a4 ∈ Gw := Gw_in (List.mem_of_getElem? (i := 745) (by decide +kernel)) rfl
theorem k_X1_63 : MMW RX1 63 Lib.Math.max.name Lib.Math.max.code := ⟨Gw_in (by decide +kernel) rfl, Gw_in (by decide +kernel) rfl, Gw_in (by decide +kernel) rfl, Gw_in (by decide +kernel) rfl⟩
abbrev M_X1_mostAlike : MT := (yX1_mostAlike, cX1_mostAlike, 6, (some .int))
theorem m_X1_mostAlike : MV M_X1_mostAlike 2 := ⟨⟨Gw_in (List.mem_of_getElem? (i := 742) (by decide +kernel)) rfl, Gw_in (List.mem_of_getElem? (i := 80) (by decide +kernel)) rfl, by decide, by decide, by decide, by decide +kernel⟩, Gw_in (List.mem_of_getElem? (i := 740) (by decide +kernel)) rfl, Gw_in (List.mem_of_getElem? (i := 741) (by decide +kernel)) rfl⟩
theorem k_X2_20 : Cond.methodLink RX2 20 yX2_insert ∈ Gw := Gw_in (List.mem_of_getElem? (i := 371) (by decide +kernel)) rfl
abbrev M_X2_add : MT := (yX2_add, cX2_add, 2, none)
theorem m_X2_add : MV M_X2_add 1 := ⟨⟨Gw_in (List.mem_of_getElem? (i := 370) (by decide +kernel)) rfl, Gw_in (List.mem_of_getElem? (i := 77) (by decide +kernel)) rfl, by decide, by decide, by decide, by decide +kernel⟩, Gw_in (List.mem_of_getElem? (i := 368) (by decide +kernel)) rfl, Gw_in (List.mem_of_getElem? (i := 369) (by decide +kernel)) rfl⟩
abbrev M_X2_copy : MT := (yX2_copy, cX2_copy, 2, none)
theorem m_X2_copy : MV M_X2_copy 1 := ⟨⟨Gw_in (List.mem_of_getElem? (i := 572) (by decide +kernel)) rfl, Gw_in (List.mem_of_getElem? (i := 77) (by decide +kernel)) rfl, by decide, by decide, by decide, by decide +kernel⟩, Gw_in (List.mem_of_getElem? (i := 570) (by decide +kernel)) rfl, Gw_in (List.mem_of_getElem? (i := 571) (by decide +kernel)) rfl⟩
theorem t_X2_40 : Cond.constantLong RX2 40 (31 : Int64) ∈ Gw := Gw_in (List.mem_of_getElem? (i := 946) (by decide +kernel)) rfl
abbrev M_X2_mixInto : MT := (yX2_mixInto, cX2_mixInto, 6, (some .long))
theorem m_X2_mixInto : MV M_X2_mixInto 1 := ⟨⟨Gw_in (List.mem_of_getElem? (i := 945) (by decide +kernel)) rfl, Gw_in (List.mem_of_getElem? (i := 77) (by decide +kernel)) rfl, by decide, by decide, by decide, by decide +kernel⟩, Gw_in (List.mem_of_getElem? (i := 943) (by decide +kernel)) rfl, Gw_in (List.mem_of_getElem? (i := 944) (by decide +kernel)) rfl⟩
theorem l_X3_28 : FL RX3 28 RX3 TX3 6 0 := ⟨by decide, rfl, Gw_in (List.mem_of_getElem? (i := 240) (by decide +kernel)) rfl⟩
theorem k_X3_42 : Cond.methodLink RX3 42 yX0_addStaged ∈ Gw := Gw_in (List.mem_of_getElem? (i := 768) (by decide +kernel)) rfl
theorem k_X3_34 : Cond.methodLink RX3 34 yX0_wordIn ∈ Gw := Gw_in (List.mem_of_getElem? (i := 760) (by decide +kernel)) rfl
theorem k_X3_45 : Cond.methodLink RX3 45 yX0_dropStaged ∈ Gw := Gw_in (List.mem_of_getElem? (i := 774) (by decide +kernel)) rfl
abbrev M_X3_hourOfOne : MT := (yX3_hourOfOne, cX3_hourOfOne, 8, (some .int))
theorem m_X3_hourOfOne : MV M_X3_hourOfOne 4 := ⟨⟨Gw_in (List.mem_of_getElem? (i := 767) (by decide +kernel)) rfl, Gw_in (List.mem_of_getElem? (i := 81) (by decide +kernel)) rfl, by decide, by decide, by decide, by decide +kernel⟩, Gw_in (List.mem_of_getElem? (i := 766) (by decide +kernel)) rfl, Gw_in (List.mem_of_getElem? (i := 26) (by decide +kernel)) rfl⟩
theorem k_X3_38 : Cond.methodLink RX3 38 yX3_hourOfOne ∈ Gw := Gw_in (List.mem_of_getElem? (i := 764) (by decide +kernel)) rfl
theorem l_X3_18 : FL RX3 18 RX3 TX3 6 3 := ⟨by decide, rfl, Gw_in (List.mem_of_getElem? (i := 243) (by decide +kernel)) rfl⟩
theorem p_X3_3 : PF TX3 3 := ⟨rfl, by decide +kernel⟩
theorem l_X3_22 : FL RX3 22 RX3 TX3 6 4 := ⟨by decide, rfl, Gw_in (List.mem_of_getElem? (i := 244) (by decide +kernel)) rfl⟩
theorem p_X3_4 : PF TX3 4 := ⟨rfl, by decide +kernel⟩
abbrev M_X3_fewestStaged : MT := (yX3_fewestStaged, cX3_fewestStaged, 6, (some .int))
theorem m_X3_fewestStaged : MV M_X3_fewestStaged 3 := ⟨⟨Gw_in (List.mem_of_getElem? (i := 759) (by decide +kernel)) rfl, Gw_in (List.mem_of_getElem? (i := 81) (by decide +kernel)) rfl, by decide, by decide, by decide, by decide +kernel⟩, Gw_in (List.mem_of_getElem? (i := 757) (by decide +kernel)) rfl, Gw_in (List.mem_of_getElem? (i := 758) (by decide +kernel)) rfl⟩
abbrev M_X3_hourStaged : MT := (yX3_hourStaged, cX3_hourStaged, 2, (some .int))
theorem m_X3_hourStaged : MV M_X3_hourStaged 1 := ⟨⟨Gw_in (List.mem_of_getElem? (i := 782) (by decide +kernel)) rfl, Gw_in (List.mem_of_getElem? (i := 81) (by decide +kernel)) rfl, by decide, by decide, by decide, by decide +kernel⟩, Gw_in (List.mem_of_getElem? (i := 780) (by decide +kernel)) rfl, Gw_in (List.mem_of_getElem? (i := 781) (by decide +kernel)) rfl⟩
theorem l_X3_49 : FLN RX3 49 RX5 TX5 8 1 := ⟨by decide, rfl, List.mem_filter.mpr ⟨List.mem_of_getElem? (i := 53) (by decide +kernel), rfl⟩⟩
theorem k_X3_55 : Cond.methodLink RX3 55 yX2_size ∈ Gw := Gw_in (List.mem_of_getElem? (i := 791) (by decide +kernel)) rfl
theorem k_X3_67 : Cond.methodLink RX3 67 yX0_firstWordOf ∈ Gw := Gw_in (List.mem_of_getElem? (i := 793) (by decide +kernel)) rfl
theorem k_X3_61 : Cond.methodLink RX3 61 yJ6_bitCount_0f7a4 ∈ Gw := Gw_in (List.mem_of_getElem? (i := 792) (by decide +kernel)) rfl
abbrev M_X3_fewestForbidden : MT := (yX3_fewestForbidden, cX3_fewestForbidden, 7, (some .int))
theorem m_X3_fewestForbidden : MV M_X3_fewestForbidden 2 := ⟨⟨Gw_in (List.mem_of_getElem? (i := 790) (by decide +kernel)) rfl, Gw_in (List.mem_of_getElem? (i := 81) (by decide +kernel)) rfl, by decide, by decide, by decide, by decide +kernel⟩, Gw_in (List.mem_of_getElem? (i := 788) (by decide +kernel)) rfl, Gw_in (List.mem_of_getElem? (i := 789) (by decide +kernel)) rfl⟩
theorem k_X3_77 : Cond.methodLink RX3 77 yX2_cell ∈ Gw := Gw_in (List.mem_of_getElem? (i := 886) (by decide +kernel)) rfl
abbrev M_X3_agrees : MT := (yX3_agrees, cX3_agrees, 5, (some .boolean))
theorem m_X3_agrees : MV M_X3_agrees 2 := ⟨⟨Gw_in (List.mem_of_getElem? (i := 885) (by decide +kernel)) rfl, Gw_in (List.mem_of_getElem? (i := 81) (by decide +kernel)) rfl, by decide, by decide, by decide, by decide +kernel⟩, Gw_in (List.mem_of_getElem? (i := 884) (by decide +kernel)) rfl, Gw_in (List.mem_of_getElem? (i := 32) (by decide +kernel)) rfl⟩
theorem l_X3_25 : FL RX3 25 RX3 TX3 6 5 := ⟨by decide, rfl, Gw_in (List.mem_of_getElem? (i := 245) (by decide +kernel)) rfl⟩
theorem p_X3_5 : PF TX3 5 := ⟨rfl, by decide +kernel⟩
theorem l_X3_70 : FLN RX3 70 RX5 TX5 8 2 := ⟨by decide, rfl, List.mem_filter.mpr ⟨List.mem_of_getElem? (i := 56) (by decide +kernel), rfl⟩⟩
theorem k_X3_73 : Cond.methodLink RX3 73 yX3_agrees ∈ Gw := Gw_in (List.mem_of_getElem? (i := 882) (by decide +kernel)) rfl
abbrev M_X3_trueSets : MT := (yX3_trueSets, cX3_trueSets, 5, (some .int))
theorem m_X3_trueSets : MV M_X3_trueSets 1 := ⟨⟨Gw_in (List.mem_of_getElem? (i := 881) (by decide +kernel)) rfl, Gw_in (List.mem_of_getElem? (i := 81) (by decide +kernel)) rfl, by decide, by decide, by decide, by decide +kernel⟩, Gw_in (List.mem_of_getElem? (i := 879) (by decide +kernel)) rfl, Gw_in (List.mem_of_getElem? (i := 880) (by decide +kernel)) rfl⟩
abbrev M_X3_inAllTrueSets : MT := (yX3_inAllTrueSets, cX3_inAllTrueSets, 1, (some .int))
theorem m_X3_inAllTrueSets : MV M_X3_inAllTrueSets 0 := ⟨⟨Gw_in (List.mem_of_getElem? (i := 890) (by decide +kernel)) rfl, Gw_in (List.mem_of_getElem? (i := 81) (by decide +kernel)) rfl, by decide, by decide, by decide, by decide +kernel⟩, Gw_in (List.mem_of_getElem? (i := 888) (by decide +kernel)) rfl, Gw_in (List.mem_of_getElem? (i := 889) (by decide +kernel)) rfl⟩
abbrev M_X5_dearestWord : MT := (yX5_dearestWord, cX5_dearestWord, 3, (some .int))
theorem m_X5_dearestWord : MV M_X5_dearestWord 0 := ⟨⟨Gw_in (List.mem_of_getElem? (i := 820) (by decide +kernel)) rfl, Gw_in (List.mem_of_getElem? (i := 76) (by decide +kernel)) rfl, by decide, by decide, by decide, by decide +kernel⟩, Gw_in (List.mem_of_getElem? (i := 818) (by decide +kernel)) rfl, Gw_in (List.mem_of_getElem? (i := 819) (by decide +kernel)) rfl⟩
theorem k_X3_81 : Cond.methodLink RX3 81 yX5_dearestWord ∈ Gw := Gw_in (List.mem_of_getElem? (i := 817) (by decide +kernel)) rfl
theorem k_X3_84 : Cond.methodLink RX3 84 yX0_plan ∈ Gw := Gw_in (List.mem_of_getElem? (i := 821) (by decide +kernel)) rfl
theorem l_X3_11 : FL RX3 11 RX3 TX3 6 1 := ⟨by decide, rfl, Gw_in (List.mem_of_getElem? (i := 241) (by decide +kernel)) rfl⟩
theorem k_X3_88 : Cond.methodLink RX3 88 yX0_rentOf ∈ Gw := Gw_in (List.mem_of_getElem? (i := 822) (by decide +kernel)) rfl
theorem l_X3_15 : FL RX3 15 RX3 TX3 6 2 := ⟨by decide, rfl, Gw_in (List.mem_of_getElem? (i := 242) (by decide +kernel)) rfl⟩
abbrev M_X3_weighPairs : MT := (yX3_weighPairs, cX3_weighPairs, 8, none)
theorem m_X3_weighPairs : MV M_X3_weighPairs 5 := ⟨⟨Gw_in (List.mem_of_getElem? (i := 816) (by decide +kernel)) rfl, Gw_in (List.mem_of_getElem? (i := 81) (by decide +kernel)) rfl, by decide, by decide, by decide, by decide +kernel⟩, Gw_in (List.mem_of_getElem? (i := 814) (by decide +kernel)) rfl, Gw_in (List.mem_of_getElem? (i := 815) (by decide +kernel)) rfl⟩
abbrev M_X3_pairsThatRest : MT := (yX3_pairsThatRest, cX3_pairsThatRest, 3, (some .int))
theorem m_X3_pairsThatRest : MV M_X3_pairsThatRest 0 := ⟨⟨Gw_in (List.mem_of_getElem? (i := 826) (by decide +kernel)) rfl, Gw_in (List.mem_of_getElem? (i := 81) (by decide +kernel)) rfl, by decide, by decide, by decide, by decide +kernel⟩, Gw_in (List.mem_of_getElem? (i := 824) (by decide +kernel)) rfl, Gw_in (List.mem_of_getElem? (i := 825) (by decide +kernel)) rfl⟩
theorem k_X3_102 : Cond.methodLink RX3 102 yX0_streets ∈ Gw := Gw_in (List.mem_of_getElem? (i := 905) (by decide +kernel)) rfl
theorem k_X3_105 : Cond.methodLink RX3 105 yX0_renamings ∈ Gw := Gw_in (List.mem_of_getElem? (i := 906) (by decide +kernel)) rfl
theorem t_X3_92 : Cond.constantLong RX3 92 (1103515245 : Int64) ∈ Gw := Gw_in (List.mem_of_getElem? (i := 900) (by decide +kernel)) rfl
theorem t_X3_94 : Cond.constantLong RX3 94 (12345 : Int64) ∈ Gw := Gw_in (List.mem_of_getElem? (i := 901) (by decide +kernel)) rfl
theorem t_X3_96 : Cond.constantLong RX3 96 (2147483648 : Int64) ∈ Gw := Gw_in (List.mem_of_getElem? (i := 902) (by decide +kernel)) rfl
theorem t_X3_98 : Cond.constantLong RX3 98 (65536 : Int64) ∈ Gw := Gw_in (List.mem_of_getElem? (i := 903) (by decide +kernel)) rfl
theorem t_X3_100 : Cond.constantLong RX3 100 (100 : Int64) ∈ Gw := Gw_in (List.mem_of_getElem? (i := 904) (by decide +kernel)) rfl
abbrev M_X3_renamingsOfDays : MT := (yX3_renamingsOfDays, cX3_renamingsOfDays, 11, (some .int))
theorem m_X3_renamingsOfDays : MV M_X3_renamingsOfDays 4 := ⟨⟨Gw_in (List.mem_of_getElem? (i := 899) (by decide +kernel)) rfl, Gw_in (List.mem_of_getElem? (i := 81) (by decide +kernel)) rfl, by decide, by decide, by decide, by decide +kernel⟩, Gw_in (List.mem_of_getElem? (i := 897) (by decide +kernel)) rfl, Gw_in (List.mem_of_getElem? (i := 898) (by decide +kernel)) rfl⟩
theorem l_X4_18 : FL RX4 18 RX4 TX4 6 2 := ⟨by decide, rfl, Gw_in (List.mem_of_getElem? (i := 165) (by decide +kernel)) rfl⟩
abbrev M_X4_size : MT := (yX4_size, cX4_size, 1, (some .int))
theorem m_X4_size : MV M_X4_size 0 := ⟨⟨Gw_in (List.mem_of_getElem? (i := 455) (by decide +kernel)) rfl, Gw_in (List.mem_of_getElem? (i := 78) (by decide +kernel)) rfl, by decide, by decide, by decide, by decide +kernel⟩, Gw_in (List.mem_of_getElem? (i := 453) (by decide +kernel)) rfl, Gw_in (List.mem_of_getElem? (i := 454) (by decide +kernel)) rfl⟩
abbrev M_X4_isFull : MT := (yX4_isFull, cX4_isFull, 1, (some .boolean))
theorem m_X4_isFull : MV M_X4_isFull 0 := ⟨⟨Gw_in (List.mem_of_getElem? (i := 446) (by decide +kernel)) rfl, Gw_in (List.mem_of_getElem? (i := 78) (by decide +kernel)) rfl, by decide, by decide, by decide, by decide +kernel⟩, Gw_in (List.mem_of_getElem? (i := 444) (by decide +kernel)) rfl, Gw_in (List.mem_of_getElem? (i := 445) (by decide +kernel)) rfl⟩
theorem k_X4_31 : Cond.methodLink RX4 31 yX4_isFull ∈ Gw := Gw_in (List.mem_of_getElem? (i := 451) (by decide +kernel)) rfl
theorem l_X4_9 : FL RX4 9 RX4 TX4 6 0 := ⟨by decide, rfl, Gw_in (List.mem_of_getElem? (i := 163) (by decide +kernel)) rfl⟩
theorem p_X4_2 : PF TX4 2 := ⟨rfl, by decide +kernel⟩
abbrev M_X4_add : MT := (yX4_add, cX4_add, 2, none)
theorem m_X4_add : MV M_X4_add 1 := ⟨⟨Gw_in (List.mem_of_getElem? (i := 450) (by decide +kernel)) rfl, Gw_in (List.mem_of_getElem? (i := 78) (by decide +kernel)) rfl, by decide, by decide, by decide, by decide +kernel⟩, Gw_in (List.mem_of_getElem? (i := 448) (by decide +kernel)) rfl, Gw_in (List.mem_of_getElem? (i := 449) (by decide +kernel)) rfl⟩
abbrev M_X4_empty : MT := (yX4_empty, cX4_empty, 1, none)
theorem m_X4_empty : MV M_X4_empty 0 := ⟨⟨Gw_in (List.mem_of_getElem? (i := 463) (by decide +kernel)) rfl, Gw_in (List.mem_of_getElem? (i := 78) (by decide +kernel)) rfl, by decide, by decide, by decide, by decide +kernel⟩, Gw_in (List.mem_of_getElem? (i := 461) (by decide +kernel)) rfl, Gw_in (List.mem_of_getElem? (i := 462) (by decide +kernel)) rfl⟩
theorem k_X4_100 : Cond.methodLinkNest RX4 100 yX7_isBelow "LastHappened" ∈ nestW := List.mem_filter.mpr ⟨List.mem_of_getElem? (i := 406) (by decide +kernel), rfl⟩
abbrev M_X4_byteAt : MT := (yX4_byteAt, cX4_byteAt, 2, (some .int))
theorem m_X4_byteAt : MV M_X4_byteAt 1 := ⟨⟨Gw_in (List.mem_of_getElem? (i := 479) (by decide +kernel)) rfl, Gw_in (List.mem_of_getElem? (i := 78) (by decide +kernel)) rfl, by decide, by decide, by decide, by decide +kernel⟩, Gw_in (List.mem_of_getElem? (i := 478) (by decide +kernel)) rfl, Gw_in (List.mem_of_getElem? (i := 8) (by decide +kernel)) rfl⟩
theorem k_X4_86 : Cond.methodLink RX4 86 yX4_byteAt ∈ Gw := Gw_in (List.mem_of_getElem? (i := 476) (by decide +kernel)) rfl
abbrev M_X4_isLetter : MT := (yX4_isLetter, cX4_isLetter, 2, (some .boolean))
theorem m_X4_isLetter : MV M_X4_isLetter 1 := ⟨⟨Gw_in (List.mem_of_getElem? (i := 484) (by decide +kernel)) rfl, Gw_in (List.mem_of_getElem? (i := 78) (by decide +kernel)) rfl, by decide, by decide, by decide, by decide +kernel⟩, Gw_in (List.mem_of_getElem? (i := 483) (by decide +kernel)) rfl, Gw_in (List.mem_of_getElem? (i := 9) (by decide +kernel)) rfl⟩
abbrev M_X4_isFigure : MT := (yX4_isFigure, cX4_isFigure, 2, (some .boolean))
theorem m_X4_isFigure : MV M_X4_isFigure 1 := ⟨⟨Gw_in (List.mem_of_getElem? (i := 488) (by decide +kernel)) rfl, Gw_in (List.mem_of_getElem? (i := 78) (by decide +kernel)) rfl, by decide, by decide, by decide, by decide +kernel⟩, Gw_in (List.mem_of_getElem? (i := 487) (by decide +kernel)) rfl, Gw_in (List.mem_of_getElem? (i := 10) (by decide +kernel)) rfl⟩
theorem l_X4_22 : FL RX4 22 RX4 TX4 6 3 := ⟨by decide, rfl, Gw_in (List.mem_of_getElem? (i := 166) (by decide +kernel)) rfl⟩
theorem l_X4_28 : FL RX4 28 RX4 TX4 6 5 := ⟨by decide, rfl, Gw_in (List.mem_of_getElem? (i := 168) (by decide +kernel)) rfl⟩
theorem p_X4_5 : PF TX4 5 := ⟨rfl, by decide +kernel⟩
theorem k_X4_94 : Cond.methodLink RX4 94 yX4_isLetter ∈ Gw := Gw_in (List.mem_of_getElem? (i := 481) (by decide +kernel)) rfl
theorem k_X4_97 : Cond.methodLink RX4 97 yX4_isFigure ∈ Gw := Gw_in (List.mem_of_getElem? (i := 485) (by decide +kernel)) rfl
theorem l_X4_25 : FL RX4 25 RX4 TX4 6 4 := ⟨by decide, rfl, Gw_in (List.mem_of_getElem? (i := 167) (by decide +kernel)) rfl⟩
theorem p_X4_4 : PF TX4 4 := ⟨rfl, by decide +kernel⟩
theorem p_X4_3 : PF TX4 3 := ⟨rfl, by decide +kernel⟩
abbrev M_X4_findToken : MT := (yX4_findToken, cX4_findToken, 1, none)
theorem m_X4_findToken : MV M_X4_findToken 0 := ⟨⟨Gw_in (List.mem_of_getElem? (i := 475) (by decide +kernel)) rfl, Gw_in (List.mem_of_getElem? (i := 78) (by decide +kernel)) rfl, by decide, by decide, by decide, by decide +kernel⟩, Gw_in (List.mem_of_getElem? (i := 474) (by decide +kernel)) rfl, Gw_in (List.mem_of_getElem? (i := 7) (by decide +kernel)) rfl⟩
theorem l_X5_26 : FL RX5 26 RX5 TX5 8 3 := ⟨by decide, rfl, Gw_in (List.mem_of_getElem? (i := 132) (by decide +kernel)) rfl⟩
theorem k_X5_65 : Cond.methodLink RX5 65 yX2_empty ∈ Gw := Gw_in (List.mem_of_getElem? (i := 363) (by decide +kernel)) rfl
abbrev M_X5_forgetPast : MT := (yX5_forgetPast, cX5_forgetPast, 1, none)
theorem m_X5_forgetPast : MV M_X5_forgetPast 0 := ⟨⟨Gw_in (List.mem_of_getElem? (i := 492) (by decide +kernel)) rfl, Gw_in (List.mem_of_getElem? (i := 76) (by decide +kernel)) rfl, by decide, by decide, by decide, by decide +kernel⟩, Gw_in (List.mem_of_getElem? (i := 490) (by decide +kernel)) rfl, Gw_in (List.mem_of_getElem? (i := 491) (by decide +kernel)) rfl⟩
theorem l_J0_38 : Cond.fieldLink RJ0 38 "java/lang/String" "COMPACT_STRINGS" "Z" ∈ Gw := Gw_in (by decide +kernel) rfl
theorem l_J0_15 : Cond.fieldLink RJ0 15 "java/lang/String" "coder" "B" ∈ Gw := Gw_in (List.mem_of_getElem? (i := 1385) (by decide +kernel)) rfl
abbrev M_J0_coder_7d493 : MT := (yJ0_coder_7d493, cJ0_coder_7d493, 1, (some .byte))
theorem m_J0_coder_7d493 : MV M_J0_coder_7d493 0 := ⟨⟨Gw_in (List.mem_of_getElem? (i := 513) (by decide +kernel)) rfl, Gw_in (List.mem_of_getElem? (i := 85) (by decide +kernel)) rfl, by decide, by decide, by decide, by decide +kernel⟩, Gw_in (List.mem_of_getElem? (i := 511) (by decide +kernel)) rfl, Gw_in (List.mem_of_getElem? (i := 512) (by decide +kernel)) rfl⟩
theorem l_J0_9 : Cond.fieldLink RJ0 9 "java/lang/String" "value" "[B" ∈ Gw := Gw_in (List.mem_of_getElem? (i := 1384) (by decide +kernel)) rfl
theorem k_J0_335 : Cond.methodLink RJ0 335 yJ0_coder_7d493 ∈ Gw := Gw_in (List.mem_of_getElem? (i := 510) (by decide +kernel)) rfl
abbrev M_J0_length_8abf5 : MT := (yJ0_length_8abf5, cJ0_length_8abf5, 1, (some .int))
theorem m_J0_length_8abf5 : MV M_J0_length_8abf5 0 := ⟨⟨Gw_in (List.mem_of_getElem? (i := 509) (by decide +kernel)) rfl, Gw_in (List.mem_of_getElem? (i := 85) (by decide +kernel)) rfl, by decide, by decide, by decide, by decide +kernel⟩, Gw_in (List.mem_of_getElem? (i := 507) (by decide +kernel)) rfl, Gw_in (List.mem_of_getElem? (i := 508) (by decide +kernel)) rfl⟩
abbrev M_J0_isLatin1_aae02 : MT := (yJ0_isLatin1_aae02, cJ0_isLatin1_aae02, 1, (some .boolean))
theorem m_J0_isLatin1_aae02 : MV M_J0_isLatin1_aae02 0 := ⟨⟨Gw_in (List.mem_of_getElem? (i := 523) (by decide +kernel)) rfl, Gw_in (List.mem_of_getElem? (i := 85) (by decide +kernel)) rfl, by decide, by decide, by decide, by decide +kernel⟩, Gw_in (List.mem_of_getElem? (i := 521) (by decide +kernel)) rfl, Gw_in (List.mem_of_getElem? (i := 522) (by decide +kernel)) rfl⟩
abbrev M_J3_checkIndex_8e157 : MT := (yJ3_checkIndex_8e157, cJ3_checkIndex_8e157, 3, (some .int))
theorem m_J3_checkIndex_8e157 : MS M_J3_checkIndex_8e157 3 := ⟨⟨Gw_in (List.mem_of_getElem? (i := 534) (by decide +kernel)) rfl, Gw_in (List.mem_of_getElem? (i := 87) (by decide +kernel)) rfl, by decide, by decide, by decide, by decide +kernel⟩, Gw_in (List.mem_of_getElem? (i := 533) (by decide +kernel)) rfl⟩
theorem l_J0_1053 : Cond.fieldLink RJ0 1053 "jdk/internal/util/Preconditions" "SIOOBE_FORMATTER" "Ljava/util/function/BiFunction;" ∈ Gw := Gw_in (by decide +kernel) rfl
theorem k_J0_1059 : Cond.methodLink RJ0 1059 yJ3_checkIndex_8e157 ∈ Gw := Gw_in (List.mem_of_getElem? (i := 532) (by decide +kernel)) rfl
abbrev M_J0_checkIndex_df160 : MT := (yJ0_checkIndex_df160, cJ0_checkIndex_df160, 2, none)
theorem m_J0_checkIndex_df160 : MS M_J0_checkIndex_df160 2 := ⟨⟨Gw_in (List.mem_of_getElem? (i := 529) (by decide +kernel)) rfl, Gw_in (List.mem_of_getElem? (i := 85) (by decide +kernel)) rfl, by decide, by decide, by decide, by decide +kernel⟩, Gw_in (List.mem_of_getElem? (i := 528) (by decide +kernel)) rfl⟩
theorem k_J1_9 : Cond.methodLink RJ1 9 yJ0_checkIndex_df160 ∈ Gw := Gw_in (List.mem_of_getElem? (i := 527) (by decide +kernel)) rfl
abbrev M_J1_charAt_3b067 : MT := (yJ1_charAt_3b067, cJ1_charAt_3b067, 2, (some .char))
theorem m_J1_charAt_3b067 : MS M_J1_charAt_3b067 2 := ⟨⟨Gw_in (List.mem_of_getElem? (i := 526) (by decide +kernel)) rfl, Gw_in (List.mem_of_getElem? (i := 86) (by decide +kernel)) rfl, by decide, by decide, by decide, by decide +kernel⟩, Gw_in (List.mem_of_getElem? (i := 525) (by decide +kernel)) rfl⟩
theorem k_J0_492 : Cond.methodLink RJ0 492 yJ0_isLatin1_aae02 ∈ Gw := Gw_in (List.mem_of_getElem? (i := 520) (by decide +kernel)) rfl
theorem k_J0_495 : Cond.methodLink RJ0 495 yJ1_charAt_3b067 ∈ Gw := Gw_in (List.mem_of_getElem? (i := 524) (by decide +kernel)) rfl
abbrev M_J0_charAt_5068e : MT := (yJ0_charAt_5068e, cJ0_charAt_5068e, 2, (some .char))
theorem m_J0_charAt_5068e : MV M_J0_charAt_5068e 1 := ⟨⟨Gw_in (List.mem_of_getElem? (i := 519) (by decide +kernel)) rfl, Gw_in (List.mem_of_getElem? (i := 85) (by decide +kernel)) rfl, by decide, by decide, by decide, by decide +kernel⟩, Gw_in (List.mem_of_getElem? (i := 517) (by decide +kernel)) rfl, Gw_in (List.mem_of_getElem? (i := 518) (by decide +kernel)) rfl⟩
theorem k_X4_81 : Cond.methodLink RX4 81 yJ0_length_8abf5 ∈ Gw := Gw_in (List.mem_of_getElem? (i := 506) (by decide +kernel)) rfl
theorem k_X4_90 : Cond.methodLink RX4 90 yJ0_charAt_5068e ∈ Gw := Gw_in (List.mem_of_getElem? (i := 516) (by decide +kernel)) rfl
abbrev M_X4_isWord : MT := (yX4_isWord, cX4_isWord, 3, (some .boolean))
theorem m_X4_isWord : MV M_X4_isWord 1 := ⟨⟨Gw_in (List.mem_of_getElem? (i := 505) (by decide +kernel)) rfl, Gw_in (List.mem_of_getElem? (i := 78) (by decide +kernel)) rfl, by decide, by decide, by decide, by decide +kernel⟩, Gw_in (List.mem_of_getElem? (i := 504) (by decide +kernel)) rfl, Gw_in (List.mem_of_getElem? (i := 13) (by decide +kernel)) rfl⟩
theorem k_X4_71 : Cond.methodLink RX4 71 yX4_isWord ∈ Gw := Gw_in (List.mem_of_getElem? (i := 502) (by decide +kernel)) rfl
abbrev M_X4_itemCalled : MT := (yX4_itemCalled, cX4_itemCalled, 1, (some .int))
theorem m_X4_itemCalled : MV M_X4_itemCalled 0 := ⟨⟨Gw_in (List.mem_of_getElem? (i := 500) (by decide +kernel)) rfl, Gw_in (List.mem_of_getElem? (i := 78) (by decide +kernel)) rfl, by decide, by decide, by decide, by decide +kernel⟩, Gw_in (List.mem_of_getElem? (i := 499) (by decide +kernel)) rfl, Gw_in (List.mem_of_getElem? (i := 12) (by decide +kernel)) rfl⟩
theorem k_X5_57 : Cond.methodLink RX5 57 yX2_isFull ∈ Gw := Gw_in (List.mem_of_getElem? (i := 347) (by decide +kernel)) rfl
abbrev M_X5_hasNoRoomFor : MT := (yX5_hasNoRoomFor, cX5_hasNoRoomFor, 2, (some .boolean))
theorem m_X5_hasNoRoomFor : MV M_X5_hasNoRoomFor 1 := ⟨⟨Gw_in (List.mem_of_getElem? (i := 346) (by decide +kernel)) rfl, Gw_in (List.mem_of_getElem? (i := 76) (by decide +kernel)) rfl, by decide, by decide, by decide, by decide +kernel⟩, Gw_in (List.mem_of_getElem? (i := 344) (by decide +kernel)) rfl, Gw_in (List.mem_of_getElem? (i := 345) (by decide +kernel)) rfl⟩
abbrev M_X4_value : MT := (yX4_value, cX4_value, 3, (some .int))
theorem m_X4_value : MV M_X4_value 0 := ⟨⟨Gw_in (List.mem_of_getElem? (i := 562) (by decide +kernel)) rfl, Gw_in (List.mem_of_getElem? (i := 78) (by decide +kernel)) rfl, by decide, by decide, by decide, by decide +kernel⟩, Gw_in (List.mem_of_getElem? (i := 561) (by decide +kernel)) rfl, Gw_in (List.mem_of_getElem? (i := 14) (by decide +kernel)) rfl⟩
theorem l_X5_43 : Cond.fieldLinkNest RX5 43 "LastHappened" (tabN 0) "[I" "LastHappened" ∈ nestW := by decide +kernel
theorem l_X5_54 : Cond.fieldLinkNest RX5 54 "LastHappened" (tabN 1) "[I" "LastHappened" ∈ nestW := by decide +kernel
abbrev M_X5_fits : MT := (yX5_fits, cX5_fits, 5, (some .boolean))
theorem m_X5_fits : MV M_X5_fits 3 := ⟨⟨Gw_in (List.mem_of_getElem? (i := 328) (by decide +kernel)) rfl, Gw_in (List.mem_of_getElem? (i := 76) (by decide +kernel)) rfl, by decide, by decide, by decide, by decide +kernel⟩, Gw_in (List.mem_of_getElem? (i := 326) (by decide +kernel)) rfl, Gw_in (List.mem_of_getElem? (i := 327) (by decide +kernel)) rfl⟩
theorem l_X5_23 : FL RX5 23 RX5 TX5 8 2 := ⟨by decide, rfl, Gw_in (List.mem_of_getElem? (i := 129) (by decide +kernel)) rfl⟩
theorem l_X5_39 : FL RX5 39 RX5 TX5 8 7 := ⟨by decide, rfl, Gw_in (List.mem_of_getElem? (i := 137) (by decide +kernel)) rfl⟩
theorem p_X5_7 : PF TX5 7 := ⟨rfl, by decide +kernel⟩
abbrev M_X5_begin : MT := (yX5_begin, cX5_begin, 4, (some .int))
theorem m_X5_begin : MV M_X5_begin 1 := ⟨⟨Gw_in (List.mem_of_getElem? (i := 362) (by decide +kernel)) rfl, Gw_in (List.mem_of_getElem? (i := 76) (by decide +kernel)) rfl, by decide, by decide, by decide, by decide +kernel⟩, Gw_in (List.mem_of_getElem? (i := 361) (by decide +kernel)) rfl, Gw_in (List.mem_of_getElem? (i := 3) (by decide +kernel)) rfl⟩
theorem l_X5_33 : FL RX5 33 RX5 TX5 8 5 := ⟨by decide, rfl, Gw_in (List.mem_of_getElem? (i := 135) (by decide +kernel)) rfl⟩
theorem k_X5_68 : Cond.methodLink RX5 68 yX2_add ∈ Gw := Gw_in (List.mem_of_getElem? (i := 367) (by decide +kernel)) rfl
theorem k_X5_79 : Cond.methodLink RX5 79 yX2_drop ∈ Gw := Gw_in (List.mem_of_getElem? (i := 387) (by decide +kernel)) rfl
abbrev M_X5_remember : MT := (yX5_remember, cX5_remember, 2, none)
theorem m_X5_remember : MV M_X5_remember 0 := ⟨⟨Gw_in (List.mem_of_getElem? (i := 382) (by decide +kernel)) rfl, Gw_in (List.mem_of_getElem? (i := 76) (by decide +kernel)) rfl, by decide, by decide, by decide, by decide +kernel⟩, Gw_in (List.mem_of_getElem? (i := 381) (by decide +kernel)) rfl, Gw_in (List.mem_of_getElem? (i := 4) (by decide +kernel)) rfl⟩
abbrev M_X5_changeRent : MT := (yX5_changeRent, cX5_changeRent, 4, (some .int))
theorem m_X5_changeRent : MV M_X5_changeRent 2 := ⟨⟨Gw_in (List.mem_of_getElem? (i := 395) (by decide +kernel)) rfl, Gw_in (List.mem_of_getElem? (i := 76) (by decide +kernel)) rfl, by decide, by decide, by decide, by decide +kernel⟩, Gw_in (List.mem_of_getElem? (i := 394) (by decide +kernel)) rfl, Gw_in (List.mem_of_getElem? (i := 5) (by decide +kernel)) rfl⟩
theorem k_X5_61 : Cond.methodLink RX5 61 yX5_begin ∈ Gw := Gw_in (List.mem_of_getElem? (i := 359) (by decide +kernel)) rfl
theorem k_X5_72 : Cond.methodLink RX5 72 yX5_remember ∈ Gw := Gw_in (List.mem_of_getElem? (i := 379) (by decide +kernel)) rfl
theorem k_X5_75 : Cond.methodLink RX5 75 yX5_changeRent ∈ Gw := Gw_in (List.mem_of_getElem? (i := 392) (by decide +kernel)) rfl
abbrev M_X5_take : MT := (yX5_take, cX5_take, 3, (some .int))
theorem m_X5_take : MV M_X5_take 2 := ⟨⟨Gw_in (List.mem_of_getElem? (i := 358) (by decide +kernel)) rfl, Gw_in (List.mem_of_getElem? (i := 76) (by decide +kernel)) rfl, by decide, by decide, by decide, by decide +kernel⟩, Gw_in (List.mem_of_getElem? (i := 356) (by decide +kernel)) rfl, Gw_in (List.mem_of_getElem? (i := 357) (by decide +kernel)) rfl⟩
theorem k_X4_47 : Cond.methodLink RX4 47 yX4_itemCalled ∈ Gw := Gw_in (List.mem_of_getElem? (i := 497) (by decide +kernel)) rfl
theorem k_X4_51 : Cond.methodLink RX4 51 yX5_hasNoRoomFor ∈ Gw := Gw_in (List.mem_of_getElem? (i := 557) (by decide +kernel)) rfl
theorem k_X4_35 : Cond.methodLink RX4 35 yX4_findToken ∈ Gw := Gw_in (List.mem_of_getElem? (i := 472) (by decide +kernel)) rfl
theorem l_X4_15 : FL RX4 15 RX4 TX4 6 1 := ⟨by decide, rfl, Gw_in (List.mem_of_getElem? (i := 164) (by decide +kernel)) rfl⟩
theorem k_X4_65 : Cond.methodLink RX4 65 yX5_take ∈ Gw := Gw_in (List.mem_of_getElem? (i := 564) (by decide +kernel)) rfl
theorem l_X4_55 : Cond.fieldLinkNest RX4 55 "LastHappened" (tabN 0) "[I" "LastHappened" ∈ nestW := by decide +kernel
theorem k_X4_58 : Cond.methodLink RX4 58 yX4_value ∈ Gw := Gw_in (List.mem_of_getElem? (i := 559) (by decide +kernel)) rfl
theorem k_X4_61 : Cond.methodLink RX4 61 yX5_fits ∈ Gw := Gw_in (List.mem_of_getElem? (i := 563) (by decide +kernel)) rfl
abbrev M_X4_takeItem : MT := (yX4_takeItem, cX4_takeItem, 5, (some .boolean))
theorem m_X4_takeItem : MV M_X4_takeItem 2 := ⟨⟨Gw_in (List.mem_of_getElem? (i := 496) (by decide +kernel)) rfl, Gw_in (List.mem_of_getElem? (i := 78) (by decide +kernel)) rfl, by decide, by decide, by decide, by decide +kernel⟩, Gw_in (List.mem_of_getElem? (i := 495) (by decide +kernel)) rfl, Gw_in (List.mem_of_getElem? (i := 11) (by decide +kernel)) rfl⟩
theorem k_X4_43 : Cond.methodLink RX4 43 yX4_takeItem ∈ Gw := Gw_in (List.mem_of_getElem? (i := 493) (by decide +kernel)) rfl
theorem k_X4_38 : Cond.methodLink RX4 38 yX5_forgetPast ∈ Gw := Gw_in (List.mem_of_getElem? (i := 489) (by decide +kernel)) rfl
abbrev M_X4_readInto : MT := (yX4_readInto, cX4_readInto, 3, (some .int))
theorem m_X4_readInto : MV M_X4_readInto 1 := ⟨⟨Gw_in (List.mem_of_getElem? (i := 471) (by decide +kernel)) rfl, Gw_in (List.mem_of_getElem? (i := 78) (by decide +kernel)) rfl, by decide, by decide, by decide, by decide +kernel⟩, Gw_in (List.mem_of_getElem? (i := 469) (by decide +kernel)) rfl, Gw_in (List.mem_of_getElem? (i := 470) (by decide +kernel)) rfl⟩
abbrev M_X5_dropEvent : MT := (yX5_dropEvent, cX5_dropEvent, 2, none)
theorem m_X5_dropEvent : MV M_X5_dropEvent 1 := ⟨⟨Gw_in (List.mem_of_getElem? (i := 413) (by decide +kernel)) rfl, Gw_in (List.mem_of_getElem? (i := 76) (by decide +kernel)) rfl, by decide, by decide, by decide, by decide +kernel⟩, Gw_in (List.mem_of_getElem? (i := 411) (by decide +kernel)) rfl, Gw_in (List.mem_of_getElem? (i := 412) (by decide +kernel)) rfl⟩
abbrev M_X5_changeLaw : MT := (yX5_changeLaw, cX5_changeLaw, 3, (some .int))
theorem m_X5_changeLaw : MV M_X5_changeLaw 1 := ⟨⟨Gw_in (List.mem_of_getElem? (i := 422) (by decide +kernel)) rfl, Gw_in (List.mem_of_getElem? (i := 76) (by decide +kernel)) rfl, by decide, by decide, by decide, by decide +kernel⟩, Gw_in (List.mem_of_getElem? (i := 420) (by decide +kernel)) rfl, Gw_in (List.mem_of_getElem? (i := 421) (by decide +kernel)) rfl⟩
theorem l_X5_36 : FL RX5 36 RX5 TX5 8 6 := ⟨by decide, rfl, Gw_in (List.mem_of_getElem? (i := 136) (by decide +kernel)) rfl⟩
abbrev M_X5_goBack : MT := (yX5_goBack, cX5_goBack, 4, none)
theorem m_X5_goBack : MV M_X5_goBack 0 := ⟨⟨Gw_in (List.mem_of_getElem? (i := 434) (by decide +kernel)) rfl, Gw_in (List.mem_of_getElem? (i := 76) (by decide +kernel)) rfl, by decide, by decide, by decide, by decide +kernel⟩, Gw_in (List.mem_of_getElem? (i := 432) (by decide +kernel)) rfl, Gw_in (List.mem_of_getElem? (i := 433) (by decide +kernel)) rfl⟩
theorem k_X5_104 : Cond.methodLink RX5 104 yX2_copy ∈ Gw := Gw_in (List.mem_of_getElem? (i := 569) (by decide +kernel)) rfl
theorem k_X5_108 : CPW RX5 108 := ⟨Gw_in (by decide +kernel) rfl, Gw_in (by decide +kernel) rfl, Gw_in (by decide +kernel) rfl, Gw_in (by decide +kernel) rfl⟩
abbrev M_X5_copy : MT := (yX5_copy, cX5_copy, 2, none)
theorem m_X5_copy : MV M_X5_copy 1 := ⟨⟨Gw_in (List.mem_of_getElem? (i := 568) (by decide +kernel)) rfl, Gw_in (List.mem_of_getElem? (i := 76) (by decide +kernel)) rfl, by decide, by decide, by decide, by decide +kernel⟩, Gw_in (List.mem_of_getElem? (i := 566) (by decide +kernel)) rfl, Gw_in (List.mem_of_getElem? (i := 567) (by decide +kernel)) rfl⟩
theorem k_X5_114 : Cond.methodLink RX5 114 yX2_mixInto ∈ Gw := Gw_in (List.mem_of_getElem? (i := 942) (by decide +kernel)) rfl
theorem t_X5_118 : Cond.constantLong RX5 118 (31 : Int64) ∈ Gw := Gw_in (List.mem_of_getElem? (i := 947) (by decide +kernel)) rfl
abbrev M_X5_mixInto : MT := (yX5_mixInto, cX5_mixInto, 6, (some .long))
theorem m_X5_mixInto : MV M_X5_mixInto 1 := ⟨⟨Gw_in (List.mem_of_getElem? (i := 941) (by decide +kernel)) rfl, Gw_in (List.mem_of_getElem? (i := 76) (by decide +kernel)) rfl, by decide, by decide, by decide, by decide +kernel⟩, Gw_in (List.mem_of_getElem? (i := 939) (by decide +kernel)) rfl, Gw_in (List.mem_of_getElem? (i := 940) (by decide +kernel)) rfl⟩
theorem k_X6_18 : Cond.methodLinkNest RX6 18 yX7_isBelow "LastHappened" ∈ nestW := List.mem_filter.mpr ⟨List.mem_of_getElem? (i := 761) (by decide +kernel), rfl⟩
theorem l_X6_9 : FL RX6 9 RX6 TX6 2 0 := ⟨by decide, rfl, Gw_in (List.mem_of_getElem? (i := 265) (by decide +kernel)) rfl⟩
theorem k_X6_31 : MMW RX6 31 Lib.Math.min.name Lib.Math.min.code := ⟨Gw_in (by decide +kernel) rfl, Gw_in (by decide +kernel) rfl, Gw_in (by decide +kernel) rfl, Gw_in (by decide +kernel) rfl⟩
abbrev M_X6_shorten : MT := (yX6_shorten, cX6_shorten, 4, none)
theorem m_X6_shorten : MV M_X6_shorten 3 := ⟨⟨Gw_in (List.mem_of_getElem? (i := 846) (by decide +kernel)) rfl, Gw_in (List.mem_of_getElem? (i := 82) (by decide +kernel)) rfl, by decide, by decide, by decide, by decide +kernel⟩, Gw_in (List.mem_of_getElem? (i := 845) (by decide +kernel)) rfl, Gw_in (List.mem_of_getElem? (i := 28) (by decide +kernel)) rfl⟩
theorem k_X6_46 : Cond.methodLink RX6 46 yX6_shorten ∈ Gw := Gw_in (List.mem_of_getElem? (i := 843) (by decide +kernel)) rfl
theorem k_X6_37 : Cond.methodLink RX6 37 yX2_size ∈ Gw := Gw_in (List.mem_of_getElem? (i := 841) (by decide +kernel)) rfl
theorem k_X6_43 : Cond.methodLink RX6 43 yX2_cell ∈ Gw := Gw_in (List.mem_of_getElem? (i := 842) (by decide +kernel)) rfl
theorem t_X6_26 : Cond.constant RX6 26 (1000000 : Int32) ∈ Gw := Gw_in (List.mem_of_getElem? (i := 840) (by decide +kernel)) rfl
abbrev M_X6_measure : MT := (yX6_measure, cX6_measure, 5, none)
theorem m_X6_measure : MV M_X6_measure 1 := ⟨⟨Gw_in (List.mem_of_getElem? (i := 839) (by decide +kernel)) rfl, Gw_in (List.mem_of_getElem? (i := 82) (by decide +kernel)) rfl, by decide, by decide, by decide, by decide +kernel⟩, Gw_in (List.mem_of_getElem? (i := 838) (by decide +kernel)) rfl, Gw_in (List.mem_of_getElem? (i := 27) (by decide +kernel)) rfl⟩
theorem l_X6_15 : FL RX6 15 RX6 TX6 2 1 := ⟨by decide, rfl, Gw_in (List.mem_of_getElem? (i := 266) (by decide +kernel)) rfl⟩
abbrev M_X6_soonest : MT := (yX6_soonest, cX6_soonest, 5, (some .int))
theorem m_X6_soonest : MV M_X6_soonest 2 := ⟨⟨Gw_in (List.mem_of_getElem? (i := 858) (by decide +kernel)) rfl, Gw_in (List.mem_of_getElem? (i := 82) (by decide +kernel)) rfl, by decide, by decide, by decide, by decide +kernel⟩, Gw_in (List.mem_of_getElem? (i := 857) (by decide +kernel)) rfl, Gw_in (List.mem_of_getElem? (i := 30) (by decide +kernel)) rfl⟩
abbrev M_X6_reach : MT := (yX6_reach, cX6_reach, 5, none)
theorem m_X6_reach : MV M_X6_reach 3 := ⟨⟨Gw_in (List.mem_of_getElem? (i := 862) (by decide +kernel)) rfl, Gw_in (List.mem_of_getElem? (i := 82) (by decide +kernel)) rfl, by decide, by decide, by decide, by decide +kernel⟩, Gw_in (List.mem_of_getElem? (i := 861) (by decide +kernel)) rfl, Gw_in (List.mem_of_getElem? (i := 31) (by decide +kernel)) rfl⟩
theorem k_X6_50 : Cond.methodLinkNest RX6 50 yX7_holds "LastHappened" ∈ nestW := List.mem_filter.mpr ⟨List.mem_of_getElem? (i := 780) (by decide +kernel), rfl⟩
theorem k_X6_53 : Cond.methodLink RX6 53 yX6_soonest ∈ Gw := Gw_in (List.mem_of_getElem? (i := 855) (by decide +kernel)) rfl
theorem k_X6_56 : Cond.methodLink RX6 56 yX6_reach ∈ Gw := Gw_in (List.mem_of_getElem? (i := 859) (by decide +kernel)) rfl
abbrev M_X6_goOn : MT := (yX6_goOn, cX6_goOn, 9, none)
theorem m_X6_goOn : MV M_X6_goOn 3 := ⟨⟨Gw_in (List.mem_of_getElem? (i := 853) (by decide +kernel)) rfl, Gw_in (List.mem_of_getElem? (i := 82) (by decide +kernel)) rfl, by decide, by decide, by decide, by decide +kernel⟩, Gw_in (List.mem_of_getElem? (i := 852) (by decide +kernel)) rfl, Gw_in (List.mem_of_getElem? (i := 29) (by decide +kernel)) rfl⟩
theorem k_X6_22 : Cond.methodLink RX6 22 yX6_measure ∈ Gw := Gw_in (List.mem_of_getElem? (i := 836) (by decide +kernel)) rfl
theorem k_X6_27 : Cond.methodLink RX6 27 yX6_goOn ∈ Gw := Gw_in (List.mem_of_getElem? (i := 850) (by decide +kernel)) rfl
abbrev M_X6_shortest : MT := (yX6_shortest, cX6_shortest, 6, (some .int))
theorem m_X6_shortest : MV M_X6_shortest 3 := ⟨⟨Gw_in (List.mem_of_getElem? (i := 834) (by decide +kernel)) rfl, Gw_in (List.mem_of_getElem? (i := 82) (by decide +kernel)) rfl, by decide, by decide, by decide, by decide +kernel⟩, Gw_in (List.mem_of_getElem? (i := 832) (by decide +kernel)) rfl, Gw_in (List.mem_of_getElem? (i := 833) (by decide +kernel)) rfl⟩
theorem l_X7_70 : FL RX7 70 RX7 TX7 14 11 := ⟨by decide, rfl, Gw_in (List.mem_of_getElem? (i := 283) (by decide +kernel)) rfl⟩
theorem p_X7_11 : PF TX7 11 := ⟨rfl, by decide +kernel⟩
abbrev M_X7_refuseBad : MT := (yX7_refuseBad, cX7_refuseBad, 1, (some .int))
theorem m_X7_refuseBad : MV M_X7_refuseBad 0 := ⟨⟨Gw_in (List.mem_of_getElem? (i := 342) (by decide +kernel)) rfl, Gw_in (List.mem_of_getElem? (i := 75) (by decide +kernel)) rfl, by decide, by decide, by decide, by decide +kernel⟩, Gw_in (List.mem_of_getElem? (i := 341) (by decide +kernel)) rfl, Gw_in (List.mem_of_getElem? (i := 1) (by decide +kernel)) rfl⟩
theorem l_X7_76 : FL RX7 76 RX7 TX7 14 13 := ⟨by decide, rfl, Gw_in (List.mem_of_getElem? (i := 285) (by decide +kernel)) rfl⟩
theorem p_X7_13 : PF TX7 13 := ⟨rfl, by decide +kernel⟩
abbrev M_X7_refuseFull : MT := (yX7_refuseFull, cX7_refuseFull, 1, (some .int))
theorem m_X7_refuseFull : MV M_X7_refuseFull 0 := ⟨⟨Gw_in (List.mem_of_getElem? (i := 354) (by decide +kernel)) rfl, Gw_in (List.mem_of_getElem? (i := 75) (by decide +kernel)) rfl, by decide, by decide, by decide, by decide +kernel⟩, Gw_in (List.mem_of_getElem? (i := 353) (by decide +kernel)) rfl, Gw_in (List.mem_of_getElem? (i := 2) (by decide +kernel)) rfl⟩
theorem l_X7_10 : FL RX7 10 RX7 TX7 14 0 := ⟨by decide, rfl, Gw_in (List.mem_of_getElem? (i := 272) (by decide +kernel)) rfl⟩
theorem k_X7_265 : Cond.methodLink RX7 265 yX5_hasNoRoomFor ∈ Gw := Gw_in (List.mem_of_getElem? (i := 343) (by decide +kernel)) rfl
theorem l_X7_62 : FL RX7 62 RX7 TX7 14 9 := ⟨by decide, rfl, Gw_in (List.mem_of_getElem? (i := 281) (by decide +kernel)) rfl⟩
theorem k_X7_268 : Cond.methodLink RX7 268 yX5_take ∈ Gw := Gw_in (List.mem_of_getElem? (i := 355) (by decide +kernel)) rfl
theorem k_X7_123 : Cond.methodLink RX7 123 yX7_refuseFull ∈ Gw := Gw_in (List.mem_of_getElem? (i := 351) (by decide +kernel)) rfl
theorem l_X7_258 : Cond.fieldLink RX7 258 "LastHappened" (tabN 0) "[I" ∈ Gw := Gw_in (by decide +kernel) rfl
theorem k_X7_261 : Cond.methodLink RX7 261 yX5_fits ∈ Gw := Gw_in (List.mem_of_getElem? (i := 325) (by decide +kernel)) rfl
theorem k_X7_97 : Cond.methodLink RX7 97 yX7_refuseBad ∈ Gw := Gw_in (List.mem_of_getElem? (i := 339) (by decide +kernel)) rfl
abbrev M_X7_tell : MT := (yX7_tell, cX7_tell, 3, (some .int))
theorem m_X7_tell : MV M_X7_tell 1 := ⟨⟨Gw_in (List.mem_of_getElem? (i := 322) (by decide +kernel)) rfl, Gw_in (List.mem_of_getElem? (i := 75) (by decide +kernel)) rfl, by decide, by decide, by decide, by decide +kernel⟩, Gw_in (List.mem_of_getElem? (i := 321) (by decide +kernel)) rfl, Gw_in (List.mem_of_getElem? (i := 0) (by decide +kernel)) rfl⟩
theorem k_X7_79 : Cond.methodLink RX7 79 yX7_tell ∈ Gw := Gw_in (List.mem_of_getElem? (i := 319) (by decide +kernel)) rfl
abbrev M_X7_town : MT := (yX7_town, cX7_town, 2, (some .int))
theorem m_X7_town : MV M_X7_town 1 := ⟨⟨Gw_in (List.mem_of_getElem? (i := 318) (by decide +kernel)) rfl, Gw_in (List.mem_of_getElem? (i := 75) (by decide +kernel)) rfl, by decide, by decide, by decide, by decide +kernel⟩, Gw_in (List.mem_of_getElem? (i := 316) (by decide +kernel)) rfl, Gw_in (List.mem_of_getElem? (i := 317) (by decide +kernel)) rfl⟩
abbrev M_X7_street : MT := (yX7_street, cX7_street, 5, (some .int))
theorem m_X7_street : MV M_X7_street 4 := ⟨⟨Gw_in (List.mem_of_getElem? (i := 399) (by decide +kernel)) rfl, Gw_in (List.mem_of_getElem? (i := 75) (by decide +kernel)) rfl, by decide, by decide, by decide, by decide +kernel⟩, Gw_in (List.mem_of_getElem? (i := 397) (by decide +kernel)) rfl, Gw_in (List.mem_of_getElem? (i := 398) (by decide +kernel)) rfl⟩
abbrev M_X7_event : MT := (yX7_event, cX7_event, 7, (some .int))
theorem m_X7_event : MV M_X7_event 6 := ⟨⟨Gw_in (List.mem_of_getElem? (i := 403) (by decide +kernel)) rfl, Gw_in (List.mem_of_getElem? (i := 75) (by decide +kernel)) rfl, by decide, by decide, by decide, by decide +kernel⟩, Gw_in (List.mem_of_getElem? (i := 401) (by decide +kernel)) rfl, Gw_in (List.mem_of_getElem? (i := 402) (by decide +kernel)) rfl⟩
theorem l_X7_83 : FLN RX7 83 RX5 TX5 8 1 := ⟨by decide, rfl, List.mem_filter.mpr ⟨List.mem_of_getElem? (i := 54) (by decide +kernel), rfl⟩⟩
theorem k_X7_87 : Cond.methodLink RX7 87 yX2_size ∈ Gw := Gw_in (List.mem_of_getElem? (i := 408) (by decide +kernel)) rfl
theorem k_X7_100 : Cond.methodLink RX7 100 yX5_dropEvent ∈ Gw := Gw_in (List.mem_of_getElem? (i := 410) (by decide +kernel)) rfl
abbrev M_X7_back : MT := (yX7_back, cX7_back, 2, (some .int))
theorem m_X7_back : MV M_X7_back 1 := ⟨⟨Gw_in (List.mem_of_getElem? (i := 407) (by decide +kernel)) rfl, Gw_in (List.mem_of_getElem? (i := 75) (by decide +kernel)) rfl, by decide, by decide, by decide, by decide +kernel⟩, Gw_in (List.mem_of_getElem? (i := 405) (by decide +kernel)) rfl, Gw_in (List.mem_of_getElem? (i := 406) (by decide +kernel)) rfl⟩
theorem l_X7_104 : Cond.fieldLink RX7 104 "LastHappened" (tabN 1) "[I" ∈ Gw := Gw_in (by decide +kernel) rfl
theorem k_X7_107 : Cond.methodLink RX7 107 yX5_changeLaw ∈ Gw := Gw_in (List.mem_of_getElem? (i := 419) (by decide +kernel)) rfl
abbrev M_X7_law : MT := (yX7_law, cX7_law, 2, (some .int))
theorem m_X7_law : MV M_X7_law 1 := ⟨⟨Gw_in (List.mem_of_getElem? (i := 417) (by decide +kernel)) rfl, Gw_in (List.mem_of_getElem? (i := 75) (by decide +kernel)) rfl, by decide, by decide, by decide, by decide +kernel⟩, Gw_in (List.mem_of_getElem? (i := 415) (by decide +kernel)) rfl, Gw_in (List.mem_of_getElem? (i := 416) (by decide +kernel)) rfl⟩
theorem l_X7_73 : FL RX7 73 RX7 TX7 14 12 := ⟨by decide, rfl, Gw_in (List.mem_of_getElem? (i := 284) (by decide +kernel)) rfl⟩
theorem p_X7_12 : PF TX7 12 := ⟨rfl, by decide +kernel⟩
abbrev M_X7_refuseNo : MT := (yX7_refuseNo, cX7_refuseNo, 1, (some .int))
theorem m_X7_refuseNo : MV M_X7_refuseNo 0 := ⟨⟨Gw_in (List.mem_of_getElem? (i := 430) (by decide +kernel)) rfl, Gw_in (List.mem_of_getElem? (i := 75) (by decide +kernel)) rfl, by decide, by decide, by decide, by decide +kernel⟩, Gw_in (List.mem_of_getElem? (i := 429) (by decide +kernel)) rfl, Gw_in (List.mem_of_getElem? (i := 6) (by decide +kernel)) rfl⟩
theorem l_X7_110 : FLN RX7 110 RX5 TX5 8 3 := ⟨by decide, rfl, List.mem_filter.mpr ⟨List.mem_of_getElem? (i := 59) (by decide +kernel), rfl⟩⟩
theorem k_X7_116 : Cond.methodLink RX7 116 yX5_goBack ∈ Gw := Gw_in (List.mem_of_getElem? (i := 431) (by decide +kernel)) rfl
theorem k_X7_113 : Cond.methodLink RX7 113 yX7_refuseNo ∈ Gw := Gw_in (List.mem_of_getElem? (i := 427) (by decide +kernel)) rfl
abbrev M_X7_undo : MT := (yX7_undo, cX7_undo, 1, (some .int))
theorem m_X7_undo : MV M_X7_undo 0 := ⟨⟨Gw_in (List.mem_of_getElem? (i := 426) (by decide +kernel)) rfl, Gw_in (List.mem_of_getElem? (i := 75) (by decide +kernel)) rfl, by decide, by decide, by decide, by decide +kernel⟩, Gw_in (List.mem_of_getElem? (i := 424) (by decide +kernel)) rfl, Gw_in (List.mem_of_getElem? (i := 425) (by decide +kernel)) rfl⟩
abbrev M_X7_rent : MT := (yX7_rent, cX7_rent, 3, (some .int))
theorem m_X7_rent : MV M_X7_rent 2 := ⟨⟨Gw_in (List.mem_of_getElem? (i := 438) (by decide +kernel)) rfl, Gw_in (List.mem_of_getElem? (i := 75) (by decide +kernel)) rfl, by decide, by decide, by decide, by decide +kernel⟩, Gw_in (List.mem_of_getElem? (i := 436) (by decide +kernel)) rfl, Gw_in (List.mem_of_getElem? (i := 437) (by decide +kernel)) rfl⟩
theorem l_X7_28 : FL RX7 28 RX7 TX7 14 4 := ⟨by decide, rfl, Gw_in (List.mem_of_getElem? (i := 276) (by decide +kernel)) rfl⟩
theorem k_X7_119 : Cond.methodLink RX7 119 yX4_isFull ∈ Gw := Gw_in (List.mem_of_getElem? (i := 443) (by decide +kernel)) rfl
theorem k_X7_126 : Cond.methodLink RX7 126 yX4_add ∈ Gw := Gw_in (List.mem_of_getElem? (i := 447) (by decide +kernel)) rfl
theorem k_X7_129 : Cond.methodLink RX7 129 yX4_size ∈ Gw := Gw_in (List.mem_of_getElem? (i := 452) (by decide +kernel)) rfl
abbrev M_X7_type : MT := (yX7_type, cX7_type, 2, (some .int))
theorem m_X7_type : MV M_X7_type 1 := ⟨⟨Gw_in (List.mem_of_getElem? (i := 442) (by decide +kernel)) rfl, Gw_in (List.mem_of_getElem? (i := 75) (by decide +kernel)) rfl, by decide, by decide, by decide, by decide +kernel⟩, Gw_in (List.mem_of_getElem? (i := 440) (by decide +kernel)) rfl, Gw_in (List.mem_of_getElem? (i := 441) (by decide +kernel)) rfl⟩
theorem k_X7_130 : Cond.methodLink RX7 130 yX4_empty ∈ Gw := Gw_in (List.mem_of_getElem? (i := 460) (by decide +kernel)) rfl
abbrev M_X7_clear : MT := (yX7_clear, cX7_clear, 2, (some .int))
theorem m_X7_clear : MV M_X7_clear 0 := ⟨⟨Gw_in (List.mem_of_getElem? (i := 459) (by decide +kernel)) rfl, Gw_in (List.mem_of_getElem? (i := 75) (by decide +kernel)) rfl, by decide, by decide, by decide, by decide +kernel⟩, Gw_in (List.mem_of_getElem? (i := 457) (by decide +kernel)) rfl, Gw_in (List.mem_of_getElem? (i := 458) (by decide +kernel)) rfl⟩
theorem l_X7_16 : FL RX7 16 RX7 TX7 14 1 := ⟨by decide, rfl, Gw_in (List.mem_of_getElem? (i := 273) (by decide +kernel)) rfl⟩
theorem k_X7_133 : Cond.methodLink RX7 133 yX4_readInto ∈ Gw := Gw_in (List.mem_of_getElem? (i := 468) (by decide +kernel)) rfl
theorem k_X7_137 : Cond.methodLink RX7 137 yX5_copy ∈ Gw := Gw_in (List.mem_of_getElem? (i := 565) (by decide +kernel)) rfl
abbrev M_X7_read : MT := (yX7_read, cX7_read, 2, (some .int))
theorem m_X7_read : MV M_X7_read 0 := ⟨⟨Gw_in (List.mem_of_getElem? (i := 467) (by decide +kernel)) rfl, Gw_in (List.mem_of_getElem? (i := 75) (by decide +kernel)) rfl, by decide, by decide, by decide, by decide +kernel⟩, Gw_in (List.mem_of_getElem? (i := 465) (by decide +kernel)) rfl, Gw_in (List.mem_of_getElem? (i := 466) (by decide +kernel)) rfl⟩
theorem k_X7_141 : Cond.methodLink RX7 141 yX5_needed ∈ Gw := Gw_in (List.mem_of_getElem? (i := 579) (by decide +kernel)) rfl
theorem k_X7_144 : Cond.methodLink RX7 144 yX5_rankGiven ∈ Gw := Gw_in (List.mem_of_getElem? (i := 589) (by decide +kernel)) rfl
theorem k_X7_147 : Cond.methodLink RX7 147 yX5_hoursGiven ∈ Gw := Gw_in (List.mem_of_getElem? (i := 598) (by decide +kernel)) rfl
theorem k_X7_150 : Cond.methodLink RX7 150 yX5_streetsOf ∈ Gw := Gw_in (List.mem_of_getElem? (i := 604) (by decide +kernel)) rfl
theorem k_X7_153 : Cond.methodLink RX7 153 yX2_cell ∈ Gw := Gw_in (List.mem_of_getElem? (i := 612) (by decide +kernel)) rfl
abbrev M_X7_of : MT := (yX7_of, cX7_of, 3, (some .int))
theorem m_X7_of : MV M_X7_of 2 := ⟨⟨Gw_in (List.mem_of_getElem? (i := 578) (by decide +kernel)) rfl, Gw_in (List.mem_of_getElem? (i := 75) (by decide +kernel)) rfl, by decide, by decide, by decide, by decide +kernel⟩, Gw_in (List.mem_of_getElem? (i := 576) (by decide +kernel)) rfl, Gw_in (List.mem_of_getElem? (i := 577) (by decide +kernel)) rfl⟩
theorem l_X7_214 : FLN RX7 214 RX5 TX5 8 0 := ⟨by decide, rfl, List.mem_filter.mpr ⟨List.mem_of_getElem? (i := 50) (by decide +kernel), rfl⟩⟩
abbrev M_X7_isStreet : MT := (yX7_isStreet, cX7_isStreet, 2, (some .boolean))
theorem m_X7_isStreet : MV M_X7_isStreet 1 := ⟨⟨Gw_in (List.mem_of_getElem? (i := 620) (by decide +kernel)) rfl, Gw_in (List.mem_of_getElem? (i := 75) (by decide +kernel)) rfl, by decide, by decide, by decide, by decide +kernel⟩, Gw_in (List.mem_of_getElem? (i := 619) (by decide +kernel)) rfl, Gw_in (List.mem_of_getElem? (i := 17) (by decide +kernel)) rfl⟩
theorem k_X7_157 : Cond.methodLink RX7 157 yX7_isStreet ∈ Gw := Gw_in (List.mem_of_getElem? (i := 617) (by decide +kernel)) rfl
theorem k_X7_161 : Cond.methodLink RX7 161 yX7_isHour ∈ Gw := Gw_in (List.mem_of_getElem? (i := 621) (by decide +kernel)) rfl
theorem l_X7_44 : FL RX7 44 RX7 TX7 14 6 := ⟨by decide, rfl, Gw_in (List.mem_of_getElem? (i := 278) (by decide +kernel)) rfl⟩
theorem k_X7_164 : Cond.methodLink RX7 164 yX1_write ∈ Gw := Gw_in (List.mem_of_getElem? (i := 624) (by decide +kernel)) rfl
theorem k_X7_167 : Cond.methodLink RX7 167 yX1_at ∈ Gw := Gw_in (List.mem_of_getElem? (i := 688) (by decide +kernel)) rfl
abbrev M_X7_name : MT := (yX7_name, cX7_name, 3, (some .int))
theorem m_X7_name : MV M_X7_name 2 := ⟨⟨Gw_in (List.mem_of_getElem? (i := 616) (by decide +kernel)) rfl, Gw_in (List.mem_of_getElem? (i := 75) (by decide +kernel)) rfl, by decide, by decide, by decide, by decide +kernel⟩, Gw_in (List.mem_of_getElem? (i := 614) (by decide +kernel)) rfl, Gw_in (List.mem_of_getElem? (i := 615) (by decide +kernel)) rfl⟩
theorem l_X7_35 : FL RX7 35 RX7 TX7 14 5 := ⟨by decide, rfl, Gw_in (List.mem_of_getElem? (i := 277) (by decide +kernel)) rfl⟩
theorem k_X7_170 : Cond.methodLink RX7 170 yX0_plan ∈ Gw := Gw_in (List.mem_of_getElem? (i := 698) (by decide +kernel)) rfl
theorem k_X7_173 : Cond.methodLink RX7 173 yX0_renamings ∈ Gw := Gw_in (List.mem_of_getElem? (i := 699) (by decide +kernel)) rfl
abbrev M_X7_changes : MT := (yX7_changes, cX7_changes, 2, (some .int))
theorem m_X7_changes : MV M_X7_changes 1 := ⟨⟨Gw_in (List.mem_of_getElem? (i := 697) (by decide +kernel)) rfl, Gw_in (List.mem_of_getElem? (i := 75) (by decide +kernel)) rfl, by decide, by decide, by decide, by decide +kernel⟩, Gw_in (List.mem_of_getElem? (i := 695) (by decide +kernel)) rfl, Gw_in (List.mem_of_getElem? (i := 696) (by decide +kernel)) rfl⟩
theorem k_X7_176 : Cond.methodLink RX7 176 yX1_having ∈ Gw := Gw_in (List.mem_of_getElem? (i := 711) (by decide +kernel)) rfl
abbrev M_X7_which : MT := (yX7_which, cX7_which, 6, (some .int))
theorem m_X7_which : MV M_X7_which 3 := ⟨⟨Gw_in (List.mem_of_getElem? (i := 710) (by decide +kernel)) rfl, Gw_in (List.mem_of_getElem? (i := 75) (by decide +kernel)) rfl, by decide, by decide, by decide, by decide +kernel⟩, Gw_in (List.mem_of_getElem? (i := 708) (by decide +kernel)) rfl, Gw_in (List.mem_of_getElem? (i := 709) (by decide +kernel)) rfl⟩
theorem k_X7_179 : Cond.methodLink RX7 179 yX1_firstHaving ∈ Gw := Gw_in (List.mem_of_getElem? (i := 720) (by decide +kernel)) rfl
abbrev M_X7_letter : MT := (yX7_letter, cX7_letter, 5, (some .int))
theorem m_X7_letter : MV M_X7_letter 3 := ⟨⟨Gw_in (List.mem_of_getElem? (i := 719) (by decide +kernel)) rfl, Gw_in (List.mem_of_getElem? (i := 75) (by decide +kernel)) rfl, by decide, by decide, by decide, by decide +kernel⟩, Gw_in (List.mem_of_getElem? (i := 717) (by decide +kernel)) rfl, Gw_in (List.mem_of_getElem? (i := 718) (by decide +kernel)) rfl⟩
theorem k_X7_182 : MMW RX7 182 Lib.Math.max.name Lib.Math.max.code := ⟨Gw_in (by decide +kernel) rfl, Gw_in (by decide +kernel) rfl, Gw_in (by decide +kernel) rfl, Gw_in (by decide +kernel) rfl⟩
abbrev M_X7_cab : MT := (yX7_cab, cX7_cab, 4, (some .int))
theorem m_X7_cab : MV M_X7_cab 3 := ⟨⟨Gw_in (List.mem_of_getElem? (i := 727) (by decide +kernel)) rfl, Gw_in (List.mem_of_getElem? (i := 75) (by decide +kernel)) rfl, by decide, by decide, by decide, by decide +kernel⟩, Gw_in (List.mem_of_getElem? (i := 725) (by decide +kernel)) rfl, Gw_in (List.mem_of_getElem? (i := 726) (by decide +kernel)) rfl⟩
abbrev M_X7_areStreets : MT := (yX7_areStreets, cX7_areStreets, 2, (some .boolean))
theorem m_X7_areStreets : MV M_X7_areStreets 1 := ⟨⟨Gw_in (List.mem_of_getElem? (i := 738) (by decide +kernel)) rfl, Gw_in (List.mem_of_getElem? (i := 75) (by decide +kernel)) rfl, by decide, by decide, by decide, by decide +kernel⟩, Gw_in (List.mem_of_getElem? (i := 737) (by decide +kernel)) rfl, Gw_in (List.mem_of_getElem? (i := 25) (by decide +kernel)) rfl⟩
theorem k_X7_187 : Cond.methodLink RX7 187 yX7_areStreets ∈ Gw := Gw_in (List.mem_of_getElem? (i := 735) (by decide +kernel)) rfl
theorem k_X7_190 : Cond.methodLink RX7 190 yX1_mostAlike ∈ Gw := Gw_in (List.mem_of_getElem? (i := 739) (by decide +kernel)) rfl
abbrev M_X7_find : MT := (yX7_find, cX7_find, 5, (some .int))
theorem m_X7_find : MV M_X7_find 2 := ⟨⟨Gw_in (List.mem_of_getElem? (i := 734) (by decide +kernel)) rfl, Gw_in (List.mem_of_getElem? (i := 75) (by decide +kernel)) rfl, by decide, by decide, by decide, by decide +kernel⟩, Gw_in (List.mem_of_getElem? (i := 732) (by decide +kernel)) rfl, Gw_in (List.mem_of_getElem? (i := 733) (by decide +kernel)) rfl⟩
theorem l_X7_51 : FL RX7 51 RX7 TX7 14 7 := ⟨by decide, rfl, Gw_in (List.mem_of_getElem? (i := 279) (by decide +kernel)) rfl⟩
theorem k_X7_193 : Cond.methodLink RX7 193 yX3_fewestStaged ∈ Gw := Gw_in (List.mem_of_getElem? (i := 756) (by decide +kernel)) rfl
theorem k_X7_197 : Cond.methodLink RX7 197 yX3_hourStaged ∈ Gw := Gw_in (List.mem_of_getElem? (i := 779) (by decide +kernel)) rfl
abbrev M_X7_stage : MT := (yX7_stage, cX7_stage, 6, (some .int))
theorem m_X7_stage : MV M_X7_stage 4 := ⟨⟨Gw_in (List.mem_of_getElem? (i := 755) (by decide +kernel)) rfl, Gw_in (List.mem_of_getElem? (i := 75) (by decide +kernel)) rfl, by decide, by decide, by decide, by decide +kernel⟩, Gw_in (List.mem_of_getElem? (i := 753) (by decide +kernel)) rfl, Gw_in (List.mem_of_getElem? (i := 754) (by decide +kernel)) rfl⟩
theorem k_X7_200 : Cond.methodLink RX7 200 yX3_fewestForbidden ∈ Gw := Gw_in (List.mem_of_getElem? (i := 787) (by decide +kernel)) rfl
abbrev M_X7_forbid : MT := (yX7_forbid, cX7_forbid, 2, (some .int))
theorem m_X7_forbid : MV M_X7_forbid 1 := ⟨⟨Gw_in (List.mem_of_getElem? (i := 786) (by decide +kernel)) rfl, Gw_in (List.mem_of_getElem? (i := 75) (by decide +kernel)) rfl, by decide, by decide, by decide, by decide +kernel⟩, Gw_in (List.mem_of_getElem? (i := 784) (by decide +kernel)) rfl, Gw_in (List.mem_of_getElem? (i := 785) (by decide +kernel)) rfl⟩
theorem k_X7_204 : Cond.methodLink RX7 204 yX0_rentOf ∈ Gw := Gw_in (List.mem_of_getElem? (i := 801) (by decide +kernel)) rfl
abbrev M_X7_rents : MT := (yX7_rents, cX7_rents, 2, (some .int))
theorem m_X7_rents : MV M_X7_rents 1 := ⟨⟨Gw_in (List.mem_of_getElem? (i := 800) (by decide +kernel)) rfl, Gw_in (List.mem_of_getElem? (i := 75) (by decide +kernel)) rfl, by decide, by decide, by decide, by decide +kernel⟩, Gw_in (List.mem_of_getElem? (i := 798) (by decide +kernel)) rfl, Gw_in (List.mem_of_getElem? (i := 799) (by decide +kernel)) rfl⟩
theorem k_X7_207 : Cond.methodLink RX7 207 yX3_weighPairs ∈ Gw := Gw_in (List.mem_of_getElem? (i := 813) (by decide +kernel)) rfl
theorem k_X7_211 : Cond.methodLink RX7 211 yX3_pairsThatRest ∈ Gw := Gw_in (List.mem_of_getElem? (i := 823) (by decide +kernel)) rfl
abbrev M_X7_landlords : MT := (yX7_landlords, cX7_landlords, 5, (some .int))
theorem m_X7_landlords : MV M_X7_landlords 4 := ⟨⟨Gw_in (List.mem_of_getElem? (i := 812) (by decide +kernel)) rfl, Gw_in (List.mem_of_getElem? (i := 75) (by decide +kernel)) rfl, by decide, by decide, by decide, by decide +kernel⟩, Gw_in (List.mem_of_getElem? (i := 810) (by decide +kernel)) rfl, Gw_in (List.mem_of_getElem? (i := 811) (by decide +kernel)) rfl⟩
theorem l_X7_58 : FL RX7 58 RX7 TX7 14 8 := ⟨by decide, rfl, Gw_in (List.mem_of_getElem? (i := 280) (by decide +kernel)) rfl⟩
theorem k_X7_217 : Cond.methodLink RX7 217 yX6_shortest ∈ Gw := Gw_in (List.mem_of_getElem? (i := 831) (by decide +kernel)) rfl
abbrev M_X7_round : MT := (yX7_round, cX7_round, 3, (some .int))
theorem m_X7_round : MV M_X7_round 2 := ⟨⟨Gw_in (List.mem_of_getElem? (i := 830) (by decide +kernel)) rfl, Gw_in (List.mem_of_getElem? (i := 75) (by decide +kernel)) rfl, by decide, by decide, by decide, by decide +kernel⟩, Gw_in (List.mem_of_getElem? (i := 828) (by decide +kernel)) rfl, Gw_in (List.mem_of_getElem? (i := 829) (by decide +kernel)) rfl⟩
theorem l_X7_221 : FLN RX7 221 RX5 TX5 8 2 := ⟨by decide, rfl, List.mem_filter.mpr ⟨List.mem_of_getElem? (i := 57) (by decide +kernel), rfl⟩⟩
theorem k_X7_224 : Cond.methodLink RX7 224 yX2_isFull ∈ Gw := Gw_in (List.mem_of_getElem? (i := 867) (by decide +kernel)) rfl
theorem k_X7_225 : Cond.methodLink RX7 225 yX2_add ∈ Gw := Gw_in (List.mem_of_getElem? (i := 868) (by decide +kernel)) rfl
abbrev M_X7_reading : MT := (yX7_reading, cX7_reading, 4, (some .int))
theorem m_X7_reading : MV M_X7_reading 3 := ⟨⟨Gw_in (List.mem_of_getElem? (i := 866) (by decide +kernel)) rfl, Gw_in (List.mem_of_getElem? (i := 75) (by decide +kernel)) rfl, by decide, by decide, by decide, by decide +kernel⟩, Gw_in (List.mem_of_getElem? (i := 864) (by decide +kernel)) rfl, Gw_in (List.mem_of_getElem? (i := 865) (by decide +kernel)) rfl⟩
theorem k_X7_228 : Cond.methodLink RX7 228 yX2_empty ∈ Gw := Gw_in (List.mem_of_getElem? (i := 873) (by decide +kernel)) rfl
abbrev M_X7_burn : MT := (yX7_burn, cX7_burn, 2, (some .int))
theorem m_X7_burn : MV M_X7_burn 0 := ⟨⟨Gw_in (List.mem_of_getElem? (i := 872) (by decide +kernel)) rfl, Gw_in (List.mem_of_getElem? (i := 75) (by decide +kernel)) rfl, by decide, by decide, by decide, by decide +kernel⟩, Gw_in (List.mem_of_getElem? (i := 870) (by decide +kernel)) rfl, Gw_in (List.mem_of_getElem? (i := 871) (by decide +kernel)) rfl⟩
theorem k_X7_229 : Cond.methodLink RX7 229 yX3_trueSets ∈ Gw := Gw_in (List.mem_of_getElem? (i := 878) (by decide +kernel)) rfl
theorem k_X7_232 : Cond.methodLink RX7 232 yX3_inAllTrueSets ∈ Gw := Gw_in (List.mem_of_getElem? (i := 887) (by decide +kernel)) rfl
abbrev M_X7_truly : MT := (yX7_truly, cX7_truly, 3, (some .int))
theorem m_X7_truly : MV M_X7_truly 1 := ⟨⟨Gw_in (List.mem_of_getElem? (i := 877) (by decide +kernel)) rfl, Gw_in (List.mem_of_getElem? (i := 75) (by decide +kernel)) rfl, by decide, by decide, by decide, by decide +kernel⟩, Gw_in (List.mem_of_getElem? (i := 875) (by decide +kernel)) rfl, Gw_in (List.mem_of_getElem? (i := 876) (by decide +kernel)) rfl⟩
theorem t_X7_235 : Cond.constant RX7 235 (1000000 : Int32) ∈ Gw := Gw_in (List.mem_of_getElem? (i := 895) (by decide +kernel)) rfl
theorem k_X7_236 : Cond.methodLink RX7 236 yX3_renamingsOfDays ∈ Gw := Gw_in (List.mem_of_getElem? (i := 896) (by decide +kernel)) rfl
abbrev M_X7_drawn : MT := (yX7_drawn, cX7_drawn, 4, (some .int))
theorem m_X7_drawn : MV M_X7_drawn 3 := ⟨⟨Gw_in (List.mem_of_getElem? (i := 894) (by decide +kernel)) rfl, Gw_in (List.mem_of_getElem? (i := 75) (by decide +kernel)) rfl, by decide, by decide, by decide, by decide +kernel⟩, Gw_in (List.mem_of_getElem? (i := 892) (by decide +kernel)) rfl, Gw_in (List.mem_of_getElem? (i := 893) (by decide +kernel)) rfl⟩
theorem l_X7_22 : FL RX7 22 RX7 TX7 14 3 := ⟨by decide, rfl, Gw_in (List.mem_of_getElem? (i := 275) (by decide +kernel)) rfl⟩
theorem l_X7_19 : FL RX7 19 RX7 TX7 14 2 := ⟨by decide, rfl, Gw_in (List.mem_of_getElem? (i := 274) (by decide +kernel)) rfl⟩
abbrev M_X7_imageOf : MT := (yX7_imageOf, cX7_imageOf, 2, (some (.object "LastHappened$Town")))
theorem m_X7_imageOf : MV M_X7_imageOf 1 := ⟨⟨Gw_in (List.mem_of_getElem? (i := 914) (by decide +kernel)) rfl, Gw_in (List.mem_of_getElem? (i := 75) (by decide +kernel)) rfl, by decide, by decide, by decide, by decide +kernel⟩, Gw_in (List.mem_of_getElem? (i := 913) (by decide +kernel)) rfl, Gw_in (List.mem_of_getElem? (i := 33) (by decide +kernel)) rfl⟩
theorem k_X7_240 : Cond.methodLink RX7 240 yX7_imageOf ∈ Gw := Gw_in (List.mem_of_getElem? (i := 911) (by decide +kernel)) rfl
theorem l_X7_66 : FL RX7 66 RX7 TX7 14 10 := ⟨by decide, rfl, Gw_in (List.mem_of_getElem? (i := 282) (by decide +kernel)) rfl⟩
theorem p_X7_10 : PF TX7 10 := ⟨rfl, by decide +kernel⟩
abbrev M_X7_image : MT := (yX7_image, cX7_image, 2, (some .int))
theorem m_X7_image : MV M_X7_image 1 := ⟨⟨Gw_in (List.mem_of_getElem? (i := 910) (by decide +kernel)) rfl, Gw_in (List.mem_of_getElem? (i := 75) (by decide +kernel)) rfl, by decide, by decide, by decide, by decide +kernel⟩, Gw_in (List.mem_of_getElem? (i := 908) (by decide +kernel)) rfl, Gw_in (List.mem_of_getElem? (i := 909) (by decide +kernel)) rfl⟩
theorem k_X7_244 : Cond.methodLink RX7 244 yX7_holds ∈ Gw := Gw_in (List.mem_of_getElem? (i := 919) (by decide +kernel)) rfl
abbrev M_X7_from : MT := (yX7_from, cX7_from, 2, (some .int))
theorem m_X7_from : MV M_X7_from 1 := ⟨⟨Gw_in (List.mem_of_getElem? (i := 918) (by decide +kernel)) rfl, Gw_in (List.mem_of_getElem? (i := 75) (by decide +kernel)) rfl, by decide, by decide, by decide, by decide +kernel⟩, Gw_in (List.mem_of_getElem? (i := 916) (by decide +kernel)) rfl, Gw_in (List.mem_of_getElem? (i := 917) (by decide +kernel)) rfl⟩
abbrev M_X7_status : MT := (yX7_status, cX7_status, 2, (some .int))
theorem m_X7_status : MV M_X7_status 1 := ⟨⟨Gw_in (List.mem_of_getElem? (i := 923) (by decide +kernel)) rfl, Gw_in (List.mem_of_getElem? (i := 75) (by decide +kernel)) rfl, by decide, by decide, by decide, by decide +kernel⟩, Gw_in (List.mem_of_getElem? (i := 921) (by decide +kernel)) rfl, Gw_in (List.mem_of_getElem? (i := 922) (by decide +kernel)) rfl⟩
theorem l_X7_272 : FLN RX7 272 RX5 TX5 8 7 := ⟨by decide, rfl, List.mem_filter.mpr ⟨List.mem_of_getElem? (i := 65) (by decide +kernel), rfl⟩⟩
abbrev M_X7_countOf : MT := (yX7_countOf, cX7_countOf, 2, (some .int))
theorem m_X7_countOf : MV M_X7_countOf 1 := ⟨⟨Gw_in (List.mem_of_getElem? (i := 931) (by decide +kernel)) rfl, Gw_in (List.mem_of_getElem? (i := 75) (by decide +kernel)) rfl, by decide, by decide, by decide, by decide +kernel⟩, Gw_in (List.mem_of_getElem? (i := 930) (by decide +kernel)) rfl, Gw_in (List.mem_of_getElem? (i := 34) (by decide +kernel)) rfl⟩
theorem k_X7_247 : Cond.methodLink RX7 247 yX7_countOf ∈ Gw := Gw_in (List.mem_of_getElem? (i := 928) (by decide +kernel)) rfl
abbrev M_X7_count : MT := (yX7_count, cX7_count, 2, (some .int))
theorem m_X7_count : MV M_X7_count 1 := ⟨⟨Gw_in (List.mem_of_getElem? (i := 927) (by decide +kernel)) rfl, Gw_in (List.mem_of_getElem? (i := 75) (by decide +kernel)) rfl, by decide, by decide, by decide, by decide +kernel⟩, Gw_in (List.mem_of_getElem? (i := 925) (by decide +kernel)) rfl, Gw_in (List.mem_of_getElem? (i := 926) (by decide +kernel)) rfl⟩
theorem t_X7_250 : Cond.constantLong RX7 250 (911 : Int64) ∈ Gw := Gw_in (List.mem_of_getElem? (i := 936) (by decide +kernel)) rfl
theorem k_X7_254 : Cond.methodLink RX7 254 yX5_mixInto ∈ Gw := Gw_in (List.mem_of_getElem? (i := 938) (by decide +kernel)) rfl
theorem t_X7_252 : Cond.constantLong RX7 252 (31 : Int64) ∈ Gw := Gw_in (List.mem_of_getElem? (i := 937) (by decide +kernel)) rfl
abbrev M_X7_digest : MT := (yX7_digest, cX7_digest, 4, (some .long))
theorem m_X7_digest : MV M_X7_digest 0 := ⟨⟨Gw_in (List.mem_of_getElem? (i := 935) (by decide +kernel)) rfl, Gw_in (List.mem_of_getElem? (i := 75) (by decide +kernel)) rfl, by decide, by decide, by decide, by decide +kernel⟩, Gw_in (List.mem_of_getElem? (i := 933) (by decide +kernel)) rfl, Gw_in (List.mem_of_getElem? (i := 934) (by decide +kernel)) rfl⟩
abbrev M_X8_in : MT := (yX8_in, cX8_in, 6, (some .boolean))
theorem m_X8_in : MS M_X8_in 3 := ⟨⟨Gw_in (List.mem_of_getElem? (i := 1050) (by decide +kernel)) rfl, Gw_in (List.mem_of_getElem? (i := 83) (by decide +kernel)) rfl, by decide, by decide, by decide, by decide +kernel⟩, Gw_in (List.mem_of_getElem? (i := 1049) (by decide +kernel)) rfl⟩
theorem l_X8_20 : FL RX8 20 RX8 TX8 29 3 := ⟨by decide, rfl, Gw_in (List.mem_of_getElem? (i := 957) (by decide +kernel)) rfl⟩
abbrev M_X8_bad : MT := (yX8_bad, cX8_bad, 2, (some .int))
theorem m_X8_bad : MV M_X8_bad 1 := ⟨⟨Gw_in (List.mem_of_getElem? (i := 1054) (by decide +kernel)) rfl, Gw_in (List.mem_of_getElem? (i := 83) (by decide +kernel)) rfl, by decide, by decide, by decide, by decide +kernel⟩, Gw_in (List.mem_of_getElem? (i := 1053) (by decide +kernel)) rfl, Gw_in (List.mem_of_getElem? (i := 35) (by decide +kernel)) rfl⟩
abbrev M_X8_no : MT := (yX8_no, cX8_no, 1, (some .int))
theorem m_X8_no : MV M_X8_no 0 := ⟨⟨Gw_in (List.mem_of_getElem? (i := 1122) (by decide +kernel)) rfl, Gw_in (List.mem_of_getElem? (i := 83) (by decide +kernel)) rfl, by decide, by decide, by decide, by decide +kernel⟩, Gw_in (List.mem_of_getElem? (i := 1121) (by decide +kernel)) rfl, Gw_in (List.mem_of_getElem? (i := 42) (by decide +kernel)) rfl⟩
abbrev M_X8_full : MT := (yX8_full, cX8_full, 1, (some .int))
theorem m_X8_full : MV M_X8_full 0 := ⟨⟨Gw_in (List.mem_of_getElem? (i := 1075) (by decide +kernel)) rfl, Gw_in (List.mem_of_getElem? (i := 83) (by decide +kernel)) rfl, by decide, by decide, by decide, by decide +kernel⟩, Gw_in (List.mem_of_getElem? (i := 1074) (by decide +kernel)) rfl, Gw_in (List.mem_of_getElem? (i := 37) (by decide +kernel)) rfl⟩
abbrev M_X8_bits : MT := (yX8_bits, cX8_bits, 3, (some .int))
theorem m_X8_bits : MS M_X8_bits 1 := ⟨⟨Gw_in (List.mem_of_getElem? (i := 1219) (by decide +kernel)) rfl, Gw_in (List.mem_of_getElem? (i := 83) (by decide +kernel)) rfl, by decide, by decide, by decide, by decide +kernel⟩, Gw_in (List.mem_of_getElem? (i := 1218) (by decide +kernel)) rfl⟩
abbrev M_X8_begin : MT := (yX8_begin, cX8_begin, 3, none)
theorem m_X8_begin : MS M_X8_begin 2 := ⟨⟨Gw_in (List.mem_of_getElem? (i := 1061) (by decide +kernel)) rfl, Gw_in (List.mem_of_getElem? (i := 83) (by decide +kernel)) rfl, by decide, by decide, by decide, by decide +kernel⟩, Gw_in (List.mem_of_getElem? (i := 1060) (by decide +kernel)) rfl⟩
theorem l_X8_7 : FL RX8 7 RX8 TX8 29 0 := ⟨by decide, rfl, Gw_in (List.mem_of_getElem? (i := 954) (by decide +kernel)) rfl⟩
abbrev M_X8_streets : MT := (yX8_streets, cX8_streets, 1, (some .int))
theorem m_X8_streets : MV M_X8_streets 0 := ⟨⟨Gw_in (List.mem_of_getElem? (i := 1058) (by decide +kernel)) rfl, Gw_in (List.mem_of_getElem? (i := 83) (by decide +kernel)) rfl, by decide, by decide, by decide, by decide +kernel⟩, Gw_in (List.mem_of_getElem? (i := 1057) (by decide +kernel)) rfl, Gw_in (List.mem_of_getElem? (i := 36) (by decide +kernel)) rfl⟩
abbrev M_X8_events : MT := (yX8_events, cX8_events, 1, (some .int))
theorem m_X8_events : MV M_X8_events 0 := ⟨⟨Gw_in (List.mem_of_getElem? (i := 1095) (by decide +kernel)) rfl, Gw_in (List.mem_of_getElem? (i := 83) (by decide +kernel)) rfl, by decide, by decide, by decide, by decide +kernel⟩, Gw_in (List.mem_of_getElem? (i := 1094) (by decide +kernel)) rfl, Gw_in (List.mem_of_getElem? (i := 39) (by decide +kernel)) rfl⟩
theorem k_X8_71 : Cond.methodLink RX8 71 yX8_streets ∈ Gw := Gw_in (List.mem_of_getElem? (i := 1055) (by decide +kernel)) rfl
theorem k_X8_75 : Cond.methodLink RX8 75 yX8_in ∈ Gw := Gw_in (List.mem_of_getElem? (i := 1048) (by decide +kernel)) rfl
abbrev M_X8_isStreet : MT := (yX8_isStreet, cX8_isStreet, 2, (some .boolean))
theorem m_X8_isStreet : MV M_X8_isStreet 1 := ⟨⟨Gw_in (List.mem_of_getElem? (i := 1087) (by decide +kernel)) rfl, Gw_in (List.mem_of_getElem? (i := 83) (by decide +kernel)) rfl, by decide, by decide, by decide, by decide +kernel⟩, Gw_in (List.mem_of_getElem? (i := 1086) (by decide +kernel)) rfl, Gw_in (List.mem_of_getElem? (i := 38) (by decide +kernel)) rfl⟩
theorem k_X8_79 : Cond.methodLink RX8 79 yX8_events ∈ Gw := Gw_in (List.mem_of_getElem? (i := 1092) (by decide +kernel)) rfl
abbrev M_X8_isEvent : MT := (yX8_isEvent, cX8_isEvent, 2, (some .boolean))
theorem m_X8_isEvent : MV M_X8_isEvent 1 := ⟨⟨Gw_in (List.mem_of_getElem? (i := 1110) (by decide +kernel)) rfl, Gw_in (List.mem_of_getElem? (i := 83) (by decide +kernel)) rfl, by decide, by decide, by decide, by decide +kernel⟩, Gw_in (List.mem_of_getElem? (i := 1109) (by decide +kernel)) rfl, Gw_in (List.mem_of_getElem? (i := 41) (by decide +kernel)) rfl⟩
theorem t_X8_82 : Cond.constantLong RX8 82 (23 : Int64) ∈ Gw := Gw_in (List.mem_of_getElem? (i := 1091) (by decide +kernel)) rfl
abbrev M_X8_isHour : MT := (yX8_isHour, cX8_isHour, 1, (some .boolean))
theorem m_X8_isHour : MS M_X8_isHour 1 := ⟨⟨Gw_in (List.mem_of_getElem? (i := 1090) (by decide +kernel)) rfl, Gw_in (List.mem_of_getElem? (i := 83) (by decide +kernel)) rfl, by decide, by decide, by decide, by decide +kernel⟩, Gw_in (List.mem_of_getElem? (i := 1089) (by decide +kernel)) rfl⟩
theorem t_X8_84 : Cond.constantLong RX8 84 (15 : Int64) ∈ Gw := Gw_in (List.mem_of_getElem? (i := 1071) (by decide +kernel)) rfl
abbrev M_X8_isWord : MT := (yX8_isWord, cX8_isWord, 1, (some .boolean))
theorem m_X8_isWord : MS M_X8_isWord 1 := ⟨⟨Gw_in (List.mem_of_getElem? (i := 1070) (by decide +kernel)) rfl, Gw_in (List.mem_of_getElem? (i := 83) (by decide +kernel)) rfl, by decide, by decide, by decide, by decide +kernel⟩, Gw_in (List.mem_of_getElem? (i := 1069) (by decide +kernel)) rfl⟩
abbrev M_X8_areStreets : MT := (yX8_areStreets, cX8_areStreets, 2, (some .boolean))
theorem m_X8_areStreets : MV M_X8_areStreets 1 := ⟨⟨Gw_in (List.mem_of_getElem? (i := 1215) (by decide +kernel)) rfl, Gw_in (List.mem_of_getElem? (i := 83) (by decide +kernel)) rfl, by decide, by decide, by decide, by decide +kernel⟩, Gw_in (List.mem_of_getElem? (i := 1214) (by decide +kernel)) rfl, Gw_in (List.mem_of_getElem? (i := 54) (by decide +kernel)) rfl⟩
abbrev M_X8_has : MT := (yX8_has, cX8_has, 3, (some .int))
theorem m_X8_has : MV M_X8_has 2 := ⟨⟨Gw_in (List.mem_of_getElem? (i := 1156) (by decide +kernel)) rfl, Gw_in (List.mem_of_getElem? (i := 83) (by decide +kernel)) rfl, by decide, by decide, by decide, by decide +kernel⟩, Gw_in (List.mem_of_getElem? (i := 1155) (by decide +kernel)) rfl, Gw_in (List.mem_of_getElem? (i := 46) (by decide +kernel)) rfl⟩
abbrev M_X8_told : MT := (yX8_told, cX8_told, 3, (some .int))
theorem m_X8_told : MV M_X8_told 2 := ⟨⟨Gw_in (List.mem_of_getElem? (i := 1135) (by decide +kernel)) rfl, Gw_in (List.mem_of_getElem? (i := 83) (by decide +kernel)) rfl, by decide, by decide, by decide, by decide +kernel⟩, Gw_in (List.mem_of_getElem? (i := 1134) (by decide +kernel)) rfl, Gw_in (List.mem_of_getElem? (i := 43) (by decide +kernel)) rfl⟩
theorem t_X8_86 : Cond.constantLong RX8 86 (2 : Int64) ∈ Gw := Gw_in (List.mem_of_getElem? (i := 1047) (by decide +kernel)) rfl
theorem k_X8_92 : Cond.methodLink RX8 92 yX8_begin ∈ Gw := Gw_in (List.mem_of_getElem? (i := 1059) (by decide +kernel)) rfl
theorem k_X8_88 : Cond.methodLink RX8 88 yX8_bad ∈ Gw := Gw_in (List.mem_of_getElem? (i := 1051) (by decide +kernel)) rfl
abbrev M_X8_town : MT := (yX8_town, cX8_town, 3, (some .int))
theorem m_X8_town : MV M_X8_town 1 := ⟨⟨Gw_in (List.mem_of_getElem? (i := 1046) (by decide +kernel)) rfl, Gw_in (List.mem_of_getElem? (i := 83) (by decide +kernel)) rfl, by decide, by decide, by decide, by decide +kernel⟩, Gw_in (List.mem_of_getElem? (i := 1044) (by decide +kernel)) rfl, Gw_in (List.mem_of_getElem? (i := 1045) (by decide +kernel)) rfl⟩
abbrev M_X8_layStreet : MT := (yX8_layStreet, cX8_layStreet, 6, none)
theorem m_X8_layStreet : MS M_X8_layStreet 5 := ⟨⟨Gw_in (List.mem_of_getElem? (i := 1078) (by decide +kernel)) rfl, Gw_in (List.mem_of_getElem? (i := 83) (by decide +kernel)) rfl, by decide, by decide, by decide, by decide +kernel⟩, Gw_in (List.mem_of_getElem? (i := 1077) (by decide +kernel)) rfl⟩
theorem t_X8_96 : Cond.constantLong RX8 96 (7 : Int64) ∈ Gw := Gw_in (List.mem_of_getElem? (i := 1066) (by decide +kernel)) rfl
theorem t_X8_98 : Cond.constantLong RX8 98 (9 : Int64) ∈ Gw := Gw_in (List.mem_of_getElem? (i := 1067) (by decide +kernel)) rfl
theorem k_X8_100 : Cond.methodLink RX8 100 yX8_isWord ∈ Gw := Gw_in (List.mem_of_getElem? (i := 1068) (by decide +kernel)) rfl
theorem k_X8_107 : Cond.methodLink RX8 107 yX8_layStreet ∈ Gw := Gw_in (List.mem_of_getElem? (i := 1076) (by decide +kernel)) rfl
theorem k_X8_104 : Cond.methodLink RX8 104 yX8_full ∈ Gw := Gw_in (List.mem_of_getElem? (i := 1072) (by decide +kernel)) rfl
abbrev M_X8_street : MT := (yX8_street, cX8_street, 5, (some .int))
theorem m_X8_street : MV M_X8_street 4 := ⟨⟨Gw_in (List.mem_of_getElem? (i := 1065) (by decide +kernel)) rfl, Gw_in (List.mem_of_getElem? (i := 83) (by decide +kernel)) rfl, by decide, by decide, by decide, by decide +kernel⟩, Gw_in (List.mem_of_getElem? (i := 1063) (by decide +kernel)) rfl, Gw_in (List.mem_of_getElem? (i := 1064) (by decide +kernel)) rfl⟩
abbrev M_X8_layEvent : MT := (yX8_layEvent, cX8_layEvent, 8, none)
theorem m_X8_layEvent : MS M_X8_layEvent 7 := ⟨⟨Gw_in (List.mem_of_getElem? (i := 1102) (by decide +kernel)) rfl, Gw_in (List.mem_of_getElem? (i := 83) (by decide +kernel)) rfl, by decide, by decide, by decide, by decide +kernel⟩, Gw_in (List.mem_of_getElem? (i := 1101) (by decide +kernel)) rfl⟩
abbrev M_X8_keep : MT := (yX8_keep, cX8_keep, 3, none)
theorem m_X8_keep : MV M_X8_keep 0 := ⟨⟨Gw_in (List.mem_of_getElem? (i := 1099) (by decide +kernel)) rfl, Gw_in (List.mem_of_getElem? (i := 83) (by decide +kernel)) rfl, by decide, by decide, by decide, by decide +kernel⟩, Gw_in (List.mem_of_getElem? (i := 1098) (by decide +kernel)) rfl, Gw_in (List.mem_of_getElem? (i := 40) (by decide +kernel)) rfl⟩
theorem t_X8_111 : Cond.constantLong RX8 111 (5 : Int64) ∈ Gw := Gw_in (List.mem_of_getElem? (i := 1083) (by decide +kernel)) rfl
theorem k_X8_119 : Cond.methodLink RX8 119 yX8_keep ∈ Gw := Gw_in (List.mem_of_getElem? (i := 1096) (by decide +kernel)) rfl
theorem k_X8_122 : Cond.methodLink RX8 122 yX8_layEvent ∈ Gw := Gw_in (List.mem_of_getElem? (i := 1100) (by decide +kernel)) rfl
theorem k_X8_113 : Cond.methodLink RX8 113 yX8_isStreet ∈ Gw := Gw_in (List.mem_of_getElem? (i := 1084) (by decide +kernel)) rfl
theorem k_X8_116 : Cond.methodLink RX8 116 yX8_isHour ∈ Gw := Gw_in (List.mem_of_getElem? (i := 1088) (by decide +kernel)) rfl
abbrev M_X8_event : MT := (yX8_event, cX8_event, 8, (some .int))
theorem m_X8_event : MV M_X8_event 6 := ⟨⟨Gw_in (List.mem_of_getElem? (i := 1082) (by decide +kernel)) rfl, Gw_in (List.mem_of_getElem? (i := 83) (by decide +kernel)) rfl, by decide, by decide, by decide, by decide +kernel⟩, Gw_in (List.mem_of_getElem? (i := 1080) (by decide +kernel)) rfl, Gw_in (List.mem_of_getElem? (i := 1081) (by decide +kernel)) rfl⟩
theorem k_X8_126 : Cond.methodLink RX8 126 yX8_isEvent ∈ Gw := Gw_in (List.mem_of_getElem? (i := 1107) (by decide +kernel)) rfl
abbrev M_X8_back : MT := (yX8_back, cX8_back, 3, (some .int))
theorem m_X8_back : MV M_X8_back 1 := ⟨⟨Gw_in (List.mem_of_getElem? (i := 1106) (by decide +kernel)) rfl, Gw_in (List.mem_of_getElem? (i := 83) (by decide +kernel)) rfl, by decide, by decide, by decide, by decide +kernel⟩, Gw_in (List.mem_of_getElem? (i := 1104) (by decide +kernel)) rfl, Gw_in (List.mem_of_getElem? (i := 1105) (by decide +kernel)) rfl⟩
abbrev M_X8_law : MT := (yX8_law, cX8_law, 3, (some .int))
theorem m_X8_law : MV M_X8_law 1 := ⟨⟨Gw_in (List.mem_of_getElem? (i := 1114) (by decide +kernel)) rfl, Gw_in (List.mem_of_getElem? (i := 83) (by decide +kernel)) rfl, by decide, by decide, by decide, by decide +kernel⟩, Gw_in (List.mem_of_getElem? (i := 1112) (by decide +kernel)) rfl, Gw_in (List.mem_of_getElem? (i := 1113) (by decide +kernel)) rfl⟩
theorem k_X8_129 : Cond.methodLink RX8 129 yX8_no ∈ Gw := Gw_in (List.mem_of_getElem? (i := 1119) (by decide +kernel)) rfl
abbrev M_X8_undo : MT := (yX8_undo, cX8_undo, 3, (some .int))
theorem m_X8_undo : MV M_X8_undo 0 := ⟨⟨Gw_in (List.mem_of_getElem? (i := 1118) (by decide +kernel)) rfl, Gw_in (List.mem_of_getElem? (i := 83) (by decide +kernel)) rfl, by decide, by decide, by decide, by decide +kernel⟩, Gw_in (List.mem_of_getElem? (i := 1116) (by decide +kernel)) rfl, Gw_in (List.mem_of_getElem? (i := 1117) (by decide +kernel)) rfl⟩
theorem t_X8_132 : Cond.constantLong RX8 132 (99 : Int64) ∈ Gw := Gw_in (List.mem_of_getElem? (i := 1127) (by decide +kernel)) rfl
abbrev M_X8_rent : MT := (yX8_rent, cX8_rent, 4, (some .int))
theorem m_X8_rent : MV M_X8_rent 2 := ⟨⟨Gw_in (List.mem_of_getElem? (i := 1126) (by decide +kernel)) rfl, Gw_in (List.mem_of_getElem? (i := 83) (by decide +kernel)) rfl, by decide, by decide, by decide, by decide +kernel⟩, Gw_in (List.mem_of_getElem? (i := 1124) (by decide +kernel)) rfl, Gw_in (List.mem_of_getElem? (i := 1125) (by decide +kernel)) rfl⟩
abbrev M_X8_mustSee : MT := (yX8_mustSee, cX8_mustSee, 1, (some .int))
theorem m_X8_mustSee : MS M_X8_mustSee 1 := ⟨⟨Gw_in (List.mem_of_getElem? (i := 1138) (by decide +kernel)) rfl, Gw_in (List.mem_of_getElem? (i := 83) (by decide +kernel)) rfl, by decide, by decide, by decide, by decide +kernel⟩, Gw_in (List.mem_of_getElem? (i := 1137) (by decide +kernel)) rfl⟩
abbrev M_X8_rankOf : MT := (yX8_rankOf, cX8_rankOf, 2, (some .int))
theorem m_X8_rankOf : MS M_X8_rankOf 2 := ⟨⟨Gw_in (List.mem_of_getElem? (i := 1141) (by decide +kernel)) rfl, Gw_in (List.mem_of_getElem? (i := 83) (by decide +kernel)) rfl, by decide, by decide, by decide, by decide +kernel⟩, Gw_in (List.mem_of_getElem? (i := 1140) (by decide +kernel)) rfl⟩
abbrev M_X8_standsFor : MT := (yX8_standsFor, cX8_standsFor, 1, (some .int))
theorem m_X8_standsFor : MS M_X8_standsFor 1 := ⟨⟨Gw_in (List.mem_of_getElem? (i := 1144) (by decide +kernel)) rfl, Gw_in (List.mem_of_getElem? (i := 83) (by decide +kernel)) rfl, by decide, by decide, by decide, by decide +kernel⟩, Gw_in (List.mem_of_getElem? (i := 1143) (by decide +kernel)) rfl⟩
theorem k_X8_134 : Cond.methodLink RX8 134 yX8_has ∈ Gw := Gw_in (List.mem_of_getElem? (i := 1153) (by decide +kernel)) rfl
abbrev M_X8_meet : MT := (yX8_meet, cX8_meet, 3, (some .boolean))
theorem m_X8_meet : MV M_X8_meet 2 := ⟨⟨Gw_in (List.mem_of_getElem? (i := 1152) (by decide +kernel)) rfl, Gw_in (List.mem_of_getElem? (i := 83) (by decide +kernel)) rfl, by decide, by decide, by decide, by decide +kernel⟩, Gw_in (List.mem_of_getElem? (i := 1151) (by decide +kernel)) rfl, Gw_in (List.mem_of_getElem? (i := 45) (by decide +kernel)) rfl⟩
theorem k_X8_138 : Cond.methodLink RX8 138 yX8_meet ∈ Gw := Gw_in (List.mem_of_getElem? (i := 1149) (by decide +kernel)) rfl
abbrev M_X8_happensIn : MT := (yX8_happensIn, cX8_happensIn, 5, (some .int))
theorem m_X8_happensIn : MV M_X8_happensIn 2 := ⟨⟨Gw_in (List.mem_of_getElem? (i := 1148) (by decide +kernel)) rfl, Gw_in (List.mem_of_getElem? (i := 83) (by decide +kernel)) rfl, by decide, by decide, by decide, by decide +kernel⟩, Gw_in (List.mem_of_getElem? (i := 1147) (by decide +kernel)) rfl, Gw_in (List.mem_of_getElem? (i := 44) (by decide +kernel)) rfl⟩
theorem k_X8_142 : Cond.methodLink RX8 142 yX8_told ∈ Gw := Gw_in (List.mem_of_getElem? (i := 1132) (by decide +kernel)) rfl
theorem k_X8_145 : Cond.methodLink RX8 145 yX8_mustSee ∈ Gw := Gw_in (List.mem_of_getElem? (i := 1136) (by decide +kernel)) rfl
theorem k_X8_148 : Cond.methodLink RX8 148 yX8_rankOf ∈ Gw := Gw_in (List.mem_of_getElem? (i := 1139) (by decide +kernel)) rfl
theorem k_X8_151 : Cond.methodLink RX8 151 yX8_standsFor ∈ Gw := Gw_in (List.mem_of_getElem? (i := 1142) (by decide +kernel)) rfl
theorem k_X8_154 : Cond.methodLink RX8 154 yX8_happensIn ∈ Gw := Gw_in (List.mem_of_getElem? (i := 1145) (by decide +kernel)) rfl
abbrev M_X8_of : MT := (yX8_of, cX8_of, 4, (some .int))
theorem m_X8_of : MV M_X8_of 2 := ⟨⟨Gw_in (List.mem_of_getElem? (i := 1131) (by decide +kernel)) rfl, Gw_in (List.mem_of_getElem? (i := 83) (by decide +kernel)) rfl, by decide, by decide, by decide, by decide +kernel⟩, Gw_in (List.mem_of_getElem? (i := 1129) (by decide +kernel)) rfl, Gw_in (List.mem_of_getElem? (i := 1130) (by decide +kernel)) rfl⟩
theorem l_X8_38 : FL RX8 38 RX8 TX8 29 9 := ⟨by decide, rfl, Gw_in (List.mem_of_getElem? (i := 963) (by decide +kernel)) rfl⟩
theorem l_X8_29 : FL RX8 29 RX8 TX8 29 6 := ⟨by decide, rfl, Gw_in (List.mem_of_getElem? (i := 960) (by decide +kernel)) rfl⟩
theorem l_X8_32 : FL RX8 32 RX8 TX8 29 7 := ⟨by decide, rfl, Gw_in (List.mem_of_getElem? (i := 961) (by decide +kernel)) rfl⟩
theorem l_X8_35 : FL RX8 35 RX8 TX8 29 8 := ⟨by decide, rfl, Gw_in (List.mem_of_getElem? (i := 962) (by decide +kernel)) rfl⟩
theorem l_X8_41 : FL RX8 41 RX8 TX8 29 10 := ⟨by decide, rfl, Gw_in (List.mem_of_getElem? (i := 964) (by decide +kernel)) rfl⟩
abbrev M_X8_rename : MT := (yX8_rename, cX8_rename, 10, none)
theorem m_X8_rename : MV M_X8_rename 5 := ⟨⟨Gw_in (List.mem_of_getElem? (i := 1180) (by decide +kernel)) rfl, Gw_in (List.mem_of_getElem? (i := 83) (by decide +kernel)) rfl, by decide, by decide, by decide, by decide +kernel⟩, Gw_in (List.mem_of_getElem? (i := 1179) (by decide +kernel)) rfl, Gw_in (List.mem_of_getElem? (i := 51) (by decide +kernel)) rfl⟩
theorem k_X8_157 : Cond.methodLink RX8 157 yX8_rename ∈ Gw := Gw_in (List.mem_of_getElem? (i := 1177) (by decide +kernel)) rfl
abbrev M_X8_happen : MT := (yX8_happen, cX8_happen, 9, none)
theorem m_X8_happen : MV M_X8_happen 6 := ⟨⟨Gw_in (List.mem_of_getElem? (i := 1176) (by decide +kernel)) rfl, Gw_in (List.mem_of_getElem? (i := 83) (by decide +kernel)) rfl, by decide, by decide, by decide, by decide +kernel⟩, Gw_in (List.mem_of_getElem? (i := 1175) (by decide +kernel)) rfl, Gw_in (List.mem_of_getElem? (i := 50) (by decide +kernel)) rfl⟩
theorem l_X8_23 : FL RX8 23 RX8 TX8 29 4 := ⟨by decide, rfl, Gw_in (List.mem_of_getElem? (i := 958) (by decide +kernel)) rfl⟩
theorem l_X8_26 : FL RX8 26 RX8 TX8 29 5 := ⟨by decide, rfl, Gw_in (List.mem_of_getElem? (i := 959) (by decide +kernel)) rfl⟩
theorem l_X8_165 : FL RX8 165 RX8 TX8 29 11 := ⟨by decide, rfl, Gw_in (List.mem_of_getElem? (i := 965) (by decide +kernel)) rfl⟩
theorem l_X8_47 : FL RX8 47 RX8 TX8 29 13 := ⟨by decide, rfl, Gw_in (List.mem_of_getElem? (i := 967) (by decide +kernel)) rfl⟩
theorem l_X8_44 : FL RX8 44 RX8 TX8 29 12 := ⟨by decide, rfl, Gw_in (List.mem_of_getElem? (i := 966) (by decide +kernel)) rfl⟩
theorem l_X8_50 : FL RX8 50 RX8 TX8 29 14 := ⟨by decide, rfl, Gw_in (List.mem_of_getElem? (i := 968) (by decide +kernel)) rfl⟩
theorem k_X8_161 : Cond.methodLink RX8 161 yX8_happen ∈ Gw := Gw_in (List.mem_of_getElem? (i := 1173) (by decide +kernel)) rfl
abbrev M_X8_run : MT := (yX8_run, cX8_run, 4, none)
theorem m_X8_run : MV M_X8_run 1 := ⟨⟨Gw_in (List.mem_of_getElem? (i := 1172) (by decide +kernel)) rfl, Gw_in (List.mem_of_getElem? (i := 83) (by decide +kernel)) rfl, by decide, by decide, by decide, by decide +kernel⟩, Gw_in (List.mem_of_getElem? (i := 1171) (by decide +kernel)) rfl, Gw_in (List.mem_of_getElem? (i := 49) (by decide +kernel)) rfl⟩
abbrev M_X8_allEvents : MT := (yX8_allEvents, cX8_allEvents, 1, (some .int))
theorem m_X8_allEvents : MV M_X8_allEvents 0 := ⟨⟨Gw_in (List.mem_of_getElem? (i := 1168) (by decide +kernel)) rfl, Gw_in (List.mem_of_getElem? (i := 83) (by decide +kernel)) rfl, by decide, by decide, by decide, by decide +kernel⟩, Gw_in (List.mem_of_getElem? (i := 1167) (by decide +kernel)) rfl, Gw_in (List.mem_of_getElem? (i := 48) (by decide +kernel)) rfl⟩
theorem p_X8_11 : PF TX8 11 := ⟨rfl, by decide +kernel⟩
theorem k_X8_169 : Cond.methodLink RX8 169 yX8_allEvents ∈ Gw := Gw_in (List.mem_of_getElem? (i := 1165) (by decide +kernel)) rfl
theorem k_X8_172 : Cond.methodLink RX8 172 yX8_run ∈ Gw := Gw_in (List.mem_of_getElem? (i := 1169) (by decide +kernel)) rfl
abbrev M_X8_runAll : MT := (yX8_runAll, cX8_runAll, 1, none)
theorem m_X8_runAll : MV M_X8_runAll 0 := ⟨⟨Gw_in (List.mem_of_getElem? (i := 1164) (by decide +kernel)) rfl, Gw_in (List.mem_of_getElem? (i := 83) (by decide +kernel)) rfl, by decide, by decide, by decide, by decide +kernel⟩, Gw_in (List.mem_of_getElem? (i := 1163) (by decide +kernel)) rfl, Gw_in (List.mem_of_getElem? (i := 47) (by decide +kernel)) rfl⟩
abbrev M_X8_nameIn : MT := (yX8_nameIn, cX8_nameIn, 3, (some .int))
theorem m_X8_nameIn : MV M_X8_nameIn 2 := ⟨⟨Gw_in (List.mem_of_getElem? (i := 1184) (by decide +kernel)) rfl, Gw_in (List.mem_of_getElem? (i := 83) (by decide +kernel)) rfl, by decide, by decide, by decide, by decide +kernel⟩, Gw_in (List.mem_of_getElem? (i := 1183) (by decide +kernel)) rfl, Gw_in (List.mem_of_getElem? (i := 52) (by decide +kernel)) rfl⟩
theorem k_X8_176 : Cond.methodLink RX8 176 yX8_runAll ∈ Gw := Gw_in (List.mem_of_getElem? (i := 1161) (by decide +kernel)) rfl
theorem k_X8_179 : Cond.methodLink RX8 179 yX8_nameIn ∈ Gw := Gw_in (List.mem_of_getElem? (i := 1181) (by decide +kernel)) rfl
abbrev M_X8_name : MT := (yX8_name, cX8_name, 3, (some .int))
theorem m_X8_name : MV M_X8_name 2 := ⟨⟨Gw_in (List.mem_of_getElem? (i := 1160) (by decide +kernel)) rfl, Gw_in (List.mem_of_getElem? (i := 83) (by decide +kernel)) rfl, by decide, by decide, by decide, by decide +kernel⟩, Gw_in (List.mem_of_getElem? (i := 1158) (by decide +kernel)) rfl, Gw_in (List.mem_of_getElem? (i := 1159) (by decide +kernel)) rfl⟩
abbrev M_X8_changes : MT := (yX8_changes, cX8_changes, 2, (some .int))
theorem m_X8_changes : MV M_X8_changes 1 := ⟨⟨Gw_in (List.mem_of_getElem? (i := 1188) (by decide +kernel)) rfl, Gw_in (List.mem_of_getElem? (i := 83) (by decide +kernel)) rfl, by decide, by decide, by decide, by decide +kernel⟩, Gw_in (List.mem_of_getElem? (i := 1186) (by decide +kernel)) rfl, Gw_in (List.mem_of_getElem? (i := 1187) (by decide +kernel)) rfl⟩
abbrev M_X8_whichIn : MT := (yX8_whichIn, cX8_whichIn, 5, (some .int))
theorem m_X8_whichIn : MV M_X8_whichIn 2 := ⟨⟨Gw_in (List.mem_of_getElem? (i := 1196) (by decide +kernel)) rfl, Gw_in (List.mem_of_getElem? (i := 83) (by decide +kernel)) rfl, by decide, by decide, by decide, by decide +kernel⟩, Gw_in (List.mem_of_getElem? (i := 1195) (by decide +kernel)) rfl, Gw_in (List.mem_of_getElem? (i := 53) (by decide +kernel)) rfl⟩
theorem k_X8_182 : Cond.methodLink RX8 182 yX8_whichIn ∈ Gw := Gw_in (List.mem_of_getElem? (i := 1193) (by decide +kernel)) rfl
abbrev M_X8_which : MT := (yX8_which, cX8_which, 6, (some .int))
theorem m_X8_which : MV M_X8_which 3 := ⟨⟨Gw_in (List.mem_of_getElem? (i := 1192) (by decide +kernel)) rfl, Gw_in (List.mem_of_getElem? (i := 83) (by decide +kernel)) rfl, by decide, by decide, by decide, by decide +kernel⟩, Gw_in (List.mem_of_getElem? (i := 1190) (by decide +kernel)) rfl, Gw_in (List.mem_of_getElem? (i := 1191) (by decide +kernel)) rfl⟩
abbrev M_X8_first : MT := (yX8_first, cX8_first, 2, (some .int))
theorem m_X8_first : MS M_X8_first 1 := ⟨⟨Gw_in (List.mem_of_getElem? (i := 1203) (by decide +kernel)) rfl, Gw_in (List.mem_of_getElem? (i := 83) (by decide +kernel)) rfl, by decide, by decide, by decide, by decide +kernel⟩, Gw_in (List.mem_of_getElem? (i := 1202) (by decide +kernel)) rfl⟩
theorem k_X8_185 : Cond.methodLink RX8 185 yX8_first ∈ Gw := Gw_in (List.mem_of_getElem? (i := 1201) (by decide +kernel)) rfl
abbrev M_X8_letter : MT := (yX8_letter, cX8_letter, 5, (some .int))
theorem m_X8_letter : MV M_X8_letter 3 := ⟨⟨Gw_in (List.mem_of_getElem? (i := 1200) (by decide +kernel)) rfl, Gw_in (List.mem_of_getElem? (i := 83) (by decide +kernel)) rfl, by decide, by decide, by decide, by decide +kernel⟩, Gw_in (List.mem_of_getElem? (i := 1198) (by decide +kernel)) rfl, Gw_in (List.mem_of_getElem? (i := 1199) (by decide +kernel)) rfl⟩
abbrev M_X8_cab : MT := (yX8_cab, cX8_cab, 4, (some .int))
theorem m_X8_cab : MV M_X8_cab 3 := ⟨⟨Gw_in (List.mem_of_getElem? (i := 1207) (by decide +kernel)) rfl, Gw_in (List.mem_of_getElem? (i := 83) (by decide +kernel)) rfl, by decide, by decide, by decide, by decide +kernel⟩, Gw_in (List.mem_of_getElem? (i := 1205) (by decide +kernel)) rfl, Gw_in (List.mem_of_getElem? (i := 1206) (by decide +kernel)) rfl⟩
theorem k_X8_188 : Cond.methodLink RX8 188 yX8_areStreets ∈ Gw := Gw_in (List.mem_of_getElem? (i := 1212) (by decide +kernel)) rfl
theorem t_X8_191 : Cond.constant RX8 191 (1000000 : Int32) ∈ Gw := Gw_in (List.mem_of_getElem? (i := 1216) (by decide +kernel)) rfl
theorem k_X8_192 : Cond.methodLink RX8 192 yX8_bits ∈ Gw := Gw_in (List.mem_of_getElem? (i := 1217) (by decide +kernel)) rfl
abbrev M_X8_find : MT := (yX8_find, cX8_find, 9, (some .int))
theorem m_X8_find : MV M_X8_find 2 := ⟨⟨Gw_in (List.mem_of_getElem? (i := 1211) (by decide +kernel)) rfl, Gw_in (List.mem_of_getElem? (i := 83) (by decide +kernel)) rfl, by decide, by decide, by decide, by decide +kernel⟩, Gw_in (List.mem_of_getElem? (i := 1209) (by decide +kernel)) rfl, Gw_in (List.mem_of_getElem? (i := 1210) (by decide +kernel)) rfl⟩
abbrev M_X8_stageOne : MT := (yX8_stageOne, cX8_stageOne, 5, none)
theorem m_X8_stageOne : MV M_X8_stageOne 4 := ⟨⟨Gw_in (List.mem_of_getElem? (i := 1235) (by decide +kernel)) rfl, Gw_in (List.mem_of_getElem? (i := 83) (by decide +kernel)) rfl, by decide, by decide, by decide, by decide +kernel⟩, Gw_in (List.mem_of_getElem? (i := 1234) (by decide +kernel)) rfl, Gw_in (List.mem_of_getElem? (i := 57) (by decide +kernel)) rfl⟩
theorem k_X8_195 : Cond.methodLink RX8 195 yX8_stageOne ∈ Gw := Gw_in (List.mem_of_getElem? (i := 1232) (by decide +kernel)) rfl
theorem l_X8_199 : FL RX8 199 RX8 TX8 29 15 := ⟨by decide, rfl, Gw_in (List.mem_of_getElem? (i := 969) (by decide +kernel)) rfl⟩
theorem p_X8_15 : PF TX8 15 := ⟨rfl, by decide +kernel⟩
theorem l_X8_202 : FL RX8 202 RX8 TX8 29 16 := ⟨by decide, rfl, Gw_in (List.mem_of_getElem? (i := 970) (by decide +kernel)) rfl⟩
theorem p_X8_16 : PF TX8 16 := ⟨rfl, by decide +kernel⟩
theorem l_X8_205 : FL RX8 205 RX8 TX8 29 17 := ⟨by decide, rfl, Gw_in (List.mem_of_getElem? (i := 971) (by decide +kernel)) rfl⟩
theorem p_X8_17 : PF TX8 17 := ⟨rfl, by decide +kernel⟩
abbrev M_X8_gives : MT := (yX8_gives, cX8_gives, 8, (some .boolean))
theorem m_X8_gives : MV M_X8_gives 6 := ⟨⟨Gw_in (List.mem_of_getElem? (i := 1231) (by decide +kernel)) rfl, Gw_in (List.mem_of_getElem? (i := 83) (by decide +kernel)) rfl, by decide, by decide, by decide, by decide +kernel⟩, Gw_in (List.mem_of_getElem? (i := 1230) (by decide +kernel)) rfl, Gw_in (List.mem_of_getElem? (i := 56) (by decide +kernel)) rfl⟩
theorem k_X8_208 : Cond.methodLink RX8 208 yX8_gives ∈ Gw := Gw_in (List.mem_of_getElem? (i := 1228) (by decide +kernel)) rfl
abbrev M_X8_tryStages : MT := (yX8_tryStages, cX8_tryStages, 6, (some .boolean))
theorem m_X8_tryStages : MV M_X8_tryStages 3 := ⟨⟨Gw_in (List.mem_of_getElem? (i := 1227) (by decide +kernel)) rfl, Gw_in (List.mem_of_getElem? (i := 83) (by decide +kernel)) rfl, by decide, by decide, by decide, by decide +kernel⟩, Gw_in (List.mem_of_getElem? (i := 1226) (by decide +kernel)) rfl, Gw_in (List.mem_of_getElem? (i := 55) (by decide +kernel)) rfl⟩
theorem k_X8_212 : Cond.methodLink RX8 212 yX8_tryStages ∈ Gw := Gw_in (List.mem_of_getElem? (i := 1224) (by decide +kernel)) rfl
abbrev M_X8_stage : MT := (yX8_stage, cX8_stage, 5, (some .int))
theorem m_X8_stage : MV M_X8_stage 4 := ⟨⟨Gw_in (List.mem_of_getElem? (i := 1223) (by decide +kernel)) rfl, Gw_in (List.mem_of_getElem? (i := 83) (by decide +kernel)) rfl, by decide, by decide, by decide, by decide +kernel⟩, Gw_in (List.mem_of_getElem? (i := 1221) (by decide +kernel)) rfl, Gw_in (List.mem_of_getElem? (i := 1222) (by decide +kernel)) rfl⟩
abbrev M_X8_forbid : MT := (yX8_forbid, cX8_forbid, 4, (some .int))
theorem m_X8_forbid : MV M_X8_forbid 1 := ⟨⟨Gw_in (List.mem_of_getElem? (i := 1239) (by decide +kernel)) rfl, Gw_in (List.mem_of_getElem? (i := 83) (by decide +kernel)) rfl, by decide, by decide, by decide, by decide +kernel⟩, Gw_in (List.mem_of_getElem? (i := 1237) (by decide +kernel)) rfl, Gw_in (List.mem_of_getElem? (i := 1238) (by decide +kernel)) rfl⟩
abbrev M_X8_rentNow : MT := (yX8_rentNow, cX8_rentNow, 4, (some .int))
theorem m_X8_rentNow : MV M_X8_rentNow 1 := ⟨⟨Gw_in (List.mem_of_getElem? (i := 1247) (by decide +kernel)) rfl, Gw_in (List.mem_of_getElem? (i := 83) (by decide +kernel)) rfl, by decide, by decide, by decide, by decide +kernel⟩, Gw_in (List.mem_of_getElem? (i := 1246) (by decide +kernel)) rfl, Gw_in (List.mem_of_getElem? (i := 58) (by decide +kernel)) rfl⟩
theorem k_X8_216 : Cond.methodLink RX8 216 yX8_rentNow ∈ Gw := Gw_in (List.mem_of_getElem? (i := 1244) (by decide +kernel)) rfl
abbrev M_X8_rents : MT := (yX8_rents, cX8_rents, 2, (some .int))
theorem m_X8_rents : MV M_X8_rents 1 := ⟨⟨Gw_in (List.mem_of_getElem? (i := 1243) (by decide +kernel)) rfl, Gw_in (List.mem_of_getElem? (i := 83) (by decide +kernel)) rfl, by decide, by decide, by decide, by decide +kernel⟩, Gw_in (List.mem_of_getElem? (i := 1241) (by decide +kernel)) rfl, Gw_in (List.mem_of_getElem? (i := 1242) (by decide +kernel)) rfl⟩
abbrev M_X8_dearest : MT := (yX8_dearest, cX8_dearest, 3, (some .int))
theorem m_X8_dearest : MV M_X8_dearest 0 := ⟨⟨Gw_in (List.mem_of_getElem? (i := 1259) (by decide +kernel)) rfl, Gw_in (List.mem_of_getElem? (i := 83) (by decide +kernel)) rfl, by decide, by decide, by decide, by decide +kernel⟩, Gw_in (List.mem_of_getElem? (i := 1258) (by decide +kernel)) rfl, Gw_in (List.mem_of_getElem? (i := 60) (by decide +kernel)) rfl⟩
theorem k_X8_219 : Cond.methodLink RX8 219 yX8_dearest ∈ Gw := Gw_in (List.mem_of_getElem? (i := 1256) (by decide +kernel)) rfl
theorem l_X8_53 : FL RX8 53 RX8 TX8 29 18 := ⟨by decide, rfl, Gw_in (List.mem_of_getElem? (i := 972) (by decide +kernel)) rfl⟩
theorem l_X8_56 : FL RX8 56 RX8 TX8 29 19 := ⟨by decide, rfl, Gw_in (List.mem_of_getElem? (i := 973) (by decide +kernel)) rfl⟩
abbrev M_X8_layGets : MT := (yX8_layGets, cX8_layGets, 7, none)
theorem m_X8_layGets : MV M_X8_layGets 4 := ⟨⟨Gw_in (List.mem_of_getElem? (i := 1255) (by decide +kernel)) rfl, Gw_in (List.mem_of_getElem? (i := 83) (by decide +kernel)) rfl, by decide, by decide, by decide, by decide +kernel⟩, Gw_in (List.mem_of_getElem? (i := 1254) (by decide +kernel)) rfl, Gw_in (List.mem_of_getElem? (i := 59) (by decide +kernel)) rfl⟩
theorem k_X8_222 : Cond.methodLink RX8 222 yX8_layGets ∈ Gw := Gw_in (List.mem_of_getElem? (i := 1252) (by decide +kernel)) rfl
abbrev M_X8_landlords : MT := (yX8_landlords, cX8_landlords, 8, (some .int))
theorem m_X8_landlords : MV M_X8_landlords 4 := ⟨⟨Gw_in (List.mem_of_getElem? (i := 1251) (by decide +kernel)) rfl, Gw_in (List.mem_of_getElem? (i := 83) (by decide +kernel)) rfl, by decide, by decide, by decide, by decide +kernel⟩, Gw_in (List.mem_of_getElem? (i := 1249) (by decide +kernel)) rfl, Gw_in (List.mem_of_getElem? (i := 1250) (by decide +kernel)) rfl⟩
theorem l_X8_59 : FL RX8 59 RX8 TX8 29 20 := ⟨by decide, rfl, Gw_in (List.mem_of_getElem? (i := 974) (by decide +kernel)) rfl⟩
abbrev M_X8_goAlong : MT := (yX8_goAlong, cX8_goAlong, 8, (some .boolean))
theorem m_X8_goAlong : MV M_X8_goAlong 3 := ⟨⟨Gw_in (List.mem_of_getElem? (i := 1267) (by decide +kernel)) rfl, Gw_in (List.mem_of_getElem? (i := 83) (by decide +kernel)) rfl, by decide, by decide, by decide, by decide +kernel⟩, Gw_in (List.mem_of_getElem? (i := 1266) (by decide +kernel)) rfl, Gw_in (List.mem_of_getElem? (i := 61) (by decide +kernel)) rfl⟩
theorem k_X8_225 : Cond.methodLink RX8 225 yX8_goAlong ∈ Gw := Gw_in (List.mem_of_getElem? (i := 1264) (by decide +kernel)) rfl
abbrev M_X8_round : MT := (yX8_round, cX8_round, 6, (some .int))
theorem m_X8_round : MV M_X8_round 2 := ⟨⟨Gw_in (List.mem_of_getElem? (i := 1263) (by decide +kernel)) rfl, Gw_in (List.mem_of_getElem? (i := 83) (by decide +kernel)) rfl, by decide, by decide, by decide, by decide +kernel⟩, Gw_in (List.mem_of_getElem? (i := 1261) (by decide +kernel)) rfl, Gw_in (List.mem_of_getElem? (i := 1262) (by decide +kernel)) rfl⟩
abbrev M_X8_reading : MT := (yX8_reading, cX8_reading, 5, (some .int))
theorem m_X8_reading : MV M_X8_reading 3 := ⟨⟨Gw_in (List.mem_of_getElem? (i := 1271) (by decide +kernel)) rfl, Gw_in (List.mem_of_getElem? (i := 83) (by decide +kernel)) rfl, by decide, by decide, by decide, by decide +kernel⟩, Gw_in (List.mem_of_getElem? (i := 1269) (by decide +kernel)) rfl, Gw_in (List.mem_of_getElem? (i := 1270) (by decide +kernel)) rfl⟩
abbrev M_X8_burn : MT := (yX8_burn, cX8_burn, 2, (some .int))
theorem m_X8_burn : MV M_X8_burn 0 := ⟨⟨Gw_in (List.mem_of_getElem? (i := 1275) (by decide +kernel)) rfl, Gw_in (List.mem_of_getElem? (i := 83) (by decide +kernel)) rfl, by decide, by decide, by decide, by decide +kernel⟩, Gw_in (List.mem_of_getElem? (i := 1273) (by decide +kernel)) rfl, Gw_in (List.mem_of_getElem? (i := 1274) (by decide +kernel)) rfl⟩
abbrev M_X8_areRead : MT := (yX8_areRead, cX8_areRead, 4, (some .boolean))
theorem m_X8_areRead : MV M_X8_areRead 0 := ⟨⟨Gw_in (List.mem_of_getElem? (i := 1283) (by decide +kernel)) rfl, Gw_in (List.mem_of_getElem? (i := 83) (by decide +kernel)) rfl, by decide, by decide, by decide, by decide +kernel⟩, Gw_in (List.mem_of_getElem? (i := 1282) (by decide +kernel)) rfl, Gw_in (List.mem_of_getElem? (i := 62) (by decide +kernel)) rfl⟩
theorem k_X8_228 : Cond.methodLink RX8 228 yX8_areRead ∈ Gw := Gw_in (List.mem_of_getElem? (i := 1280) (by decide +kernel)) rfl
abbrev M_X8_truly : MT := (yX8_truly, cX8_truly, 6, (some .int))
theorem m_X8_truly : MV M_X8_truly 1 := ⟨⟨Gw_in (List.mem_of_getElem? (i := 1279) (by decide +kernel)) rfl, Gw_in (List.mem_of_getElem? (i := 83) (by decide +kernel)) rfl, by decide, by decide, by decide, by decide +kernel⟩, Gw_in (List.mem_of_getElem? (i := 1277) (by decide +kernel)) rfl, Gw_in (List.mem_of_getElem? (i := 1278) (by decide +kernel)) rfl⟩
theorem t_X8_232 : Cond.constantLong RX8 232 (999999 : Int64) ∈ Gw := Gw_in (List.mem_of_getElem? (i := 1288) (by decide +kernel)) rfl
theorem t_X8_234 : Cond.constantLong RX8 234 (30 : Int64) ∈ Gw := Gw_in (List.mem_of_getElem? (i := 1289) (by decide +kernel)) rfl
theorem t_X8_236 : Cond.constantLong RX8 236 (100 : Int64) ∈ Gw := Gw_in (List.mem_of_getElem? (i := 1290) (by decide +kernel)) rfl
theorem t_X8_238 : Cond.constantLong RX8 238 (1103515245 : Int64) ∈ Gw := Gw_in (List.mem_of_getElem? (i := 1291) (by decide +kernel)) rfl
theorem t_X8_240 : Cond.constantLong RX8 240 (12345 : Int64) ∈ Gw := Gw_in (List.mem_of_getElem? (i := 1292) (by decide +kernel)) rfl
theorem t_X8_242 : Cond.constantLong RX8 242 (2147483648 : Int64) ∈ Gw := Gw_in (List.mem_of_getElem? (i := 1293) (by decide +kernel)) rfl
theorem t_X8_244 : Cond.constantLong RX8 244 (65536 : Int64) ∈ Gw := Gw_in (List.mem_of_getElem? (i := 1294) (by decide +kernel)) rfl
abbrev M_X8_drawn : MT := (yX8_drawn, cX8_drawn, 10, (some .int))
theorem m_X8_drawn : MV M_X8_drawn 3 := ⟨⟨Gw_in (List.mem_of_getElem? (i := 1287) (by decide +kernel)) rfl, Gw_in (List.mem_of_getElem? (i := 83) (by decide +kernel)) rfl, by decide, by decide, by decide, by decide +kernel⟩, Gw_in (List.mem_of_getElem? (i := 1285) (by decide +kernel)) rfl, Gw_in (List.mem_of_getElem? (i := 1286) (by decide +kernel)) rfl⟩
theorem t_X8_246 : Cond.constantLong RX8 246 (127 : Int64) ∈ Gw := Gw_in (List.mem_of_getElem? (i := 1299) (by decide +kernel)) rfl
theorem l_X8_248 : FL RX8 248 RX8 TX8 29 22 := ⟨by decide, rfl, Gw_in (List.mem_of_getElem? (i := 976) (by decide +kernel)) rfl⟩
theorem l_X8_62 : FL RX8 62 RX8 TX8 29 21 := ⟨by decide, rfl, Gw_in (List.mem_of_getElem? (i := 975) (by decide +kernel)) rfl⟩
theorem p_X8_22 : PF TX8 22 := ⟨rfl, by decide +kernel⟩
abbrev M_X8_type : MT := (yX8_type, cX8_type, 2, (some .int))
theorem m_X8_type : MV M_X8_type 1 := ⟨⟨Gw_in (List.mem_of_getElem? (i := 1298) (by decide +kernel)) rfl, Gw_in (List.mem_of_getElem? (i := 83) (by decide +kernel)) rfl, by decide, by decide, by decide, by decide +kernel⟩, Gw_in (List.mem_of_getElem? (i := 1296) (by decide +kernel)) rfl, Gw_in (List.mem_of_getElem? (i := 1297) (by decide +kernel)) rfl⟩
abbrev M_X8_clear : MT := (yX8_clear, cX8_clear, 2, (some .int))
theorem m_X8_clear : MV M_X8_clear 0 := ⟨⟨Gw_in (List.mem_of_getElem? (i := 1303) (by decide +kernel)) rfl, Gw_in (List.mem_of_getElem? (i := 83) (by decide +kernel)) rfl, by decide, by decide, by decide, by decide +kernel⟩, Gw_in (List.mem_of_getElem? (i := 1301) (by decide +kernel)) rfl, Gw_in (List.mem_of_getElem? (i := 1302) (by decide +kernel)) rfl⟩
theorem t_X8_251 : Cond.constantLong RX8 251 (97 : Int64) ∈ Gw := Gw_in (List.mem_of_getElem? (i := 1315) (by decide +kernel)) rfl
theorem t_X8_253 : Cond.constantLong RX8 253 (122 : Int64) ∈ Gw := Gw_in (List.mem_of_getElem? (i := 1316) (by decide +kernel)) rfl
abbrev M_X8_isSmall : MT := (yX8_isSmall, cX8_isSmall, 1, (some .boolean))
theorem m_X8_isSmall : MS M_X8_isSmall 1 := ⟨⟨Gw_in (List.mem_of_getElem? (i := 1314) (by decide +kernel)) rfl, Gw_in (List.mem_of_getElem? (i := 83) (by decide +kernel)) rfl, by decide, by decide, by decide, by decide +kernel⟩, Gw_in (List.mem_of_getElem? (i := 1313) (by decide +kernel)) rfl⟩
theorem t_X8_255 : Cond.constantLong RX8 255 (48 : Int64) ∈ Gw := Gw_in (List.mem_of_getElem? (i := 1320) (by decide +kernel)) rfl
theorem t_X8_257 : Cond.constantLong RX8 257 (57 : Int64) ∈ Gw := Gw_in (List.mem_of_getElem? (i := 1321) (by decide +kernel)) rfl
abbrev M_X8_isFigure : MT := (yX8_isFigure, cX8_isFigure, 1, (some .boolean))
theorem m_X8_isFigure : MS M_X8_isFigure 1 := ⟨⟨Gw_in (List.mem_of_getElem? (i := 1319) (by decide +kernel)) rfl, Gw_in (List.mem_of_getElem? (i := 83) (by decide +kernel)) rfl, by decide, by decide, by decide, by decide +kernel⟩, Gw_in (List.mem_of_getElem? (i := 1318) (by decide +kernel)) rfl⟩
theorem l_X8_259 : FL RX8 259 RX8 TX8 29 23 := ⟨by decide, rfl, Gw_in (List.mem_of_getElem? (i := 977) (by decide +kernel)) rfl⟩
theorem p_X8_23 : PF TX8 23 := ⟨rfl, by decide +kernel⟩
theorem l_X8_262 : FL RX8 262 RX8 TX8 29 24 := ⟨by decide, rfl, Gw_in (List.mem_of_getElem? (i := 978) (by decide +kernel)) rfl⟩
theorem p_X8_24 : PF TX8 24 := ⟨rfl, by decide +kernel⟩
theorem l_X8_265 : FL RX8 265 RX8 TX8 29 25 := ⟨by decide, rfl, Gw_in (List.mem_of_getElem? (i := 979) (by decide +kernel)) rfl⟩
theorem p_X8_25 : PF TX8 25 := ⟨rfl, by decide +kernel⟩
theorem l_X8_268 : FL RX8 268 RX8 TX8 29 26 := ⟨by decide, rfl, Gw_in (List.mem_of_getElem? (i := 980) (by decide +kernel)) rfl⟩
theorem p_X8_26 : PF TX8 26 := ⟨rfl, by decide +kernel⟩
theorem k_X8_271 : Cond.methodLink RX8 271 yX8_isSmall ∈ Gw := Gw_in (List.mem_of_getElem? (i := 1312) (by decide +kernel)) rfl
theorem k_X8_274 : Cond.methodLink RX8 274 yX8_isFigure ∈ Gw := Gw_in (List.mem_of_getElem? (i := 1317) (by decide +kernel)) rfl
abbrev M_X8_look : MT := (yX8_look, cX8_look, 5, none)
theorem m_X8_look : MV M_X8_look 1 := ⟨⟨Gw_in (List.mem_of_getElem? (i := 1311) (by decide +kernel)) rfl, Gw_in (List.mem_of_getElem? (i := 83) (by decide +kernel)) rfl, by decide, by decide, by decide, by decide +kernel⟩, Gw_in (List.mem_of_getElem? (i := 1310) (by decide +kernel)) rfl, Gw_in (List.mem_of_getElem? (i := 63) (by decide +kernel)) rfl⟩
theorem k_X8_277 : Cond.methodLink RX8 277 yX8_look ∈ Gw := Gw_in (List.mem_of_getElem? (i := 1308) (by decide +kernel)) rfl
abbrev M_X8_goOn : MT := (yX8_goOn, cX8_goOn, 1, none)
theorem m_X8_goOn : MV M_X8_goOn 0 := ⟨⟨Gw_in (List.mem_of_getElem? (i := 1333) (by decide +kernel)) rfl, Gw_in (List.mem_of_getElem? (i := 83) (by decide +kernel)) rfl, by decide, by decide, by decide, by decide +kernel⟩, Gw_in (List.mem_of_getElem? (i := 1332) (by decide +kernel)) rfl, Gw_in (List.mem_of_getElem? (i := 66) (by decide +kernel)) rfl⟩
abbrev M_X8_isCalled : MT := (yX8_isCalled, cX8_isCalled, 10, (some .boolean))
theorem m_X8_isCalled : MV M_X8_isCalled 7 := ⟨⟨Gw_in (List.mem_of_getElem? (i := 1329) (by decide +kernel)) rfl, Gw_in (List.mem_of_getElem? (i := 83) (by decide +kernel)) rfl, by decide, by decide, by decide, by decide +kernel⟩, Gw_in (List.mem_of_getElem? (i := 1328) (by decide +kernel)) rfl, Gw_in (List.mem_of_getElem? (i := 65) (by decide +kernel)) rfl⟩
theorem l_X8_68 : FL RX8 68 RX8 TX8 29 28 := ⟨by decide, rfl, Gw_in (List.mem_of_getElem? (i := 982) (by decide +kernel)) rfl⟩
theorem k_X8_280 : Cond.methodLink RX8 280 yX8_goOn ∈ Gw := Gw_in (List.mem_of_getElem? (i := 1330) (by decide +kernel)) rfl
abbrev M_X8_takes : MT := (yX8_takes, cX8_takes, 4, (some .boolean))
theorem m_X8_takes : MV M_X8_takes 3 := ⟨⟨Gw_in (List.mem_of_getElem? (i := 1337) (by decide +kernel)) rfl, Gw_in (List.mem_of_getElem? (i := 83) (by decide +kernel)) rfl, by decide, by decide, by decide, by decide +kernel⟩, Gw_in (List.mem_of_getElem? (i := 1336) (by decide +kernel)) rfl, Gw_in (List.mem_of_getElem? (i := 67) (by decide +kernel)) rfl⟩
theorem k_X8_283 : Cond.methodLink RX8 283 yX8_isCalled ∈ Gw := Gw_in (List.mem_of_getElem? (i := 1326) (by decide +kernel)) rfl
theorem k_X8_287 : Cond.methodLink RX8 287 yX8_takes ∈ Gw := Gw_in (List.mem_of_getElem? (i := 1334) (by decide +kernel)) rfl
theorem l_X8_65 : FL RX8 65 RX8 TX8 29 27 := ⟨by decide, rfl, Gw_in (List.mem_of_getElem? (i := 981) (by decide +kernel)) rfl⟩
abbrev M_X8_readsFirst : MT := (yX8_readsFirst, cX8_readsFirst, 2, (some .boolean))
theorem m_X8_readsFirst : MV M_X8_readsFirst 0 := ⟨⟨Gw_in (List.mem_of_getElem? (i := 1325) (by decide +kernel)) rfl, Gw_in (List.mem_of_getElem? (i := 83) (by decide +kernel)) rfl, by decide, by decide, by decide, by decide +kernel⟩, Gw_in (List.mem_of_getElem? (i := 1324) (by decide +kernel)) rfl, Gw_in (List.mem_of_getElem? (i := 64) (by decide +kernel)) rfl⟩
abbrev M_X8_readsStreet : MT := (yX8_readsStreet, cX8_readsStreet, 1, (some .boolean))
theorem m_X8_readsStreet : MV M_X8_readsStreet 0 := ⟨⟨Gw_in (List.mem_of_getElem? (i := 1345) (by decide +kernel)) rfl, Gw_in (List.mem_of_getElem? (i := 83) (by decide +kernel)) rfl, by decide, by decide, by decide, by decide +kernel⟩, Gw_in (List.mem_of_getElem? (i := 1344) (by decide +kernel)) rfl, Gw_in (List.mem_of_getElem? (i := 69) (by decide +kernel)) rfl⟩
abbrev M_X8_readsEvent : MT := (yX8_readsEvent, cX8_readsEvent, 1, (some .boolean))
theorem m_X8_readsEvent : MV M_X8_readsEvent 0 := ⟨⟨Gw_in (List.mem_of_getElem? (i := 1349) (by decide +kernel)) rfl, Gw_in (List.mem_of_getElem? (i := 83) (by decide +kernel)) rfl, by decide, by decide, by decide, by decide +kernel⟩, Gw_in (List.mem_of_getElem? (i := 1348) (by decide +kernel)) rfl, Gw_in (List.mem_of_getElem? (i := 70) (by decide +kernel)) rfl⟩
abbrev M_X8_readsRent : MT := (yX8_readsRent, cX8_readsRent, 1, (some .boolean))
theorem m_X8_readsRent : MV M_X8_readsRent 0 := ⟨⟨Gw_in (List.mem_of_getElem? (i := 1353) (by decide +kernel)) rfl, Gw_in (List.mem_of_getElem? (i := 83) (by decide +kernel)) rfl, by decide, by decide, by decide, by decide +kernel⟩, Gw_in (List.mem_of_getElem? (i := 1352) (by decide +kernel)) rfl, Gw_in (List.mem_of_getElem? (i := 71) (by decide +kernel)) rfl⟩
theorem k_X8_296 : Cond.methodLink RX8 296 yX8_readsRent ∈ Gw := Gw_in (List.mem_of_getElem? (i := 1350) (by decide +kernel)) rfl
theorem k_X8_293 : Cond.methodLink RX8 293 yX8_readsEvent ∈ Gw := Gw_in (List.mem_of_getElem? (i := 1346) (by decide +kernel)) rfl
theorem k_X8_290 : Cond.methodLink RX8 290 yX8_readsStreet ∈ Gw := Gw_in (List.mem_of_getElem? (i := 1342) (by decide +kernel)) rfl
abbrev M_X8_readsItem : MT := (yX8_readsItem, cX8_readsItem, 1, (some .boolean))
theorem m_X8_readsItem : MV M_X8_readsItem 0 := ⟨⟨Gw_in (List.mem_of_getElem? (i := 1341) (by decide +kernel)) rfl, Gw_in (List.mem_of_getElem? (i := 83) (by decide +kernel)) rfl, by decide, by decide, by decide, by decide +kernel⟩, Gw_in (List.mem_of_getElem? (i := 1340) (by decide +kernel)) rfl, Gw_in (List.mem_of_getElem? (i := 68) (by decide +kernel)) rfl⟩
theorem k_X8_299 : Cond.methodLink RX8 299 yX8_readsFirst ∈ Gw := Gw_in (List.mem_of_getElem? (i := 1322) (by decide +kernel)) rfl
theorem k_X8_302 : Cond.methodLink RX8 302 yX8_readsItem ∈ Gw := Gw_in (List.mem_of_getElem? (i := 1338) (by decide +kernel)) rfl
abbrev M_X8_read : MT := (yX8_read, cX8_read, 3, (some .int))
theorem m_X8_read : MV M_X8_read 0 := ⟨⟨Gw_in (List.mem_of_getElem? (i := 1307) (by decide +kernel)) rfl, Gw_in (List.mem_of_getElem? (i := 83) (by decide +kernel)) rfl, by decide, by decide, by decide, by decide +kernel⟩, Gw_in (List.mem_of_getElem? (i := 1305) (by decide +kernel)) rfl, Gw_in (List.mem_of_getElem? (i := 1306) (by decide +kernel)) rfl⟩
theorem l_X8_16 : FL RX8 16 RX8 TX8 29 2 := ⟨by decide, rfl, Gw_in (List.mem_of_getElem? (i := 956) (by decide +kernel)) rfl⟩
theorem l_X8_13 : FL RX8 13 RX8 TX8 29 1 := ⟨by decide, rfl, Gw_in (List.mem_of_getElem? (i := 955) (by decide +kernel)) rfl⟩
abbrev M_X8_image : MT := (yX8_image, cX8_image, 3, (some .int))
theorem m_X8_image : MV M_X8_image 1 := ⟨⟨Gw_in (List.mem_of_getElem? (i := 1357) (by decide +kernel)) rfl, Gw_in (List.mem_of_getElem? (i := 83) (by decide +kernel)) rfl, by decide, by decide, by decide, by decide +kernel⟩, Gw_in (List.mem_of_getElem? (i := 1355) (by decide +kernel)) rfl, Gw_in (List.mem_of_getElem? (i := 1356) (by decide +kernel)) rfl⟩
abbrev M_X8_from : MT := (yX8_from, cX8_from, 3, (some .int))
theorem m_X8_from : MV M_X8_from 1 := ⟨⟨Gw_in (List.mem_of_getElem? (i := 1361) (by decide +kernel)) rfl, Gw_in (List.mem_of_getElem? (i := 83) (by decide +kernel)) rfl, by decide, by decide, by decide, by decide +kernel⟩, Gw_in (List.mem_of_getElem? (i := 1359) (by decide +kernel)) rfl, Gw_in (List.mem_of_getElem? (i := 1360) (by decide +kernel)) rfl⟩
abbrev M_X8_status : MT := (yX8_status, cX8_status, 2, (some .int))
theorem m_X8_status : MV M_X8_status 1 := ⟨⟨Gw_in (List.mem_of_getElem? (i := 1365) (by decide +kernel)) rfl, Gw_in (List.mem_of_getElem? (i := 83) (by decide +kernel)) rfl, by decide, by decide, by decide, by decide +kernel⟩, Gw_in (List.mem_of_getElem? (i := 1363) (by decide +kernel)) rfl, Gw_in (List.mem_of_getElem? (i := 1364) (by decide +kernel)) rfl⟩
abbrev M_X8_counted : MT := (yX8_counted, cX8_counted, 2, (some .int))
theorem m_X8_counted : MV M_X8_counted 1 := ⟨⟨Gw_in (List.mem_of_getElem? (i := 1373) (by decide +kernel)) rfl, Gw_in (List.mem_of_getElem? (i := 83) (by decide +kernel)) rfl, by decide, by decide, by decide, by decide +kernel⟩, Gw_in (List.mem_of_getElem? (i := 1372) (by decide +kernel)) rfl, Gw_in (List.mem_of_getElem? (i := 72) (by decide +kernel)) rfl⟩
theorem k_X8_305 : Cond.methodLink RX8 305 yX8_counted ∈ Gw := Gw_in (List.mem_of_getElem? (i := 1370) (by decide +kernel)) rfl
abbrev M_X8_count : MT := (yX8_count, cX8_count, 2, (some .int))
theorem m_X8_count : MV M_X8_count 1 := ⟨⟨Gw_in (List.mem_of_getElem? (i := 1369) (by decide +kernel)) rfl, Gw_in (List.mem_of_getElem? (i := 83) (by decide +kernel)) rfl, by decide, by decide, by decide, by decide +kernel⟩, Gw_in (List.mem_of_getElem? (i := 1367) (by decide +kernel)) rfl, Gw_in (List.mem_of_getElem? (i := 1368) (by decide +kernel)) rfl⟩
theorem t_X8_308 : Cond.constantLong RX8 308 (31 : Int64) ∈ Gw := Gw_in (List.mem_of_getElem? (i := 1379) (by decide +kernel)) rfl
abbrev M_X8_sums : MT := (yX8_sums, cX8_sums, 8, (some .long))
theorem m_X8_sums : MV M_X8_sums 3 := ⟨⟨Gw_in (List.mem_of_getElem? (i := 1383) (by decide +kernel)) rfl, Gw_in (List.mem_of_getElem? (i := 83) (by decide +kernel)) rfl, by decide, by decide, by decide, by decide +kernel⟩, Gw_in (List.mem_of_getElem? (i := 1382) (by decide +kernel)) rfl, Gw_in (List.mem_of_getElem? (i := 73) (by decide +kernel)) rfl⟩
theorem t_X8_310 : Cond.constantLong RX8 310 (911 : Int64) ∈ Gw := Gw_in (List.mem_of_getElem? (i := 1378) (by decide +kernel)) rfl
theorem k_X8_312 : Cond.methodLink RX8 312 yX8_sums ∈ Gw := Gw_in (List.mem_of_getElem? (i := 1380) (by decide +kernel)) rfl
abbrev M_X8_digest : MT := (yX8_digest, cX8_digest, 4, (some .long))
theorem m_X8_digest : MV M_X8_digest 0 := ⟨⟨Gw_in (List.mem_of_getElem? (i := 1377) (by decide +kernel)) rfl, Gw_in (List.mem_of_getElem? (i := 83) (by decide +kernel)) rfl, by decide, by decide, by decide, by decide +kernel⟩, Gw_in (List.mem_of_getElem? (i := 1375) (by decide +kernel)) rfl, Gw_in (List.mem_of_getElem? (i := 1376) (by decide +kernel)) rfl⟩
end
section
/-! THE METHODS AS FUNCTIONS OF THE CELLS (written by program out of the bytecode) -/
def f_X2_size (o : Nat) (s : Sg) : Option Int32 :=
  some (s o 2)
def f_X2_cell (o : Nat) (x1 : Int32) (x2 : Int32) (s : Sg) : Option Int32 :=
  if x1 < 0 then
    some (0 : Int32)
  else
    if (s o 2) ≤ x1 then
      some (0 : Int32)
    else
      if x2 < 0 then
        some (0 : Int32)
      else
        if x2 < (s o 0) then
          (aget s (o + 1) ((x1 * (s o 0)) + x2)).bind fun (v1 : Int32) =>
          some v1
        else
          some (0 : Int32)
def f_X2_empty (o : Nat) (s : Sg) : Option Sg :=
  nm_ (sts s o 2 (0 : Int32)) fun (s1 : Sg) =>
  some s1
def f_X7_isBelow (x0 : Int32) (x1 : Int32) (s : Sg) : Option Int32 :=
  if x0 < 0 then
    some (0 : Int32)
  else
    if x1 ≤ x0 then
      some (0 : Int32)
    else
      some (1 : Int32)
def f_X5_kindOf (t : Nat) (x1 : Int32) (s : Sg) : Option Int32 :=
  (f_X2_cell (t + 3) x1 (0 : Int32) s).bind fun (v1 : Int32) =>
  (f_X7_isBelow v1 (6 : Int32) s).bind fun (v2 : Int32) =>
  if v2 = 0 then
    some (0 : Int32)
  else
    some v1
def f_X5_needed (t : Nat) (x1 : Int32) (s : Sg) : Option Int32 :=
  (f_X5_kindOf t x1 s).bind fun (v1 : Int32) =>
  (tget 2 v1).bind fun (v2 : Int32) =>
  some v2
def f_X5_isSeenByEnough (t : Nat) (x1 : Int32) (s : Sg) : Option Int32 :=
  (f_X2_cell (t + 3) x1 (3 : Int32) s).bind fun (v1 : Int32) =>
  (f_X5_needed t x1 s).bind fun (v2 : Int32) =>
  if v1 < v2 then
    some (0 : Int32)
  else
    some (1 : Int32)
def f_X5_meet (t : Nat) (x1 : Int32) (x2 : Int32) (s : Sg) : Option Int32 :=
  (f_X2_cell (t + 1) x1 (0 : Int32) s).bind fun (v1 : Int32) =>
  (f_X2_cell (t + 1) x1 (1 : Int32) s).bind fun (v2 : Int32) =>
  (f_X2_cell (t + 1) x2 (0 : Int32) s).bind fun (v3 : Int32) =>
  (f_X2_cell (t + 1) x2 (1 : Int32) s).bind fun (v4 : Int32) =>
  if v1 = v3 then
    some (1 : Int32)
  else
    if v1 = v4 then
      some (1 : Int32)
    else
      if v2 = v3 then
        some (1 : Int32)
      else
        if v2 = v4 then
          some (1 : Int32)
        else
          some (0 : Int32)
def b_X5_streetsOf_28 (t : Nat) (s : Sg) (v1 : Int32) (self5 : Int32 → Int32 → Option Int32) (i3 : Int32) (i4 : Int32) : Option Int32 :=
  (f_X2_size (t + 1) s).bind fun (v6 : Int32) =>
  if v6 ≤ i4 then
    some i3
  else
    (f_X5_meet t v1 i4 s).bind fun (v7 : Int32) =>
    nm_ (fun (a8 : Int32) =>
      self5 a8 (i4 + (1 : Int32))) fun j9 =>
    if v7 = 0 then
      j9 i3
    else
      nm_ (i3 ||| ((1 : Int32) <<< (i4 &&& 31))) fun (v10 : Int32) =>
      j9 v10
def f_X5_streetsOf (t : Nat) (x1 : Int32) (s : Sg) : Option Int32 :=
  (f_X2_cell (t + 3) x1 (1 : Int32) s).bind fun (v1 : Int32) =>
  (f_X5_kindOf t x1 s).bind fun (v2 : Int32) =>
  if v2 = (1 : Int32) then
    lp2_ (b_X5_streetsOf_28 t s v1) fu (0 : Int32) (0 : Int32)
  else
    some ((1 : Int32) <<< (v1 &&& 31))
def f_X7_rankBy (x0 : Int32) (x1 : Int32) (s : Sg) : Option Int32 :=
  if x0 = (3 : Int32) then
    some (x1 / (2 : Int32))
  else
    (f_X7_isBelow x0 (6 : Int32) s).bind fun (v1 : Int32) =>
    if v1 = 0 then
      some x1
    else
      (tget 3 x0).bind fun (v2 : Int32) =>
      some (x1 + v2)
def f_X5_rankGiven (t : Nat) (x1 : Int32) (s : Sg) : Option Int32 :=
  (f_X5_kindOf t x1 s).bind fun (v1 : Int32) =>
  (f_X2_cell (t + 3) x1 (4 : Int32) s).bind fun (v2 : Int32) =>
  (f_X7_rankBy v1 v2 s).bind fun (v3 : Int32) =>
  some v3
def f_X5_hoursGiven (t : Nat) (x1 : Int32) (s : Sg) : Option Int32 :=
  (f_X5_kindOf t x1 s).bind fun (v1 : Int32) =>
  (tget 4 v1).bind fun (v2 : Int32) =>
  some v2
def b_X0_placeBehind_2 (s : Sg) (x1 : Int32) (self2 : Int32 → Option Int32) (i1 : Int32) : Option Int32 :=
  (f_X2_size 53 s).bind fun (v3 : Int32) =>
  if v3 ≤ i1 then
    some i1
  else
    (f_X2_cell 53 i1 (0 : Int32) s).bind fun (v4 : Int32) =>
    if x1 < v4 then
      some i1
    else
      self2 (i1 + (1 : Int32))
def f_X0_placeBehind (x1 : Int32) (s : Sg) : Option Int32 :=
  lp1_ (b_X0_placeBehind_2 s x1) fu (0 : Int32)
def f_X2_isFull (o : Nat) (s : Sg) : Option Int32 :=
  if (((s o 2) + (1 : Int32)) * (s o 0)) ≤ (nI (alen (o + 1))) then
    some (0 : Int32)
  else
    some (1 : Int32)
def f_X2_insert (o : Nat) (x1 : Int32) (c2 : Nat) (s : Sg) : Option Sg :=
  (f_X2_isFull o s).bind fun (v1 : Int32) =>
  if v1 = 0 then
    if x1 < 0 then
      some s
    else
      if (s o 2) < x1 then
        some s
      else
        if (s o 0) ≤ (nI (alen c2)) then
          nm_ (x1 * (s o 0)) fun (v2 : Int32) =>
          (acpy s (o + 1) v2 (o + 1) (v2 + (s o 0)) (((s o 2) - x1) * (s o 0))).bind fun (s3 : Sg) =>
          (acpy s3 c2 (0 : Int32) (o + 1) v2 (s3 o 0)).bind fun (s4 : Sg) =>
          nm_ (sts s4 o 2 ((s4 o 2) + (1 : Int32))) fun (s5 : Sg) =>
          some s5
        else
          some s
  else
    some s
def f_X0_planEvent (t1 : Nat) (x2 : Int32) (s : Sg) : Option Sg :=
  (f_X2_cell (t1 + 3) x2 (2 : Int32) s).bind fun (v1 : Int32) =>
  (aset s 55 (0 : Int32) v1).bind fun (s2 : Sg) =>
  (f_X5_streetsOf t1 x2 s2).bind fun (v3 : Int32) =>
  (aset s2 55 (1 : Int32) v3).bind fun (s4 : Sg) =>
  (f_X2_cell (t1 + 3) x2 (5 : Int32) s4).bind fun (v5 : Int32) =>
  (aset s4 55 (2 : Int32) v5).bind fun (s6 : Sg) =>
  (f_X5_rankGiven t1 x2 s6).bind fun (v7 : Int32) =>
  (aset s6 55 (3 : Int32) v7).bind fun (s8 : Sg) =>
  (aget s8 55 (0 : Int32)).bind fun (v9 : Int32) =>
  (f_X5_hoursGiven t1 x2 s8).bind fun (v10 : Int32) =>
  (aset s8 55 (4 : Int32) (v9 + v10)).bind fun (s11 : Sg) =>
  (aset s11 55 (5 : Int32) ((1 : Int32) <<< (x2 &&& 31))).bind fun (s12 : Sg) =>
  (aget s12 55 (0 : Int32)).bind fun (v13 : Int32) =>
  (f_X0_placeBehind v13 s12).bind fun (v14 : Int32) =>
  (f_X2_insert 53 v14 55 s12).bind fun (s15 : Sg) =>
  some s15
def b_X0_plan_59 (t1 : Nat) (self9 : Int32 → Sg → Option Sg) (i7 : Int32) (s8 : Sg) : Option Sg :=
  (f_X2_size (t1 + 3) s8).bind fun (v10 : Int32) =>
  if v10 ≤ i7 then
    some s8
  else
    (f_X5_isSeenByEnough t1 i7 s8).bind fun (v11 : Int32) =>
    nm_ (fun (s12 : Sg) =>
      self9 (i7 + (1 : Int32)) s12) fun j13 =>
    if v11 = 0 then
      j13 s8
    else
      (f_X0_planEvent t1 i7 s8).bind fun (s14 : Sg) =>
      j13 s14
def b_X0_plan_21 (j5 : Sg → Option Sg) (t1 : Nat) (self17 : Int32 → Sg → Option Sg) (i15 : Int32) (s16 : Sg) : Option Sg :=
  if (s16 52 7) ≤ i15 then
    j5 s16
  else
    (f_X2_cell (t1 + 1) i15 (3 : Int32) s16).bind fun (v18 : Int32) =>
    (aset s16 56 i15 v18).bind fun (s19 : Sg) =>
    self17 (i15 + (1 : Int32)) s19
def f_X0_plan (t1 : Nat) (s : Sg) : Option Sg :=
  nm_ (sts s 52 8 (s t1 7)) fun (s1 : Sg) =>
  (f_X2_size (t1 + 1) s1).bind fun (v2 : Int32) =>
  nm_ (sts s1 52 7 v2) fun (s3 : Sg) =>
  nm_ (fun (s4 : Sg) =>
    (f_X2_empty 53 s4).bind fun (s6 : Sg) =>
    lp2_ (b_X0_plan_59 t1) fu (0 : Int32) s6) fun j5 =>
  lp2_ (b_X0_plan_21 j5 t1) fu (0 : Int32) s3
def f_X0_addStaged (x1 : Int32) (x2 : Int32) (x3 : Int32) (s : Sg) : Option (Int32 × Sg) :=
  (f_X0_placeBehind x3 s).bind fun (v1 : Int32) =>
  (aset s 55 (0 : Int32) x3).bind fun (s2 : Sg) =>
  (aset s2 55 (1 : Int32) ((1 : Int32) <<< (x1 &&& 31))).bind fun (s3 : Sg) =>
  (aset s3 55 (2 : Int32) x2).bind fun (s4 : Sg) =>
  (f_X7_rankBy (3 : Int32) (9 : Int32) s4).bind fun (v5 : Int32) =>
  (aset s4 55 (3 : Int32) v5).bind fun (s6 : Sg) =>
  (tget 4 (3 : Int32)).bind fun (v7 : Int32) =>
  (aset s6 55 (4 : Int32) (x3 + v7)).bind fun (s8 : Sg) =>
  (aset s8 55 (5 : Int32) (256 : Int32)).bind fun (s9 : Sg) =>
  (f_X2_insert 53 v1 55 s9).bind fun (s10 : Sg) =>
  some (v1, s10)
def f_X2_drop (o : Nat) (x1 : Int32) (s : Sg) : Option Sg :=
  (f_X7_isBelow x1 (s o 2) s).bind fun (v1 : Int32) =>
  if v1 = 0 then
    some s
  else
    nm_ (x1 * (s o 0)) fun (v2 : Int32) =>
    (acpy s (o + 1) (v2 + (s o 0)) (o + 1) v2 ((((s o 2) - x1) - (1 : Int32)) * (s o 0))).bind fun (s3 : Sg) =>
    nm_ (sts s3 o 2 ((s3 o 2) - (1 : Int32))) fun (s4 : Sg) =>
    some s4
def f_X0_dropStaged (x1 : Int32) (s : Sg) : Option Sg :=
  (f_X2_drop 53 x1 s).bind fun (s1 : Sg) =>
  some s1
def f_X0_streets (s : Sg) : Option Int32 :=
  some (s 52 7)
def f_X0_firstWordOf (x1 : Int32) (s : Sg) : Option Int32 :=
  (f_X7_isBelow x1 (7 : Int32) s).bind fun (v1 : Int32) =>
  if v1 = 0 then
    some (-1 : Int32)
  else
    (aget s 56 x1).bind fun (v2 : Int32) =>
    some v2
def f_X0_begin (x1 : Int32) (s : Sg) : Option Sg :=
  nm_ (sts s 52 9 (0 : Int32)) fun (s1 : Sg) =>
  (aget s1 56 x1).bind fun (v2 : Int32) =>
  (aset s1 57 x1 v2).bind fun (s3 : Sg) =>
  (aset s3 58 x1 (1 : Int32)).bind fun (s4 : Sg) =>
  (aset s4 59 x1 (0 : Int32)).bind fun (s5 : Sg) =>
  (aset s5 60 x1 (0 : Int32)).bind fun (s6 : Sg) =>
  some s6
def f_X7_holds (x0 : Int32) (x1 : Int32) (s : Sg) : Option Int32 :=
  if ((x0 >>> (x1 &&& 31)) &&& (1 : Int32)) = 0 then
    some (0 : Int32)
  else
    some (1 : Int32)
def f_X0_yields (x1 : Int32) (x2 : Int32) (x3 : Int32) (s : Sg) : Option Int32 :=
  (aget s 60 x1).bind fun (v1 : Int32) =>
  if v1 ≤ x2 then
    some (1 : Int32)
  else
    if (s 52 8) = (2 : Int32) then
      some (1 : Int32)
    else
      if (s 52 8) = 0 then
        (aget s 59 x1).bind fun (v3 : Int32) =>
        if x3 < v3 then
          some (0 : Int32)
        else
          some (1 : Int32)
      else
        (aget s 59 x1).bind fun (v2 : Int32) =>
        if x3 ≤ v2 then
          some (0 : Int32)
        else
          some (1 : Int32)
def f_X0_isRenamed (x1 : Int32) (x2 : Int32) (s : Sg) : Option (Int32 × Sg) :=
  (f_X2_cell 53 x2 (3 : Int32) s).bind fun (v1 : Int32) =>
  (f_X2_cell 53 x2 (1 : Int32) s).bind fun (v2 : Int32) =>
  (f_X7_holds v2 x1 s).bind fun (v3 : Int32) =>
  if v3 = 0 then
    some ((0 : Int32), s)
  else
    (f_X2_cell 53 x2 (0 : Int32) s).bind fun (v4 : Int32) =>
    (f_X0_yields x1 v4 v1 s).bind fun (v5 : Int32) =>
    if v5 = 0 then
      some ((0 : Int32), s)
    else
      (f_X2_cell 53 x2 (2 : Int32) s).bind fun (v6 : Int32) =>
      (aset s 57 x1 v6).bind fun (s7 : Sg) =>
      (aset s7 59 x1 v1).bind fun (s8 : Sg) =>
      (f_X2_cell 53 x2 (4 : Int32) s8).bind fun (v9 : Int32) =>
      (aset s8 60 x1 v9).bind fun (s10 : Sg) =>
      some ((1 : Int32), s10)
def b_X0_live_3 (x2 : Int32) (x3 : Int32) (x1 : Int32) (self3 : Int32 → Sg → Option (Int32 × Sg)) (i1 : Int32) (s2 : Sg) : Option (Int32 × Sg) :=
  (f_X2_size 53 s2).bind fun (v4 : Int32) =>
  if v4 ≤ (s2 52 9) then
    some (i1, s2)
  else
    (f_X2_cell 53 (s2 52 9) (0 : Int32) s2).bind fun (v5 : Int32) =>
    if x2 < v5 then
      some (i1, s2)
    else
      (f_X2_cell 53 (s2 52 9) (5 : Int32) s2).bind fun (v6 : Int32) =>
      nm_ (fun (a7 : Int32) (s8 : Sg) =>
        nm_ (sts s8 52 9 ((s8 52 9) + (1 : Int32))) fun (s10 : Sg) =>
        self3 a7 s10) fun j9 =>
      if (v6 &&& x3) = 0 then
        j9 i1 s2
      else
        ob2 (f_X0_isRenamed x1 (s2 52 9) s2) fun (v11 : Int32) (s12 : Sg) =>
        if v11 = 0 then
          j9 i1 s12
        else
          j9 (i1 + (1 : Int32)) s12
def f_X0_live (x1 : Int32) (x2 : Int32) (x3 : Int32) (s : Sg) : Option (Int32 × Sg) :=
  lp2_ (b_X0_live_3 x2 x3 x1) fu (0 : Int32) s
def f_X0_wordIn (x1 : Int32) (x2 : Int32) (x3 : Int32) (s : Sg) : Option (Int32 × Sg) :=
  (f_X7_isBelow x1 (7 : Int32) s).bind fun (v1 : Int32) =>
  if v1 = 0 then
    some ((-1 : Int32), s)
  else
    (f_X0_begin x1 s).bind fun (s2 : Sg) =>
    ob2 (f_X0_live x1 x2 x3 s2) fun (v3 : Int32) (s4 : Sg) =>
    (aget s4 57 x1).bind fun (v5 : Int32) =>
    some (v5, s4)
def f_X0_renamings (x1 : Int32) (x2 : Int32) (s : Sg) : Option (Int32 × Sg) :=
  (f_X7_isBelow x1 (7 : Int32) s).bind fun (v1 : Int32) =>
  if v1 = 0 then
    some ((0 : Int32), s)
  else
    (f_X0_begin x1 s).bind fun (s2 : Sg) =>
    ob2 (f_X0_live x1 (23 : Int32) x2 s2) fun (v3 : Int32) (s4 : Sg) =>
    some (v3, s4)
def f_X5_rentAt (t : Nat) (x1 : Int32) (s : Sg) : Option Int32 :=
  (f_X7_isBelow x1 (16 : Int32) s).bind fun (v1 : Int32) =>
  if v1 = 0 then
    some (0 : Int32)
  else
    (aget s (t + 9) x1).bind fun (v2 : Int32) =>
    some v2
def b_X0_rentOf_21 (x1 : Int32) (t2 : Nat) (self6 : Int32 → Int32 → Sg → Option (Int32 × Sg)) (i3 : Int32) (i4 : Int32) (s5 : Sg) : Option (Int32 × Sg) :=
  if (24 : Int32) ≤ i4 then
    some (i3, s5)
  else
    ob2 (f_X0_live x1 i4 (-1 : Int32) s5) fun (v7 : Int32) (s8 : Sg) =>
    (aget s8 57 x1).bind fun (v9 : Int32) =>
    (f_X5_rentAt t2 v9 s8).bind fun (v10 : Int32) =>
    nm_ (i3 + v10) fun (v11 : Int32) =>
    self6 v11 (i4 + (1 : Int32)) s8
def f_X0_rentOf (x1 : Int32) (t2 : Nat) (s : Sg) : Option (Int32 × Sg) :=
  (f_X7_isBelow x1 (7 : Int32) s).bind fun (v1 : Int32) =>
  if v1 = 0 then
    some ((0 : Int32), s)
  else
    (f_X0_begin x1 s).bind fun (s2 : Sg) =>
    lp3_ (b_X0_rentOf_21 x1 t2) fu (0 : Int32) (0 : Int32) s2
def b_X0_beginAll_2 (self3 : Int32 → Sg → Option Sg) (i1 : Int32) (s2 : Sg) : Option Sg :=
  if (s2 52 7) ≤ i1 then
    some s2
  else
    (f_X0_begin i1 s2).bind fun (s4 : Sg) =>
    self3 (i1 + (1 : Int32)) s4
def f_X0_beginAll (s : Sg) : Option Sg :=
  lp2_ (b_X0_beginAll_2) fu (0 : Int32) s
def b_X0_numberFor_4 (s : Sg) (x1 : Int32) (self3 : Int32 → Int32 → Option Int32) (i1 : Int32) (i2 : Int32) : Option Int32 :=
  if (s 52 7) ≤ i2 then
    some i1
  else
    nm_ (fun (a4 : Int32) =>
      self3 a4 (i2 + (1 : Int32))) fun j5 =>
    if i2 = x1 then
      j5 i1
    else
      (aget s 57 i2).bind fun (v6 : Int32) =>
      (aget s 57 x1).bind fun (v7 : Int32) =>
      if v6 = v7 then
        j5 (i1 + (1 : Int32))
      else
        j5 i1
def f_X0_numberFor (x1 : Int32) (s : Sg) : Option Int32 :=
  lp2_ (b_X0_numberFor_4 s x1) fu (1 : Int32) (0 : Int32)
def b_X0_liveAll_32 (j6 : Sg → Option Sg) (self10 : Int32 → Sg → Option Sg) (i8 : Int32) (s9 : Sg) : Option Sg :=
  if (s9 52 7) ≤ i8 then
    j6 s9
  else
    ob2 (f_X0_isRenamed i8 (s9 52 9) s9) fun (v11 : Int32) (s12 : Sg) =>
    nm_ (fun (s13 : Sg) =>
      self10 (i8 + (1 : Int32)) s13) fun j14 =>
    if v11 = 0 then
      j14 s12
    else
      (f_X0_numberFor i8 s12).bind fun (v15 : Int32) =>
      (aset s12 58 i8 v15).bind fun (s16 : Sg) =>
      j14 s16
def b_X0_liveAll_0 (x1 : Int32) (self2 : Sg → Option Sg) (s1 : Sg) : Option Sg :=
  (f_X2_size 53 s1).bind fun (v3 : Int32) =>
  if v3 ≤ (s1 52 9) then
    some s1
  else
    (f_X2_cell 53 (s1 52 9) (0 : Int32) s1).bind fun (v4 : Int32) =>
    if x1 < v4 then
      some s1
    else
      nm_ (fun (s5 : Sg) =>
        nm_ (sts s5 52 9 ((s5 52 9) + (1 : Int32))) fun (s7 : Sg) =>
        self2 s7) fun j6 =>
      lp2_ (b_X0_liveAll_32 j6) fu (0 : Int32) s1
def f_X0_liveAll (x1 : Int32) (s : Sg) : Option Sg :=
  lp1_ (b_X0_liveAll_0 x1) fu s
def f_X0_nameNow (x1 : Int32) (s : Sg) : Option Int32 :=
  (f_X7_isBelow x1 (7 : Int32) s).bind fun (v1 : Int32) =>
  if v1 = 0 then
    some (-1 : Int32)
  else
    (aget s 58 x1).bind fun (v2 : Int32) =>
    (aget s 57 x1).bind fun (v3 : Int32) =>
    some (((100 : Int32) * v2) + v3)
def b_X1_write_33 (j8 : Sg → Option Sg) (i3 : Int32) (self11 : Int32 → Sg → Option Sg) (i9 : Int32) (s10 : Sg) : Option Sg :=
  (f_X0_streets s10).bind fun (v12 : Int32) =>
  if v12 ≤ i9 then
    j8 s10
  else
    (f_X0_nameNow i9 s10).bind fun (v13 : Int32) =>
    (aset s10 62 ((i3 * (7 : Int32)) + i9) v13).bind fun (s14 : Sg) =>
    self11 (i9 + (1 : Int32)) s14
def b_X1_write_17 (self5 : Int32 → Sg → Option Sg) (i3 : Int32) (s4 : Sg) : Option Sg :=
  if (24 : Int32) ≤ i3 then
    some s4
  else
    (f_X0_liveAll i3 s4).bind fun (s6 : Sg) =>
    nm_ (fun (s7 : Sg) =>
      self5 (i3 + (1 : Int32)) s7) fun j8 =>
    lp2_ (b_X1_write_33 j8 i3) fu (0 : Int32) s6
def f_X1_write (t1 : Nat) (s : Sg) : Option Sg :=
  (f_X0_plan t1 s).bind fun (s1 : Sg) =>
  (f_X0_beginAll s1).bind fun (s2 : Sg) =>
  lp2_ (b_X1_write_17) fu (0 : Int32) s2
def f_X7_isHour (x0 : Int32) (s : Sg) : Option Int32 :=
  (f_X7_isBelow x0 (24 : Int32) s).bind fun (v1 : Int32) =>
  some (v1 &&& 1)
def f_X1_at (x1 : Int32) (x2 : Int32) (s : Sg) : Option Int32 :=
  (f_X7_isBelow x1 (7 : Int32) s).bind fun (v1 : Int32) =>
  if v1 = 0 then
    some (-1 : Int32)
  else
    (f_X7_isHour x2 s).bind fun (v2 : Int32) =>
    if v2 = 0 then
      some (-1 : Int32)
    else
      (aget s 62 ((x2 * (7 : Int32)) + x1)).bind fun (v3 : Int32) =>
      some v3
def b_X1_having_5 (s : Sg) (x2 : Int32) (x1 : Int32) (self3 : Int32 → Int32 → Option Int32) (i1 : Int32) (i2 : Int32) : Option Int32 :=
  (f_X0_streets s).bind fun (v4 : Int32) =>
  if v4 ≤ i2 then
    some i1
  else
    (f_X1_at i2 x2 s).bind fun (v5 : Int32) =>
    nm_ (fun (a6 : Int32) =>
      self3 a6 (i2 + (1 : Int32))) fun j7 =>
    if v5 = x1 then
      nm_ (i1 ||| ((1 : Int32) <<< (i2 &&& 31))) fun (v8 : Int32) =>
      j7 v8
    else
      j7 i1
def f_X1_having (x1 : Int32) (x2 : Int32) (s : Sg) : Option Int32 :=
  lp2_ (b_X1_having_5 s x2 x1) fu (0 : Int32) (0 : Int32)
def b_X1_firstHaving_2 (s : Sg) (x2 : Int32) (x1 : Int32) (self2 : Int32 → Option Int32) (i1 : Int32) : Option Int32 :=
  (f_X0_streets s).bind fun (v3 : Int32) =>
  if v3 ≤ i1 then
    some (-1 : Int32)
  else
    (f_X1_at i1 x2 s).bind fun (v4 : Int32) =>
    if v4 = x1 then
      some i1
    else
      self2 (i1 + (1 : Int32))
def f_X1_firstHaving (x1 : Int32) (x2 : Int32) (s : Sg) : Option Int32 :=
  lp1_ (b_X1_firstHaving_2 s x2 x1) fu (0 : Int32)
def f_J6_bitCount_0f7a4 (x0 : Int32) (s : Sg) : Option Int32 :=
  nm_ (x0 - (((Int32.toUInt32 x0 >>> (Int32.toUInt32 (1 : Int32) &&& Int32.toUInt32 31)).toInt32) &&& (1431655765 : Int32))) fun (v1 : Int32) =>
  nm_ ((v1 &&& (858993459 : Int32)) + (((Int32.toUInt32 v1 >>> (Int32.toUInt32 (2 : Int32) &&& Int32.toUInt32 31)).toInt32) &&& (858993459 : Int32))) fun (v2 : Int32) =>
  nm_ ((v2 + ((Int32.toUInt32 v2 >>> (Int32.toUInt32 (4 : Int32) &&& Int32.toUInt32 31)).toInt32)) &&& (252645135 : Int32)) fun (v3 : Int32) =>
  nm_ (v3 + ((Int32.toUInt32 v3 >>> (Int32.toUInt32 (8 : Int32) &&& Int32.toUInt32 31)).toInt32)) fun (v4 : Int32) =>
  nm_ (v4 + ((Int32.toUInt32 v4 >>> (Int32.toUInt32 (16 : Int32) &&& Int32.toUInt32 31)).toInt32)) fun (v5 : Int32) =>
  some (v5 &&& (63 : Int32))
def b_X1_mostAlike_5 (s : Sg) (x1 : Int32) (x2 : Int32) (self3 : Int32 → Int32 → Option Int32) (i1 : Int32) (i2 : Int32) : Option Int32 :=
  (f_X0_streets s).bind fun (v4 : Int32) =>
  if v4 ≤ i2 then
    some i1
  else
    (f_X7_holds x1 i2 s).bind fun (v5 : Int32) =>
    nm_ (fun (a6 : Int32) =>
      self3 a6 (i2 + (1 : Int32))) fun j7 =>
    if v5 = 0 then
      j7 i1
    else
      (f_X1_at i2 x2 s).bind fun (v8 : Int32) =>
      (f_X1_having v8 x2 s).bind fun (v9 : Int32) =>
      (f_J6_bitCount_0f7a4 (x1 &&& v9) s).bind fun (v10 : Int32) =>
      nm_ (if i1 < v10 then v10 else i1) fun (v11 : Int32) =>
      j7 v11
def f_X1_mostAlike (x1 : Int32) (x2 : Int32) (s : Sg) : Option Int32 :=
  lp2_ (b_X1_mostAlike_5 s x1 x2) fu (0 : Int32) (0 : Int32)
def f_X2_add (o : Nat) (c1 : Nat) (s : Sg) : Option Sg :=
  (f_X2_insert o (s o 2) c1 s).bind fun (s1 : Sg) =>
  some s1
def f_X2_copy (o : Nat) (o1 : Nat) (s : Sg) : Option Sg :=
  if (s o1 0) = (s o 0) then
    if (nI (alen (o1 + 1))) = (nI (alen (o + 1))) then
      (acpy s (o1 + 1) (0 : Int32) (o + 1) (0 : Int32) (nI (alen (o + 1)))).bind fun (s1 : Sg) =>
      nm_ (sts s1 o 2 (s1 o1 2)) fun (s2 : Sg) =>
      some s2
    else
      some s
  else
    some s
def b_X2_mixInto_5 (s : Sg) (o : Nat) (self3 : Int64 → Int32 → Option Int64) (i1 : Int64) (i2 : Int32) : Option Int64 :=
  if ((s o 2) * (s o 0)) ≤ i2 then
    some i1
  else
    (aget s (o + 1) i2).bind fun (v4 : Int32) =>
    nm_ (((31 : Int64) * i1) + (Int32.toInt64 v4)) fun (v5 : Int64) =>
    self3 v5 (i2 + (1 : Int32))
def f_X2_mixInto (o : Nat) (x1 : Int64) (s : Sg) : Option Int64 :=
  lp2_ (b_X2_mixInto_5 s o) fu x1 (0 : Int32)
def b_X3_hourOfOne_3 (x4 : Int32) (x1 : Int32) (x2 : Int32) (self3 : Int32 → Sg → Option (Int32 × Sg)) (i1 : Int32) (s2 : Sg) : Option (Int32 × Sg) :=
  if x4 < i1 then
    some ((-1 : Int32), s2)
  else
    ob2 (f_X0_addStaged x1 x2 i1 s2) fun (v4 : Int32) (s5 : Sg) =>
    ob2 (f_X0_wordIn x1 x4 (-1 : Int32) s5) fun (v6 : Int32) (s7 : Sg) =>
    nm_ (fun (a8 : Int32) =>
      (f_X0_dropStaged v4 s7).bind fun (s10 : Sg) =>
      if a8 = 0 then
        self3 (i1 + (1 : Int32)) s10
      else
        some (i1, s10)) fun j9 =>
    if v6 = x2 then
      j9 (1 : Int32)
    else
      j9 (0 : Int32)
def f_X3_hourOfOne (x1 : Int32) (x2 : Int32) (x3 : Int32) (x4 : Int32) (s : Sg) : Option (Int32 × Sg) :=
  lp2_ (b_X3_hourOfOne_3 x4 x1 x2) fu x3 s
def b_X3_fewestStaged_41 (x3 : Int32) (x1 : Int32) (x2 : Int32) (self8 : Int32 → Sg → Option (Int32 × Sg)) (i6 : Int32) (s7 : Sg) : Option (Int32 × Sg) :=
  if x3 ≤ i6 then
    some ((-1 : Int32), s7)
  else
    ob2 (f_X0_addStaged x1 x2 i6 s7) fun (v9 : Int32) (s10 : Sg) =>
    ob2 (f_X3_hourOfOne x1 x2 (i6 + (1 : Int32)) x3 s10) fun (v11 : Int32) (s12 : Sg) =>
    nm_ (sts s12 63 4 v11) fun (s13 : Sg) =>
    (f_X0_dropStaged v9 s13).bind fun (s14 : Sg) =>
    if (s14 63 4) = (-1 : Int32) then
      self8 (i6 + (1 : Int32)) s14
    else
      nm_ (sts s14 63 3 i6) fun (s15 : Sg) =>
      some ((2 : Int32), s15)
def f_X3_fewestStaged (x1 : Int32) (x2 : Int32) (x3 : Int32) (s : Sg) : Option (Int32 × Sg) :=
  ob2 (f_X0_wordIn x1 x3 (-1 : Int32) s) fun (v1 : Int32) (s2 : Sg) =>
  if v1 = x2 then
    some ((0 : Int32), s2)
  else
    ob2 (f_X3_hourOfOne x1 x2 (0 : Int32) x3 s2) fun (v3 : Int32) (s4 : Sg) =>
    nm_ (sts s4 63 3 v3) fun (s5 : Sg) =>
    if (s5 63 3) = (-1 : Int32) then
      lp2_ (b_X3_fewestStaged_41 x3 x1 x2) fu (0 : Int32) s5
    else
      some ((1 : Int32), s5)
def f_X3_hourStaged (x1 : Int32) (s : Sg) : Option Int32 :=
  if x1 = 0 then
    some (s 63 3)
  else
    some (s 63 4)
def b_X3_fewestForbidden_18 (v2 : Int32) (x1 : Int32) (self6 : Int32 → Int32 → Sg → Option (Int32 × Sg)) (i3 : Int32) (i4 : Int32) (s5 : Sg) : Option (Int32 × Sg) :=
  if v2 < i4 then
    some (i3, s5)
  else
    nm_ (fun (a7 : Int32) =>
      nm_ (fun (a9 : Int32) (s10 : Sg) =>
        self6 a9 (i4 + (1 : Int32)) s10) fun j11 =>
      if a7 = 0 then
        j11 i3 s5
      else
        ob2 (f_X0_wordIn x1 (23 : Int32) (i4 ^^^ (-1 : Int32)) s5) fun (v12 : Int32) (s13 : Sg) =>
        (f_X0_firstWordOf x1 s13).bind fun (v14 : Int32) =>
        if v12 = v14 then
          j11 i4 s13
        else
          j11 i3 s13) fun j8 =>
    nm_ (fun (_ : Unit) =>
      j8 (1 : Int32)) fun j15 =>
    if i3 = (-1 : Int32) then
      j15 ()
    else
      (f_J6_bitCount_0f7a4 i4 s5).bind fun (v16 : Int32) =>
      (f_J6_bitCount_0f7a4 i3 s5).bind fun (v17 : Int32) =>
      if v17 ≤ v16 then
        j8 (0 : Int32)
      else
        j15 ()
def f_X3_fewestForbidden (x1 : Int32) (t2 : Nat) (s : Sg) : Option (Int32 × Sg) :=
  (f_X2_size (t2 + 3) s).bind fun (v1 : Int32) =>
  nm_ (((1 : Int32) <<< (v1 &&& 31)) - (1 : Int32)) fun (v2 : Int32) =>
  lp3_ (b_X3_fewestForbidden_18 v2 x1) fu (-1 : Int32) (0 : Int32) s
def b_X3_agrees_2 (o2 : Nat) (x1 : Int32) (self3 : Int32 → Sg → Option (Int32 × Sg)) (i1 : Int32) (s2 : Sg) : Option (Int32 × Sg) :=
  (f_X2_size o2 s2).bind fun (v4 : Int32) =>
  if v4 ≤ i1 then
    some ((1 : Int32), s2)
  else
    (f_X2_cell o2 i1 (0 : Int32) s2).bind fun (v5 : Int32) =>
    (f_X2_cell o2 i1 (1 : Int32) s2).bind fun (v6 : Int32) =>
    ob2 (f_X0_wordIn v5 v6 x1 s2) fun (v7 : Int32) (s8 : Sg) =>
    (f_X2_cell o2 i1 (2 : Int32) s8).bind fun (v9 : Int32) =>
    if v7 = v9 then
      self3 (i1 + (1 : Int32)) s8
    else
      some ((0 : Int32), s8)
def f_X3_agrees (x1 : Int32) (o2 : Nat) (s : Sg) : Option (Int32 × Sg) :=
  lp2_ (b_X3_agrees_2 o2 x1) fu (0 : Int32) s
def b_X3_trueSets_22 (v2 : Int32) (t1 : Nat) (self7 : Int32 → Int32 → Sg → Option (Int32 × Sg)) (i4 : Int32) (i5 : Int32) (s6 : Sg) : Option (Int32 × Sg) :=
  if v2 < i5 then
    some (i4, s6)
  else
    ob2 (f_X3_agrees i5 (t1 + 5) s6) fun (v8 : Int32) (s9 : Sg) =>
    nm_ (fun (a10 : Int32) (s11 : Sg) =>
      self7 a10 (i5 + (1 : Int32)) s11) fun j12 =>
    if v8 = 0 then
      j12 i4 s9
    else
      nm_ (sts s9 63 5 ((s9 63 5) &&& i5)) fun (s13 : Sg) =>
      j12 (i4 + (1 : Int32)) s13
def f_X3_trueSets (t1 : Nat) (s : Sg) : Option (Int32 × Sg) :=
  (f_X2_size (t1 + 3) s).bind fun (v1 : Int32) =>
  nm_ (((1 : Int32) <<< (v1 &&& 31)) - (1 : Int32)) fun (v2 : Int32) =>
  nm_ (sts s 63 5 v2) fun (s3 : Sg) =>
  lp3_ (b_X3_trueSets_22 v2 t1) fu (0 : Int32) (0 : Int32) s3
def f_X3_inAllTrueSets (s : Sg) : Option Int32 :=
  some (s 63 5)
def b_X5_dearestWord_4 (s : Sg) (t : Nat) (self3 : Int32 → Int32 → Option Int32) (i1 : Int32) (i2 : Int32) : Option Int32 :=
  if (16 : Int32) ≤ i2 then
    some i1
  else
    (aget s (t + 9) i2).bind fun (v4 : Int32) =>
    (aget s (t + 9) i1).bind fun (v5 : Int32) =>
    nm_ (fun (a6 : Int32) =>
      self3 a6 (i2 + (1 : Int32))) fun j7 =>
    if v4 ≤ v5 then
      j7 i1
    else
      j7 i2
def f_X5_dearestWord (t : Nat) (s : Sg) : Option Int32 :=
  lp2_ (b_X5_dearestWord_4 s t) fu (0 : Int32) (1 : Int32)
def b_X3_weighPairs_10 (t5 : Nat) (x1 : Int32) (x2 : Int32) (x4 : Int32) (v1 : Int32) (x3 : Int32) (self4 : Int32 → Sg → Option Sg) (i2 : Int32) (s3 : Sg) : Option Sg :=
  if (4 : Int32) ≤ i2 then
    some s3
  else
    (f_X0_plan t5 s3).bind fun (s5 : Sg) =>
    nm_ (fun (s6 : Sg) =>
      nm_ (fun (s8 : Sg) =>
        ob2 (f_X0_rentOf x1 t5 s8) fun (v10 : Int32) (s11 : Sg) =>
        nm_ (fun (a12 : Int32) =>
          (aset s11 64 i2 (v10 - a12)).bind fun (s14 : Sg) =>
          ob2 (f_X0_rentOf x2 t5 s14) fun (v15 : Int32) (s16 : Sg) =>
          nm_ (fun (a17 : Int32) =>
            (aset s16 65 i2 (v15 - a17)).bind fun (s19 : Sg) =>
            self4 (i2 + (1 : Int32)) s19) fun j18 =>
          if (i2 &&& (2 : Int32)) = 0 then
            j18 (0 : Int32)
          else
            j18 x4) fun j13 =>
        if (i2 &&& (1 : Int32)) = 0 then
          j13 (0 : Int32)
        else
          j13 x4) fun j9 =>
      if (i2 &&& (2 : Int32)) = 0 then
        j9 s6
      else
        ob2 (f_X0_addStaged x2 v1 x3 s6) fun (v20 : Int32) (s21 : Sg) =>
        j9 s21) fun j7 =>
    if (i2 &&& (1 : Int32)) = 0 then
      j7 s5
    else
      ob2 (f_X0_addStaged x1 v1 x3 s5) fun (v22 : Int32) (s23 : Sg) =>
      j7 s23
def f_X3_weighPairs (x1 : Int32) (x2 : Int32) (x3 : Int32) (x4 : Int32) (t5 : Nat) (s : Sg) : Option Sg :=
  (f_X5_dearestWord t5 s).bind fun (v1 : Int32) =>
  lp2_ (b_X3_weighPairs_10 t5 x1 x2 x4 v1 x3) fu (0 : Int32) s
def b_X3_pairsThatRest_4 (s : Sg) (self3 : Int32 → Int32 → Option Int32) (i1 : Int32) (i2 : Int32) : Option Int32 :=
  if (4 : Int32) ≤ i2 then
    some i1
  else
    (aget s 64 i2).bind fun (v4 : Int32) =>
    (aget s 64 (i2 ^^^ (1 : Int32))).bind fun (v5 : Int32) =>
    nm_ (fun (a6 : Int32) =>
      self3 a6 (i2 + (1 : Int32))) fun j7 =>
    if v4 < v5 then
      j7 i1
    else
      (aget s 65 i2).bind fun (v8 : Int32) =>
      (aget s 65 (i2 ^^^ (2 : Int32))).bind fun (v9 : Int32) =>
      if v8 < v9 then
        j7 i1
      else
        nm_ (i1 ||| ((1 : Int32) <<< (i2 &&& 31))) fun (v10 : Int32) =>
        j7 v10
def f_X3_pairsThatRest (s : Sg) : Option Int32 :=
  lp2_ (b_X3_pairsThatRest_4 s) fu (0 : Int32) (0 : Int32)
def b_X3_renamingsOfDays_85 (j12 : Int32 → Sg → Option (Int32 × Sg)) (a8 : Int32) (self16 : Int32 → Int32 → Sg → Option (Int32 × Sg)) (i13 : Int32) (i14 : Int32) (s15 : Sg) : Option (Int32 × Sg) :=
  (f_X0_streets s15).bind fun (v17 : Int32) =>
  if v17 ≤ i14 then
    j12 i13 s15
  else
    ob2 (f_X0_renamings i14 a8 s15) fun (v18 : Int32) (s19 : Sg) =>
    nm_ (i13 + v18) fun (v20 : Int32) =>
    self16 v20 (i14 + (1 : Int32)) s19
def b_X3_renamingsOfDays_22 (t4 : Nat) (s5 : Sg) (j9 : Int64 → Int32 → Option (Int32 × Sg)) (x3 : Int32) (self24 : Int64 → Int32 → Int32 → Option (Int32 × Sg)) (i21 : Int64) (i22 : Int32) (i23 : Int32) : Option (Int32 × Sg) :=
  (f_X2_size (t4 + 3) s5).bind fun (v25 : Int32) =>
  if v25 ≤ i23 then
    j9 i21 i22
  else
    nm_ (((i21 * (1103515245 : Int64)) + (12345 : Int64)) - ((i21 * (1103515245 : Int64)) + (12345 : Int64)) / (2147483648 : Int64) * (2147483648 : Int64)) fun (v26 : Int64) =>
    nm_ (fun (a27 : Int32) =>
      self24 v26 a27 (i23 + (1 : Int32))) fun j28 =>
    if 0 ≤ (lg_cmp ((v26 / (65536 : Int64)) - (v26 / (65536 : Int64)) / (100 : Int64) * (100 : Int64)) (Int32.toInt64 x3)) then
      j28 i22
    else
      nm_ (i22 ||| ((1 : Int32) <<< (i23 &&& 31))) fun (v29 : Int32) =>
      j28 v29
def b_X3_renamingsOfDays_10 (x2 : Int32) (t4 : Nat) (x3 : Int32) (self6 : Int64 → Int32 → Int32 → Sg → Option (Int32 × Sg)) (i2 : Int64) (i3 : Int32) (i4 : Int32) (s5 : Sg) : Option (Int32 × Sg) :=
  if x2 ≤ i4 then
    some (i3, s5)
  else
    nm_ (fun (a7 : Int64) (a8 : Int32) =>
      nm_ (fun (a10 : Int32) (s11 : Sg) =>
        self6 a7 a10 (i4 + (1 : Int32)) s11) fun j12 =>
      lp3_ (b_X3_renamingsOfDays_85 j12 a8) fu i3 (0 : Int32) s5) fun j9 =>
    lp3_ (b_X3_renamingsOfDays_22 t4 s5 j9 x3) fu i2 (0 : Int32) (0 : Int32)
def f_X3_renamingsOfDays (x1 : Int32) (x2 : Int32) (x3 : Int32) (t4 : Nat) (s : Sg) : Option (Int32 × Sg) :=
  nm_ (Int32.toInt64 x1) fun (v1 : Int64) =>
  lp4_ (b_X3_renamingsOfDays_10 x2 t4 x3) fu v1 (0 : Int32) (0 : Int32) s
def f_X4_size (s : Sg) : Option Int32 :=
  some (s 49 2)
def f_X4_isFull (s : Sg) : Option Int32 :=
  if (s 49 2) < (150 : Int32) then
    some (0 : Int32)
  else
    some (1 : Int32)
def f_X4_add (x1 : Int32) (s : Sg) : Option Sg :=
  (f_X4_isFull s).bind fun (v1 : Int32) =>
  if v1 = 0 then
    (aset s 50 (s 49 2) x1).bind fun (s2 : Sg) =>
    nm_ (sts s2 49 2 ((s2 49 2) + (1 : Int32))) fun (s3 : Sg) =>
    some s3
  else
    some s
def f_X4_empty (s : Sg) : Option Sg :=
  nm_ (sts s 49 2 (0 : Int32)) fun (s1 : Sg) =>
  some s1
def f_X4_byteAt (x1 : Int32) (s : Sg) : Option Int32 :=
  (f_X7_isBelow x1 (s 49 2) s).bind fun (v1 : Int32) =>
  if v1 = 0 then
    some (-1 : Int32)
  else
    (aget s 50 x1).bind fun (v2 : Int32) =>
    some v2
def f_X4_isLetter (x1 : Int32) (s : Sg) : Option Int32 :=
  (f_X4_byteAt x1 s).bind fun (v1 : Int32) =>
  if v1 < (97 : Int32) then
    some (0 : Int32)
  else
    (f_X4_byteAt x1 s).bind fun (v2 : Int32) =>
    if (122 : Int32) < v2 then
      some (0 : Int32)
    else
      some (1 : Int32)
def f_X4_isFigure (x1 : Int32) (s : Sg) : Option Int32 :=
  (f_X4_byteAt x1 s).bind fun (v1 : Int32) =>
  if v1 < (48 : Int32) then
    some (0 : Int32)
  else
    (f_X4_byteAt x1 s).bind fun (v2 : Int32) =>
    if (57 : Int32) < v2 then
      some (0 : Int32)
    else
      some (1 : Int32)
def b_X4_findToken_110 (j13 : Sg → Option Sg) (self17 : Sg → Option Sg) (s16 : Sg) : Option Sg :=
  if (s16 49 2) ≤ (s16 49 3) then
    j13 s16
  else
    (f_X4_isFigure (s16 49 3) s16).bind fun (v18 : Int32) =>
    if v18 = 0 then
      j13 s16
    else
      nm_ (sts s16 49 3 ((s16 49 3) + (1 : Int32))) fun (s19 : Sg) =>
      self17 s19
def b_X4_findToken_56 (self21 : Sg → Option Sg) (s20 : Sg) : Option Sg :=
  if (s20 49 2) ≤ (s20 49 3) then
    nm_ (sts s20 49 4 (1 : Int32)) fun (s22 : Sg) =>
    some s22
  else
    (f_X4_isLetter (s20 49 3) s20).bind fun (v23 : Int32) =>
    if v23 = 0 then
      nm_ (sts s20 49 4 (1 : Int32)) fun (s24 : Sg) =>
      some s24
    else
      nm_ (sts s20 49 3 ((s20 49 3) + (1 : Int32))) fun (s25 : Sg) =>
      self21 s25
def b_X4_findToken_0 (j2 : Sg → Option Sg) (self27 : Sg → Option Sg) (s26 : Sg) : Option Sg :=
  if (s26 49 2) ≤ (s26 49 3) then
    j2 s26
  else
    (f_X4_byteAt (s26 49 3) s26).bind fun (v28 : Int32) =>
    if v28 = (32 : Int32) then
      nm_ (sts s26 49 3 ((s26 49 3) + (1 : Int32))) fun (s29 : Sg) =>
      self27 s29
    else
      j2 s26
def f_X4_findToken (s : Sg) : Option Sg :=
  nm_ (fun (s1 : Sg) =>
    nm_ (sts s1 49 5 (s1 49 3)) fun (s3 : Sg) =>
    (f_X4_isLetter (s3 49 3) s3).bind fun (v4 : Int32) =>
    if v4 = 0 then
      (f_X4_isFigure (s3 49 3) s3).bind fun (v5 : Int32) =>
      if v5 = 0 then
        if (s3 49 3) < (s3 49 2) then
          (f_X4_byteAt (s3 49 3) s3).bind fun (v6 : Int32) =>
          nm_ (fun (a7 : Int32) =>
            nm_ (sts s3 49 4 a7) fun (s9 : Sg) =>
            nm_ (sts s9 49 3 ((s9 49 3) + (1 : Int32))) fun (s10 : Sg) =>
            some s10) fun j8 =>
          if v6 = (59 : Int32) then
            j8 (3 : Int32)
          else
            j8 (4 : Int32)
        else
          nm_ (sts s3 49 4 (0 : Int32)) fun (s11 : Sg) =>
          some s11
      else
        nm_ (fun (s12 : Sg) =>
          if (2 : Int32) < ((s12 49 3) - (s12 49 5)) then
            nm_ (sts s12 49 4 (4 : Int32)) fun (s14 : Sg) =>
            some s14
          else
            nm_ (sts s12 49 4 (2 : Int32)) fun (s15 : Sg) =>
            some s15) fun j13 =>
        lp1_ (b_X4_findToken_110 j13) fu s3
    else
      lp1_ (b_X4_findToken_56) fu s3) fun j2 =>
  lp1_ (b_X4_findToken_0 j2) fu s
def f_X5_forgetPast (t : Nat) (s : Sg) : Option Sg :=
  (f_X2_empty (t + 7) s).bind fun (s1 : Sg) =>
  some s1
def f_J0_coder_7d493 (q : Nat) (s : Sg) : Option Int32 :=
  if (1 : Int32) = 0 then
    some (vp_nar .byte (1 : Int32))
  else
    some (vp_nar .byte (0 : Int32))
def f_J0_length_8abf5 (q : Nat) (s : Sg) : Option Int32 :=
  (f_J0_coder_7d493 q s).bind fun (v1 : Int32) =>
  some ((nI (strLen.getD q 0)) >>> (v1 &&& 31))
def f_J0_isLatin1_aae02 (q : Nat) (s : Sg) : Option Int32 :=
  if (1 : Int32) = 0 then
    some (0 : Int32)
  else
    if (0 : Int32) = 0 then
      some (1 : Int32)
    else
      some (0 : Int32)
def f_J3_checkIndex_8e157 (x0 : Int32) (x1 : Int32) (s : Sg) : Option Int32 :=
  if x0 < 0 then
    none
  else
    if x0 < x1 then
      some x0
    else
      none
def f_J0_checkIndex_df160 (x0 : Int32) (x1 : Int32) (s : Sg) : Option Sg :=
  (f_J3_checkIndex_8e157 x0 x1 s).bind fun (v2 : Int32) =>
  some s
def f_J1_charAt_3b067 (q : Nat) (x1 : Int32) (s : Sg) : Option Int32 :=
  (f_J0_checkIndex_df160 x1 (nI (strLen.getD q 0)) s).bind fun (s1 : Sg) =>
  (sget q x1).bind fun (v2 : Int32) =>
  some (vp_nar .char ((Int32.toUInt32 (v2 &&& (255 : Int32)) % 65536).toInt32))
def f_J0_charAt_5068e (q : Nat) (x1 : Int32) (s : Sg) : Option Int32 :=
  (f_J0_isLatin1_aae02 q s).bind fun (v1 : Int32) =>
  if v1 = 0 then
    none
  else
    (f_J1_charAt_3b067 q x1 s).bind fun (v2 : Int32) =>
    some (vp_nar .char v2)
def b_X4_isWord_28 (q : Nat) (s : Sg) (self3 : Int32 → Option Int32) (i2 : Int32) : Option Int32 :=
  (f_J0_length_8abf5 q s).bind fun (v4 : Int32) =>
  if v4 ≤ i2 then
    some (1 : Int32)
  else
    (f_X4_byteAt ((s 49 5) + i2) s).bind fun (v5 : Int32) =>
    (f_J0_charAt_5068e q i2 s).bind fun (v6 : Int32) =>
    if v5 = v6 then
      self3 (i2 + (1 : Int32))
    else
      some (0 : Int32)
def f_X4_isWord (q : Nat) (s : Sg) : Option Int32 :=
  if (s 49 4) = (1 : Int32) then
    (f_J0_length_8abf5 q s).bind fun (v1 : Int32) =>
    if ((s 49 3) - (s 49 5)) = v1 then
      lp1_ (b_X4_isWord_28 q s) fu (0 : Int32)
    else
      some (0 : Int32)
  else
    some (0 : Int32)
def f_X4_itemCalled (s : Sg) : Option Int32 :=
  (f_X4_isWord 0 s).bind fun (v1 : Int32) =>
  if v1 = 0 then
    (f_X4_isWord 1 s).bind fun (v2 : Int32) =>
    if v2 = 0 then
      (f_X4_isWord 2 s).bind fun (v3 : Int32) =>
      if v3 = 0 then
        (f_X4_isWord 3 s).bind fun (v4 : Int32) =>
        if v4 = 0 then
          some (-1 : Int32)
        else
          some (3 : Int32)
      else
        some (2 : Int32)
    else
      some (1 : Int32)
  else
    some (0 : Int32)
def f_X5_hasNoRoomFor (t : Nat) (x1 : Int32) (s : Sg) : Option Int32 :=
  nm_ (fun (_ : Unit) =>
    if x1 = (2 : Int32) then
      (f_X2_isFull (t + 3) s).bind fun (v2 : Int32) =>
      if v2 = 0 then
        some (0 : Int32)
      else
        some (1 : Int32)
    else
      some (0 : Int32)) fun j1 =>
  if x1 = (1 : Int32) then
    (f_X2_isFull (t + 1) s).bind fun (v3 : Int32) =>
    if v3 = 0 then
      j1 ()
    else
      some (1 : Int32)
  else
    j1 ()
def b_X4_value_7 (s : Sg) (self4 : Int32 → Int32 → Option Int32) (i2 : Int32) (i3 : Int32) : Option Int32 :=
  if (s 49 3) ≤ i3 then
    some i2
  else
    (f_X4_byteAt i3 s).bind fun (v5 : Int32) =>
    nm_ ((((10 : Int32) * i2) + v5) - (48 : Int32)) fun (v6 : Int32) =>
    self4 v6 (i3 + (1 : Int32))
def f_X4_value (s : Sg) : Option Int32 :=
  nm_ (s 49 5) fun (v1 : Int32) =>
  lp2_ (b_X4_value_7 s) fu (0 : Int32) v1
def f_X5_fits (t : Nat) (x1 : Int32) (x2 : Int32) (c3 : Nat) (s : Sg) : Option Int32 :=
  (f_X7_isBelow x1 (4 : Int32) s).bind fun (v1 : Int32) =>
  if v1 = 0 then
    some (0 : Int32)
  else
    (tget 0 x1).bind fun (v2 : Int32) =>
    (f_X7_isBelow x2 v2 s).bind fun (v3 : Int32) =>
    if v3 = 0 then
      some (0 : Int32)
    else
      (aget s c3 x2).bind fun (v4 : Int32) =>
      nm_ (fun (_ : Unit) =>
        nm_ (fun (_ : Unit) =>
          nm_ (fun (_ : Unit) =>
            (tget 1 ((x1 * (6 : Int32)) + x2)).bind fun (v8 : Int32) =>
            (f_X7_isBelow v4 v8 s).bind fun (v9 : Int32) =>
            some (v9 &&& 1)) fun j7 =>
          if x1 = (2 : Int32) then
            if x2 = (1 : Int32) then
              (f_X2_size (t + 1) s).bind fun (v10 : Int32) =>
              (f_X7_isBelow v4 v10 s).bind fun (v11 : Int32) =>
              some (v11 &&& 1)
            else
              j7 ()
          else
            j7 ()) fun j6 =>
        if x1 = (1 : Int32) then
          if x2 = (2 : Int32) then
            if (1 : Int32) ≤ v4 then
              j6 ()
            else
              some (0 : Int32)
          else
            j6 ()
        else
          j6 ()) fun j5 =>
      if x1 = (1 : Int32) then
        if x2 = (1 : Int32) then
          (aget s c3 (0 : Int32)).bind fun (v12 : Int32) =>
          if v4 = v12 then
            some (0 : Int32)
          else
            j5 ()
        else
          j5 ()
      else
        j5 ()
def b_X5_begin_38 (t : Nat) (x1 : Int32) (v1 : Int32) (self8 : Int32 → Sg → Option (Int32 × Sg)) (i6 : Int32) (s7 : Sg) : Option (Int32 × Sg) :=
  if (16 : Int32) ≤ i6 then
    nm_ (sts s7 t 7 x1) fun (s9 : Sg) =>
    some (v1, s9)
  else
    (aset s7 (t + 9) i6 (0 : Int32)).bind fun (s10 : Sg) =>
    self8 (i6 + (1 : Int32)) s10
def f_X5_begin (t : Nat) (x1 : Int32) (s : Sg) : Option (Int32 × Sg) :=
  (f_X2_size (t + 1) s).bind fun (v1 : Int32) =>
  (f_X2_empty (t + 1) s).bind fun (s2 : Sg) =>
  (f_X2_empty (t + 3) s2).bind fun (s3 : Sg) =>
  (f_X2_empty (t + 5) s3).bind fun (s4 : Sg) =>
  (f_X2_empty (t + 7) s4).bind fun (s5 : Sg) =>
  lp2_ (b_X5_begin_38 t x1 v1) fu (0 : Int32) s5
def b_X5_remember_25 (j5 : Sg → Option Sg) (t : Nat) (self12 : Int32 → Sg → Option Sg) (i10 : Int32) (s11 : Sg) : Option Sg :=
  if (48 : Int32) ≤ i10 then
    j5 s11
  else
    (f_X2_cell (t + 3) (i10 / (6 : Int32)) (i10 - i10 / (6 : Int32) * (6 : Int32)) s11).bind fun (v13 : Int32) =>
    (aset s11 (t + 10) ((2 : Int32) + i10) v13).bind fun (s14 : Sg) =>
    self12 (i10 + (1 : Int32)) s14
def f_X5_remember (t : Nat) (s : Sg) : Option Sg :=
  (aset s (t + 10) (0 : Int32) (s t 7)).bind fun (s1 : Sg) =>
  (f_X2_size (t + 3) s1).bind fun (v2 : Int32) =>
  (aset s1 (t + 10) (1 : Int32) v2).bind fun (s3 : Sg) =>
  nm_ (fun (s4 : Sg) =>
    (f_X2_isFull (t + 7) s4).bind fun (v6 : Int32) =>
    if v6 = 0 then
      (f_X2_add (t + 7) (t + 10) s4).bind fun (s7 : Sg) =>
      some s7
    else
      (f_X2_drop (t + 7) (0 : Int32) s4).bind fun (s8 : Sg) =>
      (f_X2_add (t + 7) (t + 10) s8).bind fun (s9 : Sg) =>
      some s9) fun j5 =>
  lp2_ (b_X5_remember_25 j5 t) fu (0 : Int32) s3
def f_X5_changeRent (t : Nat) (x1 : Int32) (x2 : Int32) (s : Sg) : Option (Int32 × Sg) :=
  (f_X7_isBelow x1 (16 : Int32) s).bind fun (v1 : Int32) =>
  if v1 = 0 then
    some ((0 : Int32), s)
  else
    (aget s (t + 9) x1).bind fun (v2 : Int32) =>
    (aset s (t + 9) x1 x2).bind fun (s3 : Sg) =>
    some (v2, s3)
def f_X5_take (t : Nat) (x1 : Int32) (c2 : Nat) (s : Sg) : Option (Int32 × Sg) :=
  if x1 = (0 : Int32) then
    (aget s c2 (0 : Int32)).bind fun (v1 : Int32) =>
    ob2 (f_X5_begin t v1 s) fun (v2 : Int32) (s3 : Sg) =>
    some (v2, s3)
  else
    if x1 = (1 : Int32) then
      (f_X2_empty (t + 7) s).bind fun (s4 : Sg) =>
      (f_X2_add (t + 1) c2 s4).bind fun (s5 : Sg) =>
      (f_X2_size (t + 1) s5).bind fun (v6 : Int32) =>
      some (v6 - (1 : Int32), s5)
    else
      if x1 = (2 : Int32) then
        (f_X5_remember t s).bind fun (s7 : Sg) =>
        (f_X2_add (t + 3) c2 s7).bind fun (s8 : Sg) =>
        (f_X2_size (t + 3) s8).bind fun (v9 : Int32) =>
        some (v9 - (1 : Int32), s8)
      else
        (aget s c2 (0 : Int32)).bind fun (v10 : Int32) =>
        (aget s c2 (1 : Int32)).bind fun (v11 : Int32) =>
        ob2 (f_X5_changeRent t v10 v11 s) fun (v12 : Int32) (s13 : Sg) =>
        some (v12, s13)
def b_X4_takeItem_36 (v1 : Int32) (j6 : Sg → Option (Int32 × Sg)) (t1 : Nat) (self12 : Int32 → Sg → Option (Int32 × Sg)) (i10 : Int32) (s11 : Sg) : Option (Int32 × Sg) :=
  (tget 0 v1).bind fun (v13 : Int32) =>
  if v13 ≤ i10 then
    j6 s11
  else
    (f_X4_findToken s11).bind fun (s14 : Sg) =>
    if (s14 49 4) = (2 : Int32) then
      (f_X4_value s14).bind fun (v15 : Int32) =>
      (aset s14 51 i10 v15).bind fun (s16 : Sg) =>
      (f_X5_fits t1 v1 i10 51 s16).bind fun (v17 : Int32) =>
      if v17 = 0 then
        some ((0 : Int32), s16)
      else
        self12 (i10 + (1 : Int32)) s16
    else
      some ((0 : Int32), s14)
def f_X4_takeItem (t1 : Nat) (x2 : Int32) (s : Sg) : Option (Int32 × Sg) :=
  (f_X4_itemCalled s).bind fun (v1 : Int32) =>
  if v1 = (-1 : Int32) then
    some ((0 : Int32), s)
  else
    nm_ (fun (a2 : Int32) =>
      if x2 = a2 then
        (f_X5_hasNoRoomFor t1 v1 s).bind fun (v4 : Int32) =>
        if v4 = 0 then
          nm_ (fun (s5 : Sg) =>
            (f_X4_findToken s5).bind fun (s7 : Sg) =>
            if (s7 49 4) = (3 : Int32) then
              ob2 (f_X5_take t1 v1 51 s7) fun (v8 : Int32) (s9 : Sg) =>
              some ((1 : Int32), s9)
            else
              some ((0 : Int32), s7)) fun j6 =>
          lp2_ (b_X4_takeItem_36 v1 j6 t1) fu (0 : Int32) s
        else
          some ((0 : Int32), s)
      else
        some ((0 : Int32), s)) fun j3 =>
    if v1 = 0 then
      j3 (1 : Int32)
    else
      j3 (0 : Int32)
def b_X4_readInto_7 (t1 : Nat) (self4 : Int32 → Sg → Option (Int32 × Sg)) (i2 : Int32) (s3 : Sg) : Option (Int32 × Sg) :=
  if (150 : Int32) < i2 then
    some ((-10 : Int32) - (s3 49 5), s3)
  else
    (f_X4_findToken s3).bind fun (s5 : Sg) =>
    nm_ (fun (_ : Unit) =>
      nm_ (fun (a7 : Int32) =>
        ob2 (f_X4_takeItem t1 a7 s5) fun (v9 : Int32) (s10 : Sg) =>
        if v9 = 0 then
          some ((-10 : Int32) - (s10 49 5), s10)
        else
          self4 (i2 + (1 : Int32)) s10) fun j8 =>
      if i2 = 0 then
        j8 (1 : Int32)
      else
        j8 (0 : Int32)) fun j6 =>
    if (s5 49 4) = 0 then
      if i2 ≤ 0 then
        j6 ()
      else
        (f_X5_forgetPast t1 s5).bind fun (s11 : Sg) =>
        some (i2, s11)
    else
      j6 ()
def f_X4_readInto (t1 : Nat) (s : Sg) : Option (Int32 × Sg) :=
  nm_ (sts s 49 3 (0 : Int32)) fun (s1 : Sg) =>
  lp2_ (b_X4_readInto_7 t1) fu (0 : Int32) s1
def f_X5_dropEvent (t : Nat) (x1 : Int32) (s : Sg) : Option Sg :=
  (f_X5_remember t s).bind fun (s1 : Sg) =>
  (f_X2_drop (t + 3) x1 s1).bind fun (s2 : Sg) =>
  some s2
def f_X5_changeLaw (t : Nat) (x1 : Int32) (s : Sg) : Option (Int32 × Sg) :=
  nm_ (s t 7) fun (v1 : Int32) =>
  (f_X5_remember t s).bind fun (s2 : Sg) =>
  nm_ (sts s2 t 7 x1) fun (s3 : Sg) =>
  some (v1, s3)
def b_X5_goBack_47 (j12 : Sg → Option Sg) (t : Nat) (v2 : Int32) (i6 : Int32) (self16 : Int32 → Sg → Option Sg) (i14 : Int32) (s15 : Sg) : Option Sg :=
  if (6 : Int32) ≤ i14 then
    j12 s15
  else
    (f_X2_cell (t + 7) v2 (((2 : Int32) + (i6 * (6 : Int32))) + i14) s15).bind fun (v17 : Int32) =>
    (aset s15 (t + 11) i14 v17).bind fun (s18 : Sg) =>
    self16 (i14 + (1 : Int32)) s18
def b_X5_goBack_32 (t : Nat) (v2 : Int32) (self8 : Int32 → Sg → Option Sg) (i6 : Int32) (s7 : Sg) : Option Sg :=
  (f_X2_cell (t + 7) v2 (1 : Int32) s7).bind fun (v9 : Int32) =>
  if v9 ≤ i6 then
    (f_X2_drop (t + 7) v2 s7).bind fun (s10 : Sg) =>
    some s10
  else
    nm_ (fun (s11 : Sg) =>
      (f_X2_add (t + 3) (t + 11) s11).bind fun (s13 : Sg) =>
      self8 (i6 + (1 : Int32)) s13) fun j12 =>
    lp2_ (b_X5_goBack_47 j12 t v2 i6) fu (0 : Int32) s7
def f_X5_goBack (t : Nat) (s : Sg) : Option Sg :=
  (f_X2_size (t + 7) s).bind fun (v1 : Int32) =>
  nm_ (v1 - (1 : Int32)) fun (v2 : Int32) =>
  (f_X2_cell (t + 7) v2 (0 : Int32) s).bind fun (v3 : Int32) =>
  nm_ (sts s t 7 v3) fun (s4 : Sg) =>
  (f_X2_empty (t + 3) s4).bind fun (s5 : Sg) =>
  lp2_ (b_X5_goBack_32 t v2) fu (0 : Int32) s5
def f_X5_copy (t : Nat) (t1 : Nat) (s : Sg) : Option Sg :=
  (f_X2_copy (t + 1) (t1 + 1) s).bind fun (s1 : Sg) =>
  (f_X2_copy (t + 3) (t1 + 3) s1).bind fun (s2 : Sg) =>
  (f_X2_copy (t + 5) (t1 + 5) s2).bind fun (s3 : Sg) =>
  (f_X2_copy (t + 7) (t1 + 7) s3).bind fun (s4 : Sg) =>
  (acpy s4 (t1 + 9) (0 : Int32) (t + 9) (0 : Int32) (16 : Int32)).bind fun (s5 : Sg) =>
  nm_ (sts s5 t 7 (s5 t1 7)) fun (s6 : Sg) =>
  some s6
def b_X5_mixInto_19 (t : Nat) (s : Sg) (self5 : Int64 → Int32 → Option Int64) (i3 : Int64) (i4 : Int32) : Option Int64 :=
  if (16 : Int32) ≤ i4 then
    (f_X2_mixInto (t + 5) i3 s).bind fun (v6 : Int64) =>
    some v6
  else
    (aget s (t + 9) i4).bind fun (v7 : Int32) =>
    nm_ (((31 : Int64) * i3) + (Int32.toInt64 v7)) fun (v8 : Int64) =>
    self5 v8 (i4 + (1 : Int32))
def f_X5_mixInto (t : Nat) (x1 : Int64) (s : Sg) : Option Int64 :=
  (f_X2_mixInto (t + 1) x1 s).bind fun (v1 : Int64) =>
  (f_X2_mixInto (t + 3) v1 s).bind fun (v2 : Int64) =>
  lp2_ (b_X5_mixInto_19 t s) fu v2 (0 : Int32)
def f_X6_shorten (x1 : Int32) (x2 : Int32) (x3 : Int32) (s : Sg) : Option Sg :=
  (f_X7_isBelow x1 (8 : Int32) s).bind fun (v1 : Int32) =>
  if v1 = 0 then
    some s
  else
    (f_X7_isBelow x2 (8 : Int32) s).bind fun (v2 : Int32) =>
    if v2 = 0 then
      some s
    else
      (aget s 67 ((x1 * (8 : Int32)) + x2)).bind fun (v3 : Int32) =>
      nm_ (if x3 < v3 then x3 else v3) fun (v4 : Int32) =>
      (aset s 67 ((x1 * (8 : Int32)) + x2) v4).bind fun (s5 : Sg) =>
      some s5
def b_X6_measure_116 (j14 : Sg → Option Sg) (i10 : Int32) (i5 : Int32) (self17 : Int32 → Sg → Option Sg) (i15 : Int32) (s16 : Sg) : Option Sg :=
  if (8 : Int32) ≤ i15 then
    j14 s16
  else
    (aget s16 67 ((i10 * (8 : Int32)) + i5)).bind fun (v18 : Int32) =>
    (aget s16 67 ((i5 * (8 : Int32)) + i15)).bind fun (v19 : Int32) =>
    (f_X6_shorten i10 i15 (v18 + v19) s16).bind fun (s20 : Sg) =>
    self17 (i15 + (1 : Int32)) s20
def b_X6_measure_107 (j9 : Sg → Option Sg) (i5 : Int32) (self12 : Int32 → Sg → Option Sg) (i10 : Int32) (s11 : Sg) : Option Sg :=
  if (8 : Int32) ≤ i10 then
    j9 s11
  else
    nm_ (fun (s13 : Sg) =>
      self12 (i10 + (1 : Int32)) s13) fun j14 =>
    lp2_ (b_X6_measure_116 j14 i10 i5) fu (0 : Int32) s11
def b_X6_measure_99 (self7 : Int32 → Sg → Option Sg) (i5 : Int32) (s6 : Sg) : Option Sg :=
  if (8 : Int32) ≤ i5 then
    some s6
  else
    nm_ (fun (s8 : Sg) =>
      self7 (i5 + (1 : Int32)) s8) fun j9 =>
    lp2_ (b_X6_measure_107 j9 i5) fu (0 : Int32) s6
def b_X6_measure_42 (o1 : Nat) (j4 : Sg → Option Sg) (self23 : Int32 → Sg → Option Sg) (i21 : Int32) (s22 : Sg) : Option Sg :=
  (f_X2_size o1 s22).bind fun (v24 : Int32) =>
  if v24 ≤ i21 then
    j4 s22
  else
    (f_X2_cell o1 i21 (0 : Int32) s22).bind fun (v25 : Int32) =>
    (f_X2_cell o1 i21 (1 : Int32) s22).bind fun (v26 : Int32) =>
    (f_X2_cell o1 i21 (2 : Int32) s22).bind fun (v27 : Int32) =>
    (f_X6_shorten v25 v26 v27 s22).bind fun (s28 : Sg) =>
    (f_X2_cell o1 i21 (2 : Int32) s28).bind fun (v29 : Int32) =>
    (f_X6_shorten v26 v25 v29 s28).bind fun (s30 : Sg) =>
    self23 (i21 + (1 : Int32)) s30
def b_X6_measure_2 (j2 : Sg → Option Sg) (self33 : Int32 → Sg → Option Sg) (i31 : Int32) (s32 : Sg) : Option Sg :=
  if (nI (alen 67)) ≤ i31 then
    j2 s32
  else
    nm_ (fun (a34 : Int32) =>
      (aset s32 67 i31 a34).bind fun (s36 : Sg) =>
      self33 (i31 + (1 : Int32)) s36) fun j35 =>
    if (i31 / (8 : Int32)) = (i31 - i31 / (8 : Int32) * (8 : Int32)) then
      j35 (0 : Int32)
    else
      j35 (1000000 : Int32)
def f_X6_measure (o1 : Nat) (s : Sg) : Option Sg :=
  nm_ (fun (s1 : Sg) =>
    nm_ (fun (s3 : Sg) =>
      lp2_ (b_X6_measure_99) fu (0 : Int32) s3) fun j4 =>
    lp2_ (b_X6_measure_42 o1 j4) fu (0 : Int32) s1) fun j2 =>
  lp2_ (b_X6_measure_2 j2) fu (0 : Int32) s
def b_X6_soonest_17 (s : Sg) (x1 : Int32) (x2 : Int32) (self4 : Int32 → Int32 → Option Int32) (i2 : Int32) (i3 : Int32) : Option Int32 :=
  if (8 : Int32) ≤ i3 then
    some i2
  else
    (aget s 68 ((x1 * (8 : Int32)) + i3)).bind fun (v5 : Int32) =>
    (aget s 67 ((i3 * (8 : Int32)) + x2)).bind fun (v6 : Int32) =>
    nm_ (if (v5 + v6) < i2 then (v5 + v6) else i2) fun (v7 : Int32) =>
    self4 v7 (i3 + (1 : Int32))
def f_X6_soonest (x1 : Int32) (x2 : Int32) (s : Sg) : Option Int32 :=
  (f_X7_isBelow x2 (8 : Int32) s).bind fun (v1 : Int32) =>
  if v1 = 0 then
    some (1000000 : Int32)
  else
    lp2_ (b_X6_soonest_17 s x1 x2) fu (1000000 : Int32) (0 : Int32)
def f_X6_reach (x1 : Int32) (x2 : Int32) (x3 : Int32) (s : Sg) : Option Sg :=
  (f_X7_isBelow x2 (8 : Int32) s).bind fun (v1 : Int32) =>
  if v1 = 0 then
    some s
  else
    nm_ ((x1 * (8 : Int32)) + x2) fun (v2 : Int32) =>
    (aget s 68 v2).bind fun (v3 : Int32) =>
    nm_ (if x3 < v3 then x3 else v3) fun (v4 : Int32) =>
    (aset s 68 v2 v4).bind fun (s5 : Sg) =>
    some s5
def b_X6_goOn_3 (o1 : Nat) (x3 : Int32) (x2 : Int32) (self3 : Int32 → Sg → Option Sg) (i1 : Int32) (s2 : Sg) : Option Sg :=
  (f_X2_size o1 s2).bind fun (v4 : Int32) =>
  if v4 ≤ i1 then
    some s2
  else
    (f_X7_holds (x3 &&& (x2 ^^^ (-1 : Int32))) i1 s2).bind fun (v5 : Int32) =>
    nm_ (fun (s6 : Sg) =>
      self3 (i1 + (1 : Int32)) s6) fun j7 =>
    if v5 = 0 then
      j7 s2
    else
      (f_X2_cell o1 i1 (0 : Int32) s2).bind fun (v8 : Int32) =>
      (f_X2_cell o1 i1 (1 : Int32) s2).bind fun (v9 : Int32) =>
      nm_ (x2 ||| ((1 : Int32) <<< (i1 &&& 31))) fun (v10 : Int32) =>
      (f_X2_cell o1 i1 (2 : Int32) s2).bind fun (v11 : Int32) =>
      (f_X6_soonest x2 v8 s2).bind fun (v12 : Int32) =>
      (f_X6_reach v10 v9 (v12 + v11) s2).bind fun (s13 : Sg) =>
      (f_X6_soonest x2 v9 s13).bind fun (v14 : Int32) =>
      (f_X6_reach v10 v8 (v14 + v11) s13).bind fun (s15 : Sg) =>
      j7 s15
def f_X6_goOn (o1 : Nat) (x2 : Int32) (x3 : Int32) (s : Sg) : Option Sg :=
  lp2_ (b_X6_goOn_3 o1 x3 x2) fu (0 : Int32) s
def b_X6_shortest_100 (j10 : Int32 → Option (Int32 × Sg)) (s7 : Sg) (x3 : Int32) (self13 : Int32 → Int32 → Option (Int32 × Sg)) (i11 : Int32) (i12 : Int32) : Option (Int32 × Sg) :=
  if (8 : Int32) ≤ i12 then
    j10 i11
  else
    (aget s7 68 ((x3 * (8 : Int32)) + i12)).bind fun (v14 : Int32) =>
    nm_ (if v14 < i11 then v14 else i11) fun (v15 : Int32) =>
    self13 v15 (i12 + (1 : Int32))
def b_X6_shortest_64 (x3 : Int32) (j8 : Sg → Option (Int32 × Sg)) (o1 : Nat) (self18 : Int32 → Sg → Option (Int32 × Sg)) (i16 : Int32) (s17 : Sg) : Option (Int32 × Sg) :=
  if x3 ≤ i16 then
    j8 s17
  else
    nm_ (fun (s19 : Sg) =>
      self18 (i16 + (1 : Int32)) s19) fun j20 =>
    if (i16 &&& x3) = i16 then
      (f_X6_goOn o1 i16 x3 s17).bind fun (s21 : Sg) =>
      j20 s21
    else
      j20 s17
def b_X6_shortest_29 (j5 : Sg → Option (Int32 × Sg)) (self24 : Int32 → Sg → Option (Int32 × Sg)) (i22 : Int32) (s23 : Sg) : Option (Int32 × Sg) :=
  if (nI (alen 68)) ≤ i22 then
    j5 s23
  else
    (aset s23 68 i22 (1000000 : Int32)).bind fun (s25 : Sg) =>
    self24 (i22 + (1 : Int32)) s25
def f_X6_shortest (o1 : Nat) (x2 : Int32) (x3 : Int32) (s : Sg) : Option (Int32 × Sg) :=
  (f_X7_isBelow x2 (8 : Int32) s).bind fun (v1 : Int32) =>
  if v1 = 0 then
    some ((-1 : Int32), s)
  else
    (f_X7_isBelow x3 (128 : Int32) s).bind fun (v2 : Int32) =>
    if v2 = 0 then
      some ((-1 : Int32), s)
    else
      (f_X6_measure o1 s).bind fun (s3 : Sg) =>
      nm_ (fun (s4 : Sg) =>
        (aset s4 68 x2 (0 : Int32)).bind fun (s6 : Sg) =>
        nm_ (fun (s7 : Sg) =>
          nm_ (fun (a9 : Int32) =>
            if (1000000 : Int32) ≤ a9 then
              some ((-1 : Int32), s7)
            else
              some (a9, s7)) fun j10 =>
          lp2_ (b_X6_shortest_100 j10 s7 x3) fu (1000000 : Int32) (0 : Int32)) fun j8 =>
        lp2_ (b_X6_shortest_64 x3 j8 o1) fu (0 : Int32) s6) fun j5 =>
      lp2_ (b_X6_shortest_29 j5) fu (0 : Int32) s3
def f_X7_refuseBad (s : Sg) : Option (Int32 × Sg) :=
  nm_ (sts s 0 11 ((s 0 11) + (1 : Int32))) fun (s1 : Sg) =>
  some ((-2 : Int32), s1)
def f_X7_refuseFull (s : Sg) : Option (Int32 × Sg) :=
  nm_ (sts s 0 13 ((s 0 13) + (1 : Int32))) fun (s1 : Sg) =>
  some ((-4 : Int32), s1)
def b_X7_tell_2 (x1 : Int32) (j1 : Unit → Option (Int32 × Sg)) (s : Sg) (self8 : Int32 → Option (Int32 × Sg)) (i7 : Int32) : Option (Int32 × Sg) :=
  (tget 0 x1).bind fun (v9 : Int32) =>
  if v9 ≤ i7 then
    j1 ()
  else
    (f_X5_fits 1 x1 i7 69 s).bind fun (v10 : Int32) =>
    if v10 = 0 then
      ob2 (f_X7_refuseBad s) fun (v11 : Int32) (s12 : Sg) =>
      some (v11, s12)
    else
      self8 (i7 + (1 : Int32))
def f_X7_tell (x1 : Int32) (s : Sg) : Option (Int32 × Sg) :=
  nm_ (fun (_ : Unit) =>
    (f_X5_hasNoRoomFor 1 x1 s).bind fun (v2 : Int32) =>
    if v2 = 0 then
      ob2 (f_X5_take 1 x1 69 s) fun (v3 : Int32) (s4 : Sg) =>
      some (v3, s4)
    else
      ob2 (f_X7_refuseFull s) fun (v5 : Int32) (s6 : Sg) =>
      some (v5, s6)) fun j1 =>
  lp1_ (b_X7_tell_2 x1 j1 s) fu (0 : Int32)
def f_X7_town (x1 : Int32) (s : Sg) : Option (Int32 × Sg) :=
  (aset s 69 (0 : Int32) x1).bind fun (s1 : Sg) =>
  ob2 (f_X7_tell (0 : Int32) s1) fun (v2 : Int32) (s3 : Sg) =>
  some (v2, s3)
def f_X7_street (x1 : Int32) (x2 : Int32) (x3 : Int32) (x4 : Int32) (s : Sg) : Option (Int32 × Sg) :=
  (aset s 69 (0 : Int32) x1).bind fun (s1 : Sg) =>
  (aset s1 69 (1 : Int32) x2).bind fun (s2 : Sg) =>
  (aset s2 69 (2 : Int32) x3).bind fun (s3 : Sg) =>
  (aset s3 69 (3 : Int32) x4).bind fun (s4 : Sg) =>
  ob2 (f_X7_tell (1 : Int32) s4) fun (v5 : Int32) (s6 : Sg) =>
  some (v5, s6)
def f_X7_event (x1 : Int32) (x2 : Int32) (x3 : Int32) (x4 : Int32) (x5 : Int32) (x6 : Int32) (s : Sg) : Option (Int32 × Sg) :=
  (aset s 69 (0 : Int32) x1).bind fun (s1 : Sg) =>
  (aset s1 69 (1 : Int32) x2).bind fun (s2 : Sg) =>
  (aset s2 69 (2 : Int32) x3).bind fun (s3 : Sg) =>
  (aset s3 69 (3 : Int32) x4).bind fun (s4 : Sg) =>
  (aset s4 69 (4 : Int32) x5).bind fun (s5 : Sg) =>
  (aset s5 69 (5 : Int32) x6).bind fun (s6 : Sg) =>
  ob2 (f_X7_tell (2 : Int32) s6) fun (v7 : Int32) (s8 : Sg) =>
  some (v7, s8)
def f_X7_back (x1 : Int32) (s : Sg) : Option (Int32 × Sg) :=
  (f_X2_size 4 s).bind fun (v1 : Int32) =>
  (f_X7_isBelow x1 v1 s).bind fun (v2 : Int32) =>
  if v2 = 0 then
    ob2 (f_X7_refuseBad s) fun (v5 : Int32) (s6 : Sg) =>
    some (v5, s6)
  else
    (f_X5_dropEvent 1 x1 s).bind fun (s3 : Sg) =>
    (f_X2_size 4 s3).bind fun (v4 : Int32) =>
    some (v4, s3)
def f_X7_law (x1 : Int32) (s : Sg) : Option (Int32 × Sg) :=
  (tget 1 (0 : Int32)).bind fun (v1 : Int32) =>
  (f_X7_isBelow x1 v1 s).bind fun (v2 : Int32) =>
  if v2 = 0 then
    ob2 (f_X7_refuseBad s) fun (v5 : Int32) (s6 : Sg) =>
    some (v5, s6)
  else
    ob2 (f_X5_changeLaw 1 x1 s) fun (v3 : Int32) (s4 : Sg) =>
    some (v3, s4)
def f_X7_refuseNo (s : Sg) : Option (Int32 × Sg) :=
  nm_ (sts s 0 12 ((s 0 12) + (1 : Int32))) fun (s1 : Sg) =>
  some ((-3 : Int32), s1)
def f_X7_undo (s : Sg) : Option (Int32 × Sg) :=
  (f_X2_size 8 s).bind fun (v1 : Int32) =>
  if v1 = 0 then
    ob2 (f_X7_refuseNo s) fun (v4 : Int32) (s5 : Sg) =>
    some (v4, s5)
  else
    (f_X5_goBack 1 s).bind fun (s2 : Sg) =>
    (f_X2_size 4 s2).bind fun (v3 : Int32) =>
    some (v3, s2)
def f_X7_rent (x1 : Int32) (x2 : Int32) (s : Sg) : Option (Int32 × Sg) :=
  (aset s 69 (0 : Int32) x1).bind fun (s1 : Sg) =>
  (aset s1 69 (1 : Int32) x2).bind fun (s2 : Sg) =>
  ob2 (f_X7_tell (3 : Int32) s2) fun (v3 : Int32) (s4 : Sg) =>
  some (v3, s4)
def f_X7_type (x1 : Int32) (s : Sg) : Option (Int32 × Sg) :=
  (f_X7_isBelow x1 (128 : Int32) s).bind fun (v1 : Int32) =>
  if v1 = 0 then
    ob2 (f_X7_refuseBad s) fun (v7 : Int32) (s8 : Sg) =>
    some (v7, s8)
  else
    (f_X4_isFull s).bind fun (v2 : Int32) =>
    if v2 = 0 then
      (f_X4_add x1 s).bind fun (s3 : Sg) =>
      (f_X4_size s3).bind fun (v4 : Int32) =>
      some (v4, s3)
    else
      ob2 (f_X7_refuseFull s) fun (v5 : Int32) (s6 : Sg) =>
      some (v5, s6)
def f_X7_clear (s : Sg) : Option (Int32 × Sg) :=
  (f_X4_size s).bind fun (v1 : Int32) =>
  (f_X4_empty s).bind fun (s2 : Sg) =>
  some (v1, s2)
def f_X7_read (s : Sg) : Option (Int32 × Sg) :=
  ob2 (f_X4_readInto 13 s) fun (v1 : Int32) (s2 : Sg) =>
  if v1 < 0 then
    some (v1, s2)
  else
    (f_X5_copy 1 13 s2).bind fun (s3 : Sg) =>
    some (v1, s3)
def f_X7_of (x1 : Int32) (x2 : Int32) (s : Sg) : Option (Int32 × Sg) :=
  (f_X2_size 4 s).bind fun (v1 : Int32) =>
  (f_X7_isBelow x1 v1 s).bind fun (v2 : Int32) =>
  if v2 = 0 then
    ob2 (f_X7_refuseBad s) fun (v3 : Int32) (s4 : Sg) =>
    some (v3, s4)
  else
    (f_X7_isBelow x2 (10 : Int32) s).bind fun (v5 : Int32) =>
    if v5 = 0 then
      ob2 (f_X7_refuseBad s) fun (v11 : Int32) (s12 : Sg) =>
      some (v11, s12)
    else
      if x2 = (6 : Int32) then
        (f_X5_needed 1 x1 s).bind fun (v6 : Int32) =>
        some (v6, s)
      else
        if x2 = (7 : Int32) then
          (f_X5_rankGiven 1 x1 s).bind fun (v7 : Int32) =>
          some (v7, s)
        else
          if x2 = (8 : Int32) then
            (f_X5_hoursGiven 1 x1 s).bind fun (v8 : Int32) =>
            some (v8, s)
          else
            if x2 = (9 : Int32) then
              (f_X5_streetsOf 1 x1 s).bind fun (v9 : Int32) =>
              some (v9, s)
            else
              (f_X2_cell 4 x1 x2 s).bind fun (v10 : Int32) =>
              some (v10, s)
def f_X7_isStreet (x1 : Int32) (s : Sg) : Option Int32 :=
  (f_X2_size 2 s).bind fun (v1 : Int32) =>
  (f_X7_isBelow x1 v1 s).bind fun (v2 : Int32) =>
  some (v2 &&& 1)
def f_X7_name (x1 : Int32) (x2 : Int32) (s : Sg) : Option (Int32 × Sg) :=
  (f_X7_isStreet x1 s).bind fun (v1 : Int32) =>
  if v1 = 0 then
    ob2 (f_X7_refuseBad s) fun (v2 : Int32) (s3 : Sg) =>
    some (v2, s3)
  else
    (f_X7_isHour x2 s).bind fun (v4 : Int32) =>
    if v4 = 0 then
      ob2 (f_X7_refuseBad s) fun (v7 : Int32) (s8 : Sg) =>
      some (v7, s8)
    else
      (f_X1_write 1 s).bind fun (s5 : Sg) =>
      (f_X1_at x1 x2 s5).bind fun (v6 : Int32) =>
      some (v6, s5)
def f_X7_changes (x1 : Int32) (s : Sg) : Option (Int32 × Sg) :=
  (f_X7_isStreet x1 s).bind fun (v1 : Int32) =>
  if v1 = 0 then
    ob2 (f_X7_refuseBad s) fun (v5 : Int32) (s6 : Sg) =>
    some (v5, s6)
  else
    (f_X0_plan 1 s).bind fun (s2 : Sg) =>
    ob2 (f_X0_renamings x1 (-1 : Int32) s2) fun (v3 : Int32) (s4 : Sg) =>
    some (v3, s4)
def b_X7_which_45 (x3 : Int32) (s9 : Sg) (x1 : Int32) (self12 : Int32 → Int32 → Option (Int32 × Sg)) (i10 : Int32) (i11 : Int32) : Option (Int32 × Sg) :=
  if x3 < i11 then
    some (i10, s9)
  else
    (f_X1_having x1 i11 s9).bind fun (v13 : Int32) =>
    nm_ (i10 ||| v13) fun (v14 : Int32) =>
    self12 v14 (i11 + (1 : Int32))
def f_X7_which (x1 : Int32) (x2 : Int32) (x3 : Int32) (s : Sg) : Option (Int32 × Sg) :=
  if x1 < 0 then
    ob2 (f_X7_refuseBad s) fun (v1 : Int32) (s2 : Sg) =>
    some (v1, s2)
  else
    (f_X7_isHour x2 s).bind fun (v3 : Int32) =>
    if v3 = 0 then
      ob2 (f_X7_refuseBad s) fun (v4 : Int32) (s5 : Sg) =>
      some (v4, s5)
    else
      (f_X7_isHour x3 s).bind fun (v6 : Int32) =>
      if v6 = 0 then
        ob2 (f_X7_refuseBad s) fun (v7 : Int32) (s8 : Sg) =>
        some (v7, s8)
      else
        if x2 ≤ x3 then
          (f_X1_write 1 s).bind fun (s9 : Sg) =>
          lp2_ (b_X7_which_45 x3 s9 x1) fu (0 : Int32) x2
        else
          ob2 (f_X7_refuseBad s) fun (v15 : Int32) (s16 : Sg) =>
          some (v15, s16)
def f_X7_letter (x1 : Int32) (x2 : Int32) (x3 : Int32) (s : Sg) : Option (Int32 × Sg) :=
  (f_X7_isStreet x1 s).bind fun (v1 : Int32) =>
  if v1 = 0 then
    ob2 (f_X7_refuseBad s) fun (v2 : Int32) (s3 : Sg) =>
    some (v2, s3)
  else
    (f_X7_isHour x2 s).bind fun (v4 : Int32) =>
    if v4 = 0 then
      ob2 (f_X7_refuseBad s) fun (v5 : Int32) (s6 : Sg) =>
      some (v5, s6)
    else
      (f_X7_isHour x3 s).bind fun (v7 : Int32) =>
      if v7 = 0 then
        ob2 (f_X7_refuseBad s) fun (v8 : Int32) (s9 : Sg) =>
        some (v8, s9)
      else
        if x2 ≤ x3 then
          (f_X1_write 1 s).bind fun (s10 : Sg) =>
          (f_X1_at x1 x2 s10).bind fun (v11 : Int32) =>
          (f_X1_firstHaving v11 x3 s10).bind fun (v12 : Int32) =>
          if v12 = (-1 : Int32) then
            some ((2 : Int32), s10)
          else
            if v12 = x1 then
              some ((0 : Int32), s10)
            else
              some ((1 : Int32), s10)
        else
          ob2 (f_X7_refuseBad s) fun (v13 : Int32) (s14 : Sg) =>
          some (v13, s14)
def f_X7_cab (x1 : Int32) (x2 : Int32) (x3 : Int32) (s : Sg) : Option (Int32 × Sg) :=
  (f_X7_isStreet x1 s).bind fun (v1 : Int32) =>
  if v1 = 0 then
    ob2 (f_X7_refuseBad s) fun (v2 : Int32) (s3 : Sg) =>
    some (v2, s3)
  else
    (f_X7_isHour x2 s).bind fun (v4 : Int32) =>
    if v4 = 0 then
      ob2 (f_X7_refuseBad s) fun (v5 : Int32) (s6 : Sg) =>
      some (v5, s6)
    else
      (f_X7_isHour x3 s).bind fun (v7 : Int32) =>
      if v7 = 0 then
        ob2 (f_X7_refuseBad s) fun (v12 : Int32) (s13 : Sg) =>
        some (v12, s13)
      else
        (f_X1_write 1 s).bind fun (s8 : Sg) =>
        (f_X1_at x1 x2 s8).bind fun (v9 : Int32) =>
        nm_ (if (0 : Int32) < (x2 - x3) then (x2 - x3) else (0 : Int32)) fun (v10 : Int32) =>
        (f_X1_firstHaving v9 v10 s8).bind fun (v11 : Int32) =>
        some (v11, s8)
def f_X7_areStreets (x1 : Int32) (s : Sg) : Option Int32 :=
  (f_X2_size 2 s).bind fun (v1 : Int32) =>
  (f_X7_isBelow x1 ((1 : Int32) <<< (v1 &&& 31)) s).bind fun (v2 : Int32) =>
  some (v2 &&& 1)
def b_X7_find_37 (j7 : Int32 → Option (Int32 × Sg)) (x1 : Int32) (s5 : Sg) (self11 : Int32 → Int32 → Option (Int32 × Sg)) (i9 : Int32) (i10 : Int32) : Option (Int32 × Sg) :=
  if (24 : Int32) ≤ i10 then
    j7 i9
  else
    (f_X1_mostAlike x1 i10 s5).bind fun (v12 : Int32) =>
    (f_X1_mostAlike x1 i9 s5).bind fun (v13 : Int32) =>
    nm_ (fun (a14 : Int32) =>
      self11 a14 (i10 + (1 : Int32))) fun j15 =>
    if v13 ≤ v12 then
      j15 i9
    else
      j15 i10
def f_X7_find (x1 : Int32) (x2 : Int32) (s : Sg) : Option (Int32 × Sg) :=
  (f_X7_areStreets x1 s).bind fun (v1 : Int32) =>
  if v1 = 0 then
    ob2 (f_X7_refuseBad s) fun (v2 : Int32) (s3 : Sg) =>
    some (v2, s3)
  else
    (f_X7_isBelow x2 (2 : Int32) s).bind fun (v4 : Int32) =>
    if v4 = 0 then
      ob2 (f_X7_refuseBad s) fun (v16 : Int32) (s17 : Sg) =>
      some (v16, s17)
    else
      (f_X1_write 1 s).bind fun (s5 : Sg) =>
      nm_ (fun (a6 : Int32) =>
        if x2 = 0 then
          some (a6, s5)
        else
          (f_X1_mostAlike x1 a6 s5).bind fun (v8 : Int32) =>
          some (v8, s5)) fun j7 =>
      lp2_ (b_X7_find_37 j7 x1 s5) fu (0 : Int32) (1 : Int32)
def f_X7_stage (x1 : Int32) (x2 : Int32) (x3 : Int32) (x4 : Int32) (s : Sg) : Option (Int32 × Sg) :=
  (f_X7_isStreet x1 s).bind fun (v1 : Int32) =>
  if v1 = 0 then
    ob2 (f_X7_refuseBad s) fun (v2 : Int32) (s3 : Sg) =>
    some ((-10 : Int32), s3)
  else
    (f_X7_isBelow x2 (16 : Int32) s).bind fun (v4 : Int32) =>
    if v4 = 0 then
      ob2 (f_X7_refuseBad s) fun (v5 : Int32) (s6 : Sg) =>
      some ((-10 : Int32), s6)
    else
      (f_X7_isHour x3 s).bind fun (v7 : Int32) =>
      if v7 = 0 then
        ob2 (f_X7_refuseBad s) fun (v8 : Int32) (s9 : Sg) =>
        some ((-10 : Int32), s9)
      else
        if (-1 : Int32) ≤ x4 then
          (f_X0_plan 1 s).bind fun (s10 : Sg) =>
          ob2 (f_X3_fewestStaged x1 x2 x3 s10) fun (v11 : Int32) (s12 : Sg) =>
          if v11 = (-1 : Int32) then
            some (v11, s12)
          else
            if x4 = (-1 : Int32) then
              some (v11, s12)
            else
              if v11 ≤ x4 then
                some ((-5 : Int32), s12)
              else
                (f_X3_hourStaged x4 s12).bind fun (v13 : Int32) =>
                some (v13, s12)
        else
          ob2 (f_X7_refuseBad s) fun (v14 : Int32) (s15 : Sg) =>
          some ((-10 : Int32), s15)
def f_X7_forbid (x1 : Int32) (s : Sg) : Option (Int32 × Sg) :=
  (f_X7_isStreet x1 s).bind fun (v1 : Int32) =>
  if v1 = 0 then
    ob2 (f_X7_refuseBad s) fun (v5 : Int32) (s6 : Sg) =>
    some (v5, s6)
  else
    (f_X0_plan 1 s).bind fun (s2 : Sg) =>
    ob2 (f_X3_fewestForbidden x1 1 s2) fun (v3 : Int32) (s4 : Sg) =>
    some (v3, s4)
def f_X7_rents (x1 : Int32) (s : Sg) : Option (Int32 × Sg) :=
  (f_X7_isStreet x1 s).bind fun (v1 : Int32) =>
  if v1 = 0 then
    ob2 (f_X7_refuseBad s) fun (v5 : Int32) (s6 : Sg) =>
    some (v5, s6)
  else
    (f_X0_plan 1 s).bind fun (s2 : Sg) =>
    ob2 (f_X0_rentOf x1 1 s2) fun (v3 : Int32) (s4 : Sg) =>
    some (v3, s4)
def f_X7_landlords (x1 : Int32) (x2 : Int32) (x3 : Int32) (x4 : Int32) (s : Sg) : Option (Int32 × Sg) :=
  (f_X7_isStreet x1 s).bind fun (v1 : Int32) =>
  if v1 = 0 then
    ob2 (f_X7_refuseBad s) fun (v2 : Int32) (s3 : Sg) =>
    some (v2, s3)
  else
    (f_X7_isStreet x2 s).bind fun (v4 : Int32) =>
    if v4 = 0 then
      ob2 (f_X7_refuseBad s) fun (v5 : Int32) (s6 : Sg) =>
      some (v5, s6)
    else
      if x1 = x2 then
        ob2 (f_X7_refuseBad s) fun (v7 : Int32) (s8 : Sg) =>
        some (v7, s8)
      else
        (f_X7_isHour x3 s).bind fun (v9 : Int32) =>
        if v9 = 0 then
          ob2 (f_X7_refuseBad s) fun (v10 : Int32) (s11 : Sg) =>
          some (v10, s11)
        else
          (f_X7_isBelow x4 (100 : Int32) s).bind fun (v12 : Int32) =>
          if v12 = 0 then
            ob2 (f_X7_refuseBad s) fun (v15 : Int32) (s16 : Sg) =>
            some (v15, s16)
          else
            (f_X3_weighPairs x1 x2 x3 x4 1 s).bind fun (s13 : Sg) =>
            (f_X3_pairsThatRest s13).bind fun (v14 : Int32) =>
            some (v14, s13)
def f_X7_round (x1 : Int32) (x2 : Int32) (s : Sg) : Option (Int32 × Sg) :=
  (f_X7_isBelow x1 (8 : Int32) s).bind fun (v1 : Int32) =>
  if v1 = 0 then
    ob2 (f_X7_refuseBad s) fun (v2 : Int32) (s3 : Sg) =>
    some (v2, s3)
  else
    (f_X7_areStreets x2 s).bind fun (v4 : Int32) =>
    if v4 = 0 then
      ob2 (f_X7_refuseBad s) fun (v7 : Int32) (s8 : Sg) =>
      some (v7, s8)
    else
      ob2 (f_X6_shortest 2 x1 x2 s) fun (v5 : Int32) (s6 : Sg) =>
      some (v5, s6)
def f_X7_reading (x1 : Int32) (x2 : Int32) (x3 : Int32) (s : Sg) : Option (Int32 × Sg) :=
  (f_X7_isStreet x1 s).bind fun (v1 : Int32) =>
  if v1 = 0 then
    ob2 (f_X7_refuseBad s) fun (v2 : Int32) (s3 : Sg) =>
    some (v2, s3)
  else
    (f_X7_isHour x2 s).bind fun (v4 : Int32) =>
    if v4 = 0 then
      ob2 (f_X7_refuseBad s) fun (v5 : Int32) (s6 : Sg) =>
      some (v5, s6)
    else
      (f_X7_isBelow x3 (16 : Int32) s).bind fun (v7 : Int32) =>
      if v7 = 0 then
        ob2 (f_X7_refuseBad s) fun (v16 : Int32) (s17 : Sg) =>
        some (v16, s17)
      else
        (f_X2_isFull 6 s).bind fun (v8 : Int32) =>
        if v8 = 0 then
          (aset s 69 (0 : Int32) x1).bind fun (s9 : Sg) =>
          (aset s9 69 (1 : Int32) x2).bind fun (s10 : Sg) =>
          (aset s10 69 (2 : Int32) x3).bind fun (s11 : Sg) =>
          (f_X2_add 6 69 s11).bind fun (s12 : Sg) =>
          (f_X2_size 6 s12).bind fun (v13 : Int32) =>
          some (v13 - (1 : Int32), s12)
        else
          ob2 (f_X7_refuseFull s) fun (v14 : Int32) (s15 : Sg) =>
          some (v14, s15)
def f_X7_burn (s : Sg) : Option (Int32 × Sg) :=
  (f_X2_size 6 s).bind fun (v1 : Int32) =>
  (f_X2_empty 6 s).bind fun (s2 : Sg) =>
  some (v1, s2)
def f_X7_truly (x1 : Int32) (s : Sg) : Option (Int32 × Sg) :=
  (f_X7_isBelow x1 (2 : Int32) s).bind fun (v1 : Int32) =>
  if v1 = 0 then
    ob2 (f_X7_refuseBad s) fun (v6 : Int32) (s7 : Sg) =>
    some ((-10 : Int32), s7)
  else
    (f_X0_plan 1 s).bind fun (s2 : Sg) =>
    ob2 (f_X3_trueSets 1 s2) fun (v3 : Int32) (s4 : Sg) =>
    if x1 = 0 then
      some (v3, s4)
    else
      if v3 = 0 then
        some ((-1 : Int32), s4)
      else
        (f_X3_inAllTrueSets s4).bind fun (v5 : Int32) =>
        some (v5, s4)
def f_X7_drawn (x1 : Int32) (x2 : Int32) (x3 : Int32) (s : Sg) : Option (Int32 × Sg) :=
  (f_X7_isBelow x1 (1000000 : Int32) s).bind fun (v1 : Int32) =>
  if v1 = 0 then
    ob2 (f_X7_refuseBad s) fun (v2 : Int32) (s3 : Sg) =>
    some (v2, s3)
  else
    (f_X7_isBelow x2 (31 : Int32) s).bind fun (v4 : Int32) =>
    if v4 = 0 then
      ob2 (f_X7_refuseBad s) fun (v5 : Int32) (s6 : Sg) =>
      some (v5, s6)
    else
      (f_X7_isBelow x3 (101 : Int32) s).bind fun (v7 : Int32) =>
      if v7 = 0 then
        ob2 (f_X7_refuseBad s) fun (v11 : Int32) (s12 : Sg) =>
        some (v11, s12)
      else
        (f_X0_plan 1 s).bind fun (s8 : Sg) =>
        ob2 (f_X3_renamingsOfDays x1 x2 x3 1 s8) fun (v9 : Int32) (s10 : Sg) =>
        some (v9, s10)
def f_X7_imageOf (x1 : Int32) (s : Sg) : Option Nat :=
  if x1 = 0 then
    some 25
  else
    some 37
def f_X7_image (x1 : Int32) (s : Sg) : Option (Int32 × Sg) :=
  (f_X7_isBelow x1 (2 : Int32) s).bind fun (v1 : Int32) =>
  if v1 = 0 then
    ob2 (f_X7_refuseBad s) fun (v5 : Int32) (s6 : Sg) =>
    some (v5, s6)
  else
    (f_X7_imageOf x1 s).bind fun (c2 : Nat) =>
    (f_X5_copy c2 1 s).bind fun (s3 : Sg) =>
    nm_ (sts s3 0 10 ((s3 0 10) ||| ((1 : Int32) <<< (x1 &&& 31)))) fun (s4 : Sg) =>
    some ((1 : Int32), s4)
def f_X7_from (x1 : Int32) (s : Sg) : Option (Int32 × Sg) :=
  (f_X7_isBelow x1 (2 : Int32) s).bind fun (v1 : Int32) =>
  if v1 = 0 then
    ob2 (f_X7_refuseBad s) fun (v7 : Int32) (s8 : Sg) =>
    some (v7, s8)
  else
    (f_X7_holds (s 0 10) x1 s).bind fun (v2 : Int32) =>
    if v2 = 0 then
      ob2 (f_X7_refuseNo s) fun (v5 : Int32) (s6 : Sg) =>
      some (v5, s6)
    else
      (f_X7_imageOf x1 s).bind fun (c3 : Nat) =>
      (f_X5_copy 1 c3 s).bind fun (s4 : Sg) =>
      some ((1 : Int32), s4)
def f_X7_status (x1 : Int32) (s : Sg) : Option (Int32 × Sg) :=
  if x1 = (0 : Int32) then
    some (s 0 11, s)
  else
    if x1 = (1 : Int32) then
      some (s 0 12, s)
    else
      if x1 = (2 : Int32) then
        some (s 0 13, s)
      else
        ob2 (f_X7_refuseBad s) fun (v1 : Int32) (s2 : Sg) =>
        some ((-1 : Int32), s2)
def f_X7_countOf (x1 : Int32) (s : Sg) : Option Int32 :=
  if x1 = (0 : Int32) then
    (f_X2_size 2 s).bind fun (v1 : Int32) =>
    some v1
  else
    if x1 = (1 : Int32) then
      (f_X2_size 4 s).bind fun (v2 : Int32) =>
      some v2
    else
      if x1 = (2 : Int32) then
        some (s 1 7)
      else
        if x1 = (3 : Int32) then
          (f_X2_size 6 s).bind fun (v3 : Int32) =>
          some v3
        else
          if x1 = (4 : Int32) then
            (f_X2_size 8 s).bind fun (v4 : Int32) =>
            some v4
          else
            (f_X4_size s).bind fun (v5 : Int32) =>
            some v5
def f_X7_count (x1 : Int32) (s : Sg) : Option (Int32 × Sg) :=
  (f_X7_isBelow x1 (6 : Int32) s).bind fun (v1 : Int32) =>
  if v1 = 0 then
    ob2 (f_X7_refuseBad s) fun (v3 : Int32) (s4 : Sg) =>
    some (v3, s4)
  else
    (f_X7_countOf x1 s).bind fun (v2 : Int32) =>
    some (v2, s)
def b_X7_digest_6 (s : Sg) (self3 : Int64 → Int32 → Option Int64) (i1 : Int64) (i2 : Int32) : Option Int64 :=
  if (6 : Int32) ≤ i2 then
    (f_X5_mixInto 1 i1 s).bind fun (v4 : Int64) =>
    some v4
  else
    (f_X7_countOf i2 s).bind fun (v5 : Int32) =>
    nm_ (((31 : Int64) * i1) + (Int32.toInt64 v5)) fun (v6 : Int64) =>
    self3 v6 (i2 + (1 : Int32))
def f_X7_digest (s : Sg) : Option Int64 :=
  lp2_ (b_X7_digest_6 s) fu (911 : Int64) (0 : Int32)
def f_X8_in (x0 : Int64) (x2 : Int64) (x4 : Int64) (s : Sg) : Option Int32 :=
  if (lg_cmp x0 x2) < 0 then
    some (0 : Int32)
  else
    if 0 < (lg_cmp x0 x4) then
      some (0 : Int32)
    else
      some (1 : Int32)
def f_X8_bad (x1 : Int32) (s : Sg) : Option (Int32 × Sg) :=
  (aget s 74 (0 : Int32)).bind fun (v1 : Int32) =>
  (aset s 74 (0 : Int32) (v1 + (1 : Int32))).bind fun (s2 : Sg) =>
  some (x1, s2)
def f_X8_no (s : Sg) : Option (Int32 × Sg) :=
  (aget s 74 (1 : Int32)).bind fun (v1 : Int32) =>
  (aset s 74 (1 : Int32) (v1 + (1 : Int32))).bind fun (s2 : Sg) =>
  some ((-3 : Int32), s2)
def f_X8_full (s : Sg) : Option (Int32 × Sg) :=
  (aget s 74 (2 : Int32)).bind fun (v1 : Int32) =>
  (aset s 74 (2 : Int32) (v1 + (1 : Int32))).bind fun (s2 : Sg) =>
  some ((-4 : Int32), s2)
def b_X8_bits_4 (self3 : Int32 → Int32 → Option Int32) (i1 : Int32) (i2 : Int32) : Option Int32 :=
  if i2 ≤ 0 then
    some i1
  else
    nm_ (i1 + (i2 &&& (1 : Int32))) fun (v4 : Int32) =>
    nm_ (i2 >>> ((1 : Int32) &&& 31)) fun (v5 : Int32) =>
    self3 v4 v5
def f_X8_bits (x0 : Int32) (s : Sg) : Option Int32 :=
  lp2_ (b_X8_bits_4) fu (0 : Int32) x0
def b_X8_begin_2 (c0 : Nat) (x1 : Int32) (self3 : Int32 → Sg → Option Sg) (i1 : Int32) (s2 : Sg) : Option Sg :=
  if (115 : Int32) ≤ i1 then
    (aset s2 c0 (2 : Int32) x1).bind fun (s4 : Sg) =>
    some s4
  else
    (aset s2 c0 i1 (0 : Int32)).bind fun (s5 : Sg) =>
    self3 (i1 + (1 : Int32)) s5
def f_X8_begin (c0 : Nat) (x1 : Int32) (s : Sg) : Option Sg :=
  lp2_ (b_X8_begin_2 c0 x1) fu (0 : Int32) s
def f_X8_streets (s : Sg) : Option Int32 :=
  (aget s 71 (0 : Int32)).bind fun (v1 : Int32) =>
  some v1
def f_X8_events (s : Sg) : Option Int32 :=
  (aget s 71 (1 : Int32)).bind fun (v1 : Int32) =>
  some v1
def f_X8_isStreet (x1 : Int32) (s : Sg) : Option Int32 :=
  (f_X8_streets s).bind fun (v1 : Int32) =>
  (f_X8_in (Int32.toInt64 x1) (0 : Int64) (Int32.toInt64 (v1 - (1 : Int32))) s).bind fun (v2 : Int32) =>
  some (v2 &&& 1)
def f_X8_isEvent (x1 : Int32) (s : Sg) : Option Int32 :=
  (f_X8_events s).bind fun (v1 : Int32) =>
  (f_X8_in (Int32.toInt64 x1) (0 : Int64) (Int32.toInt64 (v1 - (1 : Int32))) s).bind fun (v2 : Int32) =>
  some (v2 &&& 1)
def f_X8_isHour (x0 : Int32) (s : Sg) : Option Int32 :=
  (f_X8_in (Int32.toInt64 x0) (0 : Int64) (23 : Int64) s).bind fun (v1 : Int32) =>
  some (v1 &&& 1)
def f_X8_isWord (x0 : Int32) (s : Sg) : Option Int32 :=
  (f_X8_in (Int32.toInt64 x0) (0 : Int64) (15 : Int64) s).bind fun (v1 : Int32) =>
  some (v1 &&& 1)
def f_X8_areStreets (x1 : Int32) (s : Sg) : Option Int32 :=
  (f_X8_streets s).bind fun (v1 : Int32) =>
  (f_X8_in (Int32.toInt64 x1) (0 : Int64) (Int32.toInt64 (((1 : Int32) <<< (v1 &&& 31)) - (1 : Int32))) s).bind fun (v2 : Int32) =>
  some (v2 &&& 1)
def f_X8_has (x1 : Int32) (x2 : Int32) (s : Sg) : Option Int32 :=
  (aget s 71 (((5 : Int32) + ((4 : Int32) * x1)) + x2)).bind fun (v1 : Int32) =>
  some v1
def f_X8_told (x1 : Int32) (x2 : Int32) (s : Sg) : Option Int32 :=
  (aget s 71 (((33 : Int32) + ((6 : Int32) * x1)) + x2)).bind fun (v1 : Int32) =>
  some v1
def f_X8_town (x1 : Int32) (s : Sg) : Option (Int32 × Sg) :=
  (f_X8_in (Int32.toInt64 x1) (0 : Int64) (2 : Int64) s).bind fun (v1 : Int32) =>
  if v1 = 0 then
    ob2 (f_X8_bad (-2 : Int32) s) fun (v4 : Int32) (s5 : Sg) =>
    some (v4, s5)
  else
    (f_X8_streets s).bind fun (v2 : Int32) =>
    (f_X8_begin 71 x1 s).bind fun (s3 : Sg) =>
    some (v2, s3)
def f_X8_layStreet (c0 : Nat) (x1 : Int32) (x2 : Int32) (x3 : Int32) (x4 : Int32) (s : Sg) : Option Sg :=
  (aget s c0 (0 : Int32)).bind fun (v1 : Int32) =>
  nm_ ((5 : Int32) + ((4 : Int32) * v1)) fun (v2 : Int32) =>
  (aset s c0 (v2 + (0 : Int32)) x1).bind fun (s3 : Sg) =>
  (aset s3 c0 (v2 + (1 : Int32)) x2).bind fun (s4 : Sg) =>
  (aset s4 c0 (v2 + (2 : Int32)) x3).bind fun (s5 : Sg) =>
  (aset s5 c0 (v2 + (3 : Int32)) x4).bind fun (s6 : Sg) =>
  (aget s6 c0 (0 : Int32)).bind fun (v7 : Int32) =>
  (aset s6 c0 (0 : Int32) (v7 + (1 : Int32))).bind fun (s8 : Sg) =>
  some s8
def f_X8_street (x1 : Int32) (x2 : Int32) (x3 : Int32) (x4 : Int32) (s : Sg) : Option (Int32 × Sg) :=
  (f_X8_in (Int32.toInt64 x1) (0 : Int64) (7 : Int64) s).bind fun (v1 : Int32) =>
  if v1 = 0 then
    ob2 (f_X8_bad (-2 : Int32) s) fun (v2 : Int32) (s3 : Sg) =>
    some (v2, s3)
  else
    (f_X8_in (Int32.toInt64 x2) (0 : Int64) (7 : Int64) s).bind fun (v4 : Int32) =>
    if v4 = 0 then
      ob2 (f_X8_bad (-2 : Int32) s) fun (v5 : Int32) (s6 : Sg) =>
      some (v5, s6)
    else
      if x1 = x2 then
        ob2 (f_X8_bad (-2 : Int32) s) fun (v7 : Int32) (s8 : Sg) =>
        some (v7, s8)
      else
        (f_X8_in (Int32.toInt64 x3) (1 : Int64) (9 : Int64) s).bind fun (v9 : Int32) =>
        if v9 = 0 then
          ob2 (f_X8_bad (-2 : Int32) s) fun (v10 : Int32) (s11 : Sg) =>
          some (v10, s11)
        else
          (f_X8_isWord x4 s).bind fun (v12 : Int32) =>
          if v12 = 0 then
            ob2 (f_X8_bad (-2 : Int32) s) fun (v19 : Int32) (s20 : Sg) =>
            some (v19, s20)
          else
            (f_X8_streets s).bind fun (v13 : Int32) =>
            if v13 = (7 : Int32) then
              ob2 (f_X8_full s) fun (v17 : Int32) (s18 : Sg) =>
              some (v17, s18)
            else
              (f_X8_layStreet 71 x1 x2 x3 x4 s).bind fun (s14 : Sg) =>
              (aset s14 71 (4 : Int32) (0 : Int32)).bind fun (s15 : Sg) =>
              (f_X8_streets s15).bind fun (v16 : Int32) =>
              some (v16 - (1 : Int32), s15)
def f_X8_layEvent (c0 : Nat) (x1 : Int32) (x2 : Int32) (x3 : Int32) (x4 : Int32) (x5 : Int32) (x6 : Int32) (s : Sg) : Option Sg :=
  (aget s c0 (1 : Int32)).bind fun (v1 : Int32) =>
  nm_ ((33 : Int32) + ((6 : Int32) * v1)) fun (v2 : Int32) =>
  (aset s c0 (v2 + (0 : Int32)) x1).bind fun (s3 : Sg) =>
  (aset s3 c0 (v2 + (1 : Int32)) x2).bind fun (s4 : Sg) =>
  (aset s4 c0 (v2 + (2 : Int32)) x3).bind fun (s5 : Sg) =>
  (aset s5 c0 (v2 + (3 : Int32)) x4).bind fun (s6 : Sg) =>
  (aset s6 c0 (v2 + (4 : Int32)) x5).bind fun (s7 : Sg) =>
  (aset s7 c0 (v2 + (5 : Int32)) x6).bind fun (s8 : Sg) =>
  (aget s8 c0 (1 : Int32)).bind fun (v9 : Int32) =>
  (aset s8 c0 (1 : Int32) (v9 + (1 : Int32))).bind fun (s10 : Sg) =>
  some s10
def b_X8_keep_68 (j7 : Sg → Option Sg) (v5 : Int32) (self16 : Int32 → Sg → Option Sg) (i14 : Int32) (s15 : Sg) : Option Sg :=
  if (48 : Int32) ≤ i14 then
    j7 s15
  else
    (aget s15 71 ((33 : Int32) + i14)).bind fun (v17 : Int32) =>
    (aset s15 71 (v5 + i14) v17).bind fun (s18 : Sg) =>
    self16 (i14 + (1 : Int32)) s18
def b_X8_keep_13 (j20 : Sg → Option Sg) (self24 : Int32 → Sg → Option Sg) (i22 : Int32) (s23 : Sg) : Option Sg :=
  if (350 : Int32) ≤ i22 then
    j20 s23
  else
    (aget s23 71 ((165 : Int32) + i22)).bind fun (v25 : Int32) =>
    (aset s23 71 ((115 : Int32) + i22) v25).bind fun (s26 : Sg) =>
    self24 (i22 + (1 : Int32)) s26
def f_X8_keep (s : Sg) : Option Sg :=
  (aget s 71 (4 : Int32)).bind fun (v1 : Int32) =>
  nm_ (fun (s2 : Sg) =>
    (aget s2 71 (4 : Int32)).bind fun (v4 : Int32) =>
    nm_ ((115 : Int32) + ((50 : Int32) * v4)) fun (v5 : Int32) =>
    nm_ (fun (s6 : Sg) =>
      (f_X8_events s6).bind fun (v8 : Int32) =>
      (aset s6 71 (v5 + (48 : Int32)) v8).bind fun (s9 : Sg) =>
      (aget s9 71 (2 : Int32)).bind fun (v10 : Int32) =>
      (aset s9 71 (v5 + (49 : Int32)) v10).bind fun (s11 : Sg) =>
      (aget s11 71 (4 : Int32)).bind fun (v12 : Int32) =>
      (aset s11 71 (4 : Int32) (v12 + (1 : Int32))).bind fun (s13 : Sg) =>
      some s13) fun j7 =>
    lp2_ (b_X8_keep_68 j7 v5) fu (0 : Int32) s2) fun j3 =>
  if v1 = (8 : Int32) then
    nm_ (fun (s19 : Sg) =>
      (aset s19 71 (4 : Int32) (7 : Int32)).bind fun (s21 : Sg) =>
      j3 s21) fun j20 =>
    lp2_ (b_X8_keep_13 j20) fu (0 : Int32) s
  else
    j3 s
def f_X8_event (x1 : Int32) (x2 : Int32) (x3 : Int32) (x4 : Int32) (x5 : Int32) (x6 : Int32) (s : Sg) : Option (Int32 × Sg) :=
  (f_X8_in (Int32.toInt64 x1) (0 : Int64) (5 : Int64) s).bind fun (v1 : Int32) =>
  nm_ (fun (a2 : Int32) =>
    if a2 = 0 then
      ob2 (f_X8_bad (-2 : Int32) s) fun (v4 : Int32) (s5 : Sg) =>
      some (v4, s5)
    else
      (f_X8_in (Int32.toInt64 x4) (0 : Int64) (9 : Int64) s).bind fun (v6 : Int32) =>
      if v6 = 0 then
        ob2 (f_X8_bad (-2 : Int32) s) fun (v7 : Int32) (s8 : Sg) =>
        some (v7, s8)
      else
        (f_X8_in (Int32.toInt64 x5) (0 : Int64) (9 : Int64) s).bind fun (v9 : Int32) =>
        if v9 = 0 then
          ob2 (f_X8_bad (-2 : Int32) s) fun (v10 : Int32) (s11 : Sg) =>
          some (v10, s11)
        else
          (f_X8_isWord x6 s).bind fun (v12 : Int32) =>
          if v12 = 0 then
            ob2 (f_X8_bad (-2 : Int32) s) fun (v19 : Int32) (s20 : Sg) =>
            some (v19, s20)
          else
            (f_X8_events s).bind fun (v13 : Int32) =>
            if v13 = (8 : Int32) then
              ob2 (f_X8_full s) fun (v17 : Int32) (s18 : Sg) =>
              some (v17, s18)
            else
              (f_X8_keep s).bind fun (s14 : Sg) =>
              (f_X8_layEvent 71 x1 x2 x3 x4 x5 x6 s14).bind fun (s15 : Sg) =>
              (f_X8_events s15).bind fun (v16 : Int32) =>
              some (v16 - (1 : Int32), s15)) fun j3 =>
  nm_ (fun (_ : Unit) =>
    j3 (0 : Int32)) fun j21 =>
  if v1 = 0 then
    j21 ()
  else
    (f_X8_isStreet x2 s).bind fun (v22 : Int32) =>
    if v22 = 0 then
      j21 ()
    else
      (f_X8_isHour x3 s).bind fun (v23 : Int32) =>
      if v23 = 0 then
        j21 ()
      else
        j3 (1 : Int32)
def b_X8_back_24 (j5 : Sg → Option (Int32 × Sg)) (self11 : Int32 → Sg → Option (Int32 × Sg)) (i9 : Int32) (s10 : Sg) : Option (Int32 × Sg) :=
  if (42 : Int32) ≤ i9 then
    j5 s10
  else
    (aget s10 71 (((33 : Int32) + i9) + (6 : Int32))).bind fun (v12 : Int32) =>
    (aset s10 71 ((33 : Int32) + i9) v12).bind fun (s13 : Sg) =>
    self11 (i9 + (1 : Int32)) s13
def f_X8_back (x1 : Int32) (s : Sg) : Option (Int32 × Sg) :=
  (f_X8_isEvent x1 s).bind fun (v1 : Int32) =>
  if v1 = 0 then
    ob2 (f_X8_bad (-2 : Int32) s) fun (v14 : Int32) (s15 : Sg) =>
    some (v14, s15)
  else
    (f_X8_keep s).bind fun (s2 : Sg) =>
    nm_ ((6 : Int32) * x1) fun (v3 : Int32) =>
    nm_ (fun (s4 : Sg) =>
      (aget s4 71 (1 : Int32)).bind fun (v6 : Int32) =>
      (aset s4 71 (1 : Int32) (v6 - (1 : Int32))).bind fun (s7 : Sg) =>
      (f_X8_events s7).bind fun (v8 : Int32) =>
      some (v8, s7)) fun j5 =>
    lp2_ (b_X8_back_24 j5) fu v3 s2
def f_X8_law (x1 : Int32) (s : Sg) : Option (Int32 × Sg) :=
  (f_X8_in (Int32.toInt64 x1) (0 : Int64) (2 : Int64) s).bind fun (v1 : Int32) =>
  if v1 = 0 then
    ob2 (f_X8_bad (-2 : Int32) s) fun (v5 : Int32) (s6 : Sg) =>
    some (v5, s6)
  else
    (f_X8_keep s).bind fun (s2 : Sg) =>
    (aget s2 71 (2 : Int32)).bind fun (v3 : Int32) =>
    (aset s2 71 (2 : Int32) x1).bind fun (s4 : Sg) =>
    some (v3, s4)
def b_X8_undo_39 (j7 : Sg → Option (Int32 × Sg)) (v5 : Int32) (self15 : Int32 → Sg → Option (Int32 × Sg)) (i13 : Int32) (s14 : Sg) : Option (Int32 × Sg) :=
  if (48 : Int32) ≤ i13 then
    j7 s14
  else
    (aget s14 71 (v5 + i13)).bind fun (v16 : Int32) =>
    (aset s14 71 ((33 : Int32) + i13) v16).bind fun (s17 : Sg) =>
    self15 (i13 + (1 : Int32)) s17
def f_X8_undo (s : Sg) : Option (Int32 × Sg) :=
  (aget s 71 (4 : Int32)).bind fun (v1 : Int32) =>
  if v1 = 0 then
    ob2 (f_X8_no s) fun (v18 : Int32) (s19 : Sg) =>
    some (v18, s19)
  else
    (aget s 71 (4 : Int32)).bind fun (v2 : Int32) =>
    (aset s 71 (4 : Int32) (v2 - (1 : Int32))).bind fun (s3 : Sg) =>
    (aget s3 71 (4 : Int32)).bind fun (v4 : Int32) =>
    nm_ ((115 : Int32) + ((50 : Int32) * v4)) fun (v5 : Int32) =>
    nm_ (fun (s6 : Sg) =>
      (aget s6 71 (v5 + (48 : Int32))).bind fun (v8 : Int32) =>
      (aset s6 71 (1 : Int32) v8).bind fun (s9 : Sg) =>
      (aget s9 71 (v5 + (49 : Int32))).bind fun (v10 : Int32) =>
      (aset s9 71 (2 : Int32) v10).bind fun (s11 : Sg) =>
      (f_X8_events s11).bind fun (v12 : Int32) =>
      some (v12, s11)) fun j7 =>
    lp2_ (b_X8_undo_39 j7 v5) fu (0 : Int32) s3
def f_X8_rent (x1 : Int32) (x2 : Int32) (s : Sg) : Option (Int32 × Sg) :=
  (f_X8_isWord x1 s).bind fun (v1 : Int32) =>
  if v1 = 0 then
    ob2 (f_X8_bad (-2 : Int32) s) fun (v2 : Int32) (s3 : Sg) =>
    some (v2, s3)
  else
    (f_X8_in (Int32.toInt64 x2) (0 : Int64) (99 : Int64) s).bind fun (v4 : Int32) =>
    if v4 = 0 then
      ob2 (f_X8_bad (-2 : Int32) s) fun (v7 : Int32) (s8 : Sg) =>
      some (v7, s8)
    else
      (aget s 71 ((81 : Int32) + x1)).bind fun (v5 : Int32) =>
      (aset s 71 ((81 : Int32) + x1) x2).bind fun (s6 : Sg) =>
      some (v5, s6)
def f_X8_mustSee (x0 : Int32) (s : Sg) : Option Int32 :=
  if x0 = (1 : Int32) then
    some (3 : Int32)
  else
    if x0 = (3 : Int32) then
      some (4 : Int32)
    else
      some (2 : Int32)
def f_X8_rankOf (x0 : Int32) (x1 : Int32) (s : Sg) : Option Int32 :=
  if x0 = (3 : Int32) then
    some (x1 / (2 : Int32))
  else
    if x0 = (4 : Int32) then
      some (x1 + (1 : Int32))
    else
      if x0 = (5 : Int32) then
        some (x1 + (2 : Int32))
      else
        some x1
def f_X8_standsFor (x0 : Int32) (s : Sg) : Option Int32 :=
  if x0 = (2 : Int32) then
    some (9 : Int32)
  else
    if x0 = (5 : Int32) then
      some (18 : Int32)
    else
      some (3 : Int32)
def f_X8_meet (x1 : Int32) (x2 : Int32) (s : Sg) : Option Int32 :=
  (f_X8_has x1 (0 : Int32) s).bind fun (v1 : Int32) =>
  (f_X8_has x2 (0 : Int32) s).bind fun (v2 : Int32) =>
  if v1 = v2 then
    some (1 : Int32)
  else
    (f_X8_has x1 (0 : Int32) s).bind fun (v3 : Int32) =>
    (f_X8_has x2 (1 : Int32) s).bind fun (v4 : Int32) =>
    if v3 = v4 then
      some (1 : Int32)
    else
      (f_X8_has x1 (1 : Int32) s).bind fun (v5 : Int32) =>
      (f_X8_has x2 (0 : Int32) s).bind fun (v6 : Int32) =>
      if v5 = v6 then
        some (1 : Int32)
      else
        (f_X8_has x1 (1 : Int32) s).bind fun (v7 : Int32) =>
        (f_X8_has x2 (1 : Int32) s).bind fun (v8 : Int32) =>
        if v7 = v8 then
          some (1 : Int32)
        else
          some (0 : Int32)
def b_X8_happensIn_7 (s : Sg) (x1 : Int32) (x2 : Int32) (self4 : Int32 → Int32 → Option Int32) (i2 : Int32) (i3 : Int32) : Option Int32 :=
  (f_X8_streets s).bind fun (v5 : Int32) =>
  if v5 ≤ i3 then
    some i2
  else
    if x1 = (1 : Int32) then
      (f_X8_meet i3 x2 s).bind fun (v6 : Int32) =>
      nm_ (fun (a7 : Int32) =>
        nm_ (i2 ||| a7) fun (v9 : Int32) =>
        self4 v9 (i3 + (1 : Int32))) fun j8 =>
      if v6 = 0 then
        j8 (0 : Int32)
      else
        j8 ((1 : Int32) <<< (i3 &&& 31))
    else
      some i2
def f_X8_happensIn (x1 : Int32) (x2 : Int32) (s : Sg) : Option Int32 :=
  nm_ ((1 : Int32) <<< (x2 &&& 31)) fun (v1 : Int32) =>
  lp2_ (b_X8_happensIn_7 s x1 x2) fu v1 (0 : Int32)
def f_X8_of (x1 : Int32) (x2 : Int32) (s : Sg) : Option (Int32 × Sg) :=
  (f_X8_isEvent x1 s).bind fun (v1 : Int32) =>
  if v1 = 0 then
    ob2 (f_X8_bad (-2 : Int32) s) fun (v2 : Int32) (s3 : Sg) =>
    some (v2, s3)
  else
    (f_X8_in (Int32.toInt64 x2) (0 : Int64) (9 : Int64) s).bind fun (v4 : Int32) =>
    if v4 = 0 then
      ob2 (f_X8_bad (-2 : Int32) s) fun (v13 : Int32) (s14 : Sg) =>
      some (v13, s14)
    else
      (f_X8_told x1 (0 : Int32) s).bind fun (v5 : Int32) =>
      if x2 = (6 : Int32) then
        (f_X8_mustSee v5 s).bind fun (v6 : Int32) =>
        some (v6, s)
      else
        if x2 = (7 : Int32) then
          (f_X8_told x1 (4 : Int32) s).bind fun (v7 : Int32) =>
          (f_X8_rankOf v5 v7 s).bind fun (v8 : Int32) =>
          some (v8, s)
        else
          if x2 = (8 : Int32) then
            (f_X8_standsFor v5 s).bind fun (v9 : Int32) =>
            some (v9, s)
          else
            if x2 = (9 : Int32) then
              (f_X8_told x1 (1 : Int32) s).bind fun (v10 : Int32) =>
              (f_X8_happensIn v5 v10 s).bind fun (v11 : Int32) =>
              some (v11, s)
            else
              (f_X8_told x1 x2 s).bind fun (v12 : Int32) =>
              some (v12, s)
def b_X8_rename_92 (s : Sg) (j9 : Int32 → Option Sg) (x1 : Int32) (x5 : Int32) (self19 : Int32 → Int32 → Option Sg) (i17 : Int32) (i18 : Int32) : Option Sg :=
  (f_X8_streets s).bind fun (v20 : Int32) =>
  if v20 ≤ i18 then
    j9 i17
  else
    nm_ (fun (a21 : Int32) =>
      nm_ (i17 + a21) fun (v23 : Int32) =>
      self19 v23 (i18 + (1 : Int32))) fun j22 =>
    nm_ (fun (_ : Unit) =>
      j22 (0 : Int32)) fun j24 =>
    if i18 = x1 then
      j24 ()
    else
      (aget s 77 i18).bind fun (v25 : Int32) =>
      if v25 = x5 then
        j22 (1 : Int32)
      else
        j24 ()
def f_X8_rename (x1 : Int32) (x2 : Int32) (x3 : Int32) (x4 : Int32) (x5 : Int32) (s : Sg) : Option Sg :=
  (aget s 80 x1).bind fun (v1 : Int32) =>
  nm_ (fun (a2 : Int32) =>
    (aget s 71 (2 : Int32)).bind fun (v4 : Int32) =>
    nm_ (fun (a5 : Int32) =>
      nm_ (fun (_ : Unit) =>
        nm_ (fun (a8 : Int32) =>
          (aset s 77 x1 x5).bind fun (s10 : Sg) =>
          (aset s10 78 x1 ((1 : Int32) + a8)).bind fun (s11 : Sg) =>
          (aset s11 79 x1 x4).bind fun (s12 : Sg) =>
          (f_X8_standsFor x2 s12).bind fun (v13 : Int32) =>
          (aset s12 80 x1 (x3 + v13)).bind fun (s14 : Sg) =>
          (aget s14 81 x1).bind fun (v15 : Int32) =>
          (aset s14 81 x1 (v15 + (1 : Int32))).bind fun (s16 : Sg) =>
          some s16) fun j9 =>
        lp2_ (b_X8_rename_92 s j9 x1 x5) fu (0 : Int32) (0 : Int32)) fun j7 =>
      if a2 = 0 then
        j7 ()
      else
        if a5 = 0 then
          some s
        else
          j7 ()) fun j6 =>
    nm_ (fun (_ : Unit) =>
      j6 (1 : Int32)) fun j26 =>
    if v4 = (2 : Int32) then
      j26 ()
    else
      (aget s 71 (2 : Int32)).bind fun (v27 : Int32) =>
      nm_ (fun (_ : Unit) =>
        (aget s 71 (2 : Int32)).bind fun (v29 : Int32) =>
        nm_ (fun (_ : Unit) =>
          j6 (0 : Int32)) fun j30 =>
        if v29 = (1 : Int32) then
          (aget s 79 x1).bind fun (v31 : Int32) =>
          if x4 ≤ v31 then
            j30 ()
          else
            j26 ()
        else
          j30 ()) fun j28 =>
      if v27 = 0 then
        (aget s 79 x1).bind fun (v32 : Int32) =>
        if v32 ≤ x4 then
          j26 ()
        else
          j28 ()
      else
        j28 ()) fun j3 =>
  if v1 ≤ x3 then
    j3 (0 : Int32)
  else
    j3 (1 : Int32)
def b_X8_happen_21 (v2 : Int32) (x1 : Int32) (x5 : Int32) (x3 : Int32) (x6 : Int32) (self5 : Int32 → Sg → Option Sg) (i3 : Int32) (s4 : Sg) : Option Sg :=
  (f_X8_streets s4).bind fun (v6 : Int32) =>
  if v6 ≤ i3 then
    some s4
  else
    nm_ (fun (s7 : Sg) =>
      self5 (i3 + (1 : Int32)) s7) fun j8 =>
    if ((v2 >>> (i3 &&& 31)) &&& (1 : Int32)) = (1 : Int32) then
      (f_X8_rankOf x1 x5 s4).bind fun (v9 : Int32) =>
      (f_X8_rename i3 x1 x3 v9 x6 s4).bind fun (s10 : Sg) =>
      j8 s10
    else
      j8 s4
def f_X8_happen (x1 : Int32) (x2 : Int32) (x3 : Int32) (x4 : Int32) (x5 : Int32) (x6 : Int32) (s : Sg) : Option Sg :=
  (f_X8_mustSee x1 s).bind fun (v1 : Int32) =>
  if v1 ≤ x4 then
    (f_X8_happensIn x1 x2 s).bind fun (v2 : Int32) =>
    lp2_ (b_X8_happen_21 v2 x1 x5 x3 x6) fu (0 : Int32) s
  else
    some s
def b_X8_run_184 (j11 : Sg → Option Sg) (i3 : Int32) (self14 : Int32 → Sg → Option Sg) (i12 : Int32) (s13 : Sg) : Option Sg :=
  (f_X8_streets s13).bind fun (v15 : Int32) =>
  if v15 ≤ i12 then
    j11 s13
  else
    (aget s13 77 i12).bind fun (v16 : Int32) =>
    (aset s13 75 (((7 : Int32) * i3) + i12) v16).bind fun (s17 : Sg) =>
    (aget s17 78 i12).bind fun (v18 : Int32) =>
    (aset s17 76 (((7 : Int32) * i3) + i12) v18).bind fun (s19 : Sg) =>
    self14 (i12 + (1 : Int32)) s19
def b_X8_run_136 (j9 : Sg → Option Sg) (i3 : Int32) (self22 : Int32 → Sg → Option Sg) (i20 : Int32) (s21 : Sg) : Option Sg :=
  if (s21 70 11) ≤ i20 then
    j9 s21
  else
    (aget s21 83 i20).bind fun (v23 : Int32) =>
    nm_ (fun (s24 : Sg) =>
      self22 (i20 + (1 : Int32)) s24) fun j25 =>
    if v23 = i3 then
      (aget s21 82 i20).bind fun (v26 : Int32) =>
      (aget s21 84 i20).bind fun (v27 : Int32) =>
      (f_X8_happen (3 : Int32) v26 i3 (9 : Int32) (9 : Int32) v27 s21).bind fun (s28 : Sg) =>
      j25 s28
    else
      j25 s21
def b_X8_run_66 (j7 : Sg → Option Sg) (x1 : Int32) (i3 : Int32) (self31 : Int32 → Sg → Option Sg) (i29 : Int32) (s30 : Sg) : Option Sg :=
  (f_X8_events s30).bind fun (v32 : Int32) =>
  if v32 ≤ i29 then
    j7 s30
  else
    nm_ (fun (s33 : Sg) =>
      self31 (i29 + (1 : Int32)) s33) fun j34 =>
    if ((x1 >>> (i29 &&& 31)) &&& (1 : Int32)) = (1 : Int32) then
      (f_X8_told i29 (2 : Int32) s30).bind fun (v35 : Int32) =>
      if v35 = i3 then
        (f_X8_told i29 (0 : Int32) s30).bind fun (v36 : Int32) =>
        (f_X8_told i29 (1 : Int32) s30).bind fun (v37 : Int32) =>
        (f_X8_told i29 (3 : Int32) s30).bind fun (v38 : Int32) =>
        (f_X8_told i29 (4 : Int32) s30).bind fun (v39 : Int32) =>
        (f_X8_told i29 (5 : Int32) s30).bind fun (v40 : Int32) =>
        (f_X8_happen v36 v37 i3 v38 v39 v40 s30).bind fun (s41 : Sg) =>
        j34 s41
      else
        j34 s30
    else
      j34 s30
def b_X8_run_58 (x1 : Int32) (self5 : Int32 → Sg → Option Sg) (i3 : Int32) (s4 : Sg) : Option Sg :=
  if (24 : Int32) ≤ i3 then
    some s4
  else
    nm_ (fun (s6 : Sg) =>
      nm_ (fun (s8 : Sg) =>
        nm_ (fun (s10 : Sg) =>
          self5 (i3 + (1 : Int32)) s10) fun j11 =>
        lp2_ (b_X8_run_184 j11 i3) fu (0 : Int32) s8) fun j9 =>
      lp2_ (b_X8_run_136 j9 i3) fu (0 : Int32) s6) fun j7 =>
    lp2_ (b_X8_run_66 j7 x1 i3) fu (0 : Int32) s4
def b_X8_run_2 (j2 : Sg → Option Sg) (self44 : Int32 → Sg → Option Sg) (i42 : Int32) (s43 : Sg) : Option Sg :=
  (f_X8_streets s43).bind fun (v45 : Int32) =>
  if v45 ≤ i42 then
    j2 s43
  else
    (f_X8_has i42 (3 : Int32) s43).bind fun (v46 : Int32) =>
    (aset s43 77 i42 v46).bind fun (s47 : Sg) =>
    (aset s47 78 i42 (1 : Int32)).bind fun (s48 : Sg) =>
    (aset s48 79 i42 (0 : Int32)).bind fun (s49 : Sg) =>
    (aset s49 80 i42 (0 : Int32)).bind fun (s50 : Sg) =>
    (aset s50 81 i42 (0 : Int32)).bind fun (s51 : Sg) =>
    self44 (i42 + (1 : Int32)) s51
def f_X8_run (x1 : Int32) (s : Sg) : Option Sg :=
  nm_ (fun (s1 : Sg) =>
    lp2_ (b_X8_run_58 x1) fu (0 : Int32) s1) fun j2 =>
  lp2_ (b_X8_run_2 j2) fu (0 : Int32) s
def f_X8_allEvents (s : Sg) : Option Int32 :=
  (f_X8_events s).bind fun (v1 : Int32) =>
  some (((1 : Int32) <<< (v1 &&& 31)) - (1 : Int32))
def f_X8_runAll (s : Sg) : Option Sg :=
  nm_ (sts s 70 11 (0 : Int32)) fun (s1 : Sg) =>
  (f_X8_allEvents s1).bind fun (v2 : Int32) =>
  (f_X8_run v2 s1).bind fun (s3 : Sg) =>
  some s3
def f_X8_nameIn (x1 : Int32) (x2 : Int32) (s : Sg) : Option Int32 :=
  (aget s 76 (((7 : Int32) * x2) + x1)).bind fun (v1 : Int32) =>
  (aget s 75 (((7 : Int32) * x2) + x1)).bind fun (v2 : Int32) =>
  some (((100 : Int32) * v1) + v2)
def f_X8_name (x1 : Int32) (x2 : Int32) (s : Sg) : Option (Int32 × Sg) :=
  (f_X8_isStreet x1 s).bind fun (v1 : Int32) =>
  if v1 = 0 then
    ob2 (f_X8_bad (-2 : Int32) s) fun (v2 : Int32) (s3 : Sg) =>
    some (v2, s3)
  else
    (f_X8_isHour x2 s).bind fun (v4 : Int32) =>
    if v4 = 0 then
      ob2 (f_X8_bad (-2 : Int32) s) fun (v7 : Int32) (s8 : Sg) =>
      some (v7, s8)
    else
      (f_X8_runAll s).bind fun (s5 : Sg) =>
      (f_X8_nameIn x1 x2 s5).bind fun (v6 : Int32) =>
      some (v6, s5)
def f_X8_changes (x1 : Int32) (s : Sg) : Option (Int32 × Sg) :=
  (f_X8_isStreet x1 s).bind fun (v1 : Int32) =>
  if v1 = 0 then
    ob2 (f_X8_bad (-2 : Int32) s) fun (v4 : Int32) (s5 : Sg) =>
    some (v4, s5)
  else
    (f_X8_runAll s).bind fun (s2 : Sg) =>
    (aget s2 81 x1).bind fun (v3 : Int32) =>
    some (v3, s2)
def b_X8_whichIn_5 (s : Sg) (x2 : Int32) (x1 : Int32) (self3 : Int32 → Int32 → Option Int32) (i1 : Int32) (i2 : Int32) : Option Int32 :=
  (f_X8_streets s).bind fun (v4 : Int32) =>
  if v4 ≤ i2 then
    some i1
  else
    (f_X8_nameIn i2 x2 s).bind fun (v5 : Int32) =>
    nm_ (fun (a6 : Int32) =>
      nm_ (i1 ||| a6) fun (v8 : Int32) =>
      self3 v8 (i2 + (1 : Int32))) fun j7 =>
    if v5 = x1 then
      j7 ((1 : Int32) <<< (i2 &&& 31))
    else
      j7 (0 : Int32)
def f_X8_whichIn (x1 : Int32) (x2 : Int32) (s : Sg) : Option Int32 :=
  lp2_ (b_X8_whichIn_5 s x2 x1) fu (0 : Int32) (0 : Int32)
def b_X8_which_40 (x3 : Int32) (s9 : Sg) (x1 : Int32) (self12 : Int32 → Int32 → Option (Int32 × Sg)) (i10 : Int32) (i11 : Int32) : Option (Int32 × Sg) :=
  if x3 < i11 then
    some (i10, s9)
  else
    (f_X8_whichIn x1 i11 s9).bind fun (v13 : Int32) =>
    nm_ (i10 ||| v13) fun (v14 : Int32) =>
    self12 v14 (i11 + (1 : Int32))
def f_X8_which (x1 : Int32) (x2 : Int32) (x3 : Int32) (s : Sg) : Option (Int32 × Sg) :=
  if x1 < 0 then
    ob2 (f_X8_bad (-2 : Int32) s) fun (v1 : Int32) (s2 : Sg) =>
    some (v1, s2)
  else
    (f_X8_isHour x2 s).bind fun (v3 : Int32) =>
    if v3 = 0 then
      ob2 (f_X8_bad (-2 : Int32) s) fun (v4 : Int32) (s5 : Sg) =>
      some (v4, s5)
    else
      (f_X8_isHour x3 s).bind fun (v6 : Int32) =>
      if v6 = 0 then
        ob2 (f_X8_bad (-2 : Int32) s) fun (v7 : Int32) (s8 : Sg) =>
        some (v7, s8)
      else
        if x2 ≤ x3 then
          (f_X8_runAll s).bind fun (s9 : Sg) =>
          lp2_ (b_X8_which_40 x3 s9 x1) fu (0 : Int32) x2
        else
          ob2 (f_X8_bad (-2 : Int32) s) fun (v15 : Int32) (s16 : Sg) =>
          some (v15, s16)
def b_X8_first_2 (x0 : Int32) (j2 : Int32 → Option Int32) (self4 : Int32 → Option Int32) (i3 : Int32) : Option Int32 :=
  if x0 ≤ 0 then
    j2 i3
  else
    if ((x0 >>> (i3 &&& 31)) &&& (1 : Int32)) = 0 then
      self4 (i3 + (1 : Int32))
    else
      j2 i3
def f_X8_first (x0 : Int32) (s : Sg) : Option Int32 :=
  nm_ (fun (a1 : Int32) =>
    if x0 = 0 then
      some (-1 : Int32)
    else
      some a1) fun j2 =>
  lp1_ (b_X8_first_2 x0 j2) fu (0 : Int32)
def f_X8_letter (x1 : Int32) (x2 : Int32) (x3 : Int32) (s : Sg) : Option (Int32 × Sg) :=
  (f_X8_isStreet x1 s).bind fun (v1 : Int32) =>
  if v1 = 0 then
    ob2 (f_X8_bad (-2 : Int32) s) fun (v2 : Int32) (s3 : Sg) =>
    some (v2, s3)
  else
    (f_X8_isHour x2 s).bind fun (v4 : Int32) =>
    if v4 = 0 then
      ob2 (f_X8_bad (-2 : Int32) s) fun (v5 : Int32) (s6 : Sg) =>
      some (v5, s6)
    else
      (f_X8_isHour x3 s).bind fun (v7 : Int32) =>
      if v7 = 0 then
        ob2 (f_X8_bad (-2 : Int32) s) fun (v8 : Int32) (s9 : Sg) =>
        some (v8, s9)
      else
        if x2 ≤ x3 then
          (f_X8_runAll s).bind fun (s10 : Sg) =>
          (f_X8_nameIn x1 x2 s10).bind fun (v11 : Int32) =>
          (f_X8_whichIn v11 x3 s10).bind fun (v12 : Int32) =>
          (f_X8_first v12 s10).bind fun (v13 : Int32) =>
          if v13 = (-1 : Int32) then
            some ((2 : Int32), s10)
          else
            if v13 = x1 then
              some ((0 : Int32), s10)
            else
              some ((1 : Int32), s10)
        else
          ob2 (f_X8_bad (-2 : Int32) s) fun (v14 : Int32) (s15 : Sg) =>
          some (v14, s15)
def f_X8_cab (x1 : Int32) (x2 : Int32) (x3 : Int32) (s : Sg) : Option (Int32 × Sg) :=
  (f_X8_isStreet x1 s).bind fun (v1 : Int32) =>
  if v1 = 0 then
    ob2 (f_X8_bad (-2 : Int32) s) fun (v2 : Int32) (s3 : Sg) =>
    some (v2, s3)
  else
    (f_X8_isHour x2 s).bind fun (v4 : Int32) =>
    if v4 = 0 then
      ob2 (f_X8_bad (-2 : Int32) s) fun (v5 : Int32) (s6 : Sg) =>
      some (v5, s6)
    else
      (f_X8_in (Int32.toInt64 x3) (0 : Int64) (23 : Int64) s).bind fun (v7 : Int32) =>
      if v7 = 0 then
        ob2 (f_X8_bad (-2 : Int32) s) fun (v14 : Int32) (s15 : Sg) =>
        some (v14, s15)
      else
        (f_X8_runAll s).bind fun (s8 : Sg) =>
        (f_X8_nameIn x1 x2 s8).bind fun (v9 : Int32) =>
        nm_ (fun (a10 : Int32) =>
          (f_X8_whichIn v9 a10 s8).bind fun (v12 : Int32) =>
          (f_X8_first v12 s8).bind fun (v13 : Int32) =>
          some (v13, s8)) fun j11 =>
        if x3 ≤ x2 then
          j11 (x2 - x3)
        else
          j11 (0 : Int32)
def b_X8_find_51 (s5 : Sg) (j14 : Int32 → Option (Int32 × Sg)) (i11 : Int32) (x1 : Int32) (self21 : Int32 → Int32 → Option (Int32 × Sg)) (i19 : Int32) (i20 : Int32) : Option (Int32 × Sg) :=
  (f_X8_streets s5).bind fun (v22 : Int32) =>
  if v22 ≤ i20 then
    j14 i19
  else
    (f_X8_nameIn i20 i11 s5).bind fun (v23 : Int32) =>
    (f_X8_whichIn v23 i11 s5).bind fun (v24 : Int32) =>
    (f_X8_bits (v24 &&& x1) s5).bind fun (v25 : Int32) =>
    nm_ (fun (a26 : Int32) =>
      self21 a26 (i20 + (1 : Int32))) fun j27 =>
    if v25 ≤ i19 then
      j27 i19
    else
      j27 v25
def b_X8_find_38 (j8 : Int32 → Int32 → Option (Int32 × Sg)) (s5 : Sg) (x1 : Int32) (self12 : Int32 → Int32 → Int32 → Option (Int32 × Sg)) (i9 : Int32) (i10 : Int32) (i11 : Int32) : Option (Int32 × Sg) :=
  if (24 : Int32) ≤ i11 then
    j8 i9 i10
  else
    nm_ (fun (a13 : Int32) =>
      nm_ (fun (a15 : Int32) =>
        nm_ (fun (a17 : Int32) =>
          self12 a15 a17 (i11 + (1 : Int32))) fun j18 =>
        if i10 ≤ a13 then
          j18 i10
        else
          j18 a13) fun j16 =>
      if i10 ≤ a13 then
        j16 i9
      else
        j16 i11) fun j14 =>
    lp2_ (b_X8_find_51 s5 j14 i11 x1) fu (0 : Int32) (0 : Int32)
def f_X8_find (x1 : Int32) (x2 : Int32) (s : Sg) : Option (Int32 × Sg) :=
  (f_X8_areStreets x1 s).bind fun (v1 : Int32) =>
  if v1 = 0 then
    ob2 (f_X8_bad (-2 : Int32) s) fun (v2 : Int32) (s3 : Sg) =>
    some (v2, s3)
  else
    (f_X8_in (Int32.toInt64 x2) (0 : Int64) (1 : Int64) s).bind fun (v4 : Int32) =>
    if v4 = 0 then
      ob2 (f_X8_bad (-2 : Int32) s) fun (v28 : Int32) (s29 : Sg) =>
      some (v28, s29)
    else
      (f_X8_runAll s).bind fun (s5 : Sg) =>
      nm_ (fun (a6 : Int32) (a7 : Int32) =>
        if x2 = 0 then
          some (a6, s5)
        else
          some (a7, s5)) fun j8 =>
      lp3_ (b_X8_find_38 j8 s5 x1) fu (0 : Int32) (1000000 : Int32) (0 : Int32)
def f_X8_stageOne (x1 : Int32) (x2 : Int32) (x3 : Int32) (x4 : Int32) (s : Sg) : Option Sg :=
  (aset s 82 x1 x2).bind fun (s1 : Sg) =>
  (aset s1 83 x1 x3).bind fun (s2 : Sg) =>
  (aset s2 84 x1 x4).bind fun (s3 : Sg) =>
  some s3
def f_X8_gives (x1 : Int32) (x2 : Int32) (x3 : Int32) (x4 : Int32) (x5 : Int32) (x6 : Int32) (s : Sg) : Option (Int32 × Sg) :=
  nm_ (sts s 70 11 x1) fun (s1 : Sg) =>
  (f_X8_stageOne (0 : Int32) x4 x2 x5 s1).bind fun (s2 : Sg) =>
  (f_X8_stageOne (1 : Int32) x4 x3 x5 s2).bind fun (s3 : Sg) =>
  (f_X8_allEvents s3).bind fun (v4 : Int32) =>
  (f_X8_run v4 s3).bind fun (s5 : Sg) =>
  (aget s5 75 (((7 : Int32) * x6) + x4)).bind fun (v6 : Int32) =>
  nm_ (fun (a7 : Int32) =>
    if a7 = 0 then
      some (a7 &&& 1, s5)
    else
      nm_ (sts s5 70 15 x1) fun (s9 : Sg) =>
      nm_ (sts s9 70 16 x2) fun (s10 : Sg) =>
      nm_ (sts s10 70 17 x3) fun (s11 : Sg) =>
      some (a7 &&& 1, s11)) fun j8 =>
  if v6 = x5 then
    j8 (1 : Int32)
  else
    j8 (0 : Int32)
def b_X8_tryStages_61 (x3 : Int32) (j10 : Sg → Option (Int32 × Sg)) (i5 : Int32) (x1 : Int32) (x2 : Int32) (self13 : Int32 → Sg → Option (Int32 × Sg)) (i11 : Int32) (s12 : Sg) : Option (Int32 × Sg) :=
  if x3 < i11 then
    j10 s12
  else
    ob2 (f_X8_gives (2 : Int32) i5 i11 x1 x2 x3 s12) fun (v14 : Int32) (s15 : Sg) =>
    if v14 = 0 then
      self13 (i11 + (1 : Int32)) s15
    else
      some ((1 : Int32), s15)
def b_X8_tryStages_49 (x3 : Int32) (x1 : Int32) (x2 : Int32) (self7 : Int32 → Sg → Option (Int32 × Sg)) (i5 : Int32) (s6 : Sg) : Option (Int32 × Sg) :=
  if x3 < i5 then
    some ((0 : Int32), s6)
  else
    nm_ (i5 + (1 : Int32)) fun (v8 : Int32) =>
    nm_ (fun (s9 : Sg) =>
      self7 (i5 + (1 : Int32)) s9) fun j10 =>
    lp2_ (b_X8_tryStages_61 x3 j10 i5 x1 x2) fu v8 s6
def b_X8_tryStages_18 (x3 : Int32) (j4 : Sg → Option (Int32 × Sg)) (x1 : Int32) (x2 : Int32) (self18 : Int32 → Sg → Option (Int32 × Sg)) (i16 : Int32) (s17 : Sg) : Option (Int32 × Sg) :=
  if x3 < i16 then
    j4 s17
  else
    ob2 (f_X8_gives (1 : Int32) i16 (0 : Int32) x1 x2 x3 s17) fun (v19 : Int32) (s20 : Sg) =>
    if v19 = 0 then
      self18 (i16 + (1 : Int32)) s20
    else
      some ((1 : Int32), s20)
def f_X8_tryStages (x1 : Int32) (x2 : Int32) (x3 : Int32) (s : Sg) : Option (Int32 × Sg) :=
  ob2 (f_X8_gives (0 : Int32) (0 : Int32) (0 : Int32) x1 x2 x3 s) fun (v1 : Int32) (s2 : Sg) =>
  if v1 = 0 then
    nm_ (fun (s3 : Sg) =>
      lp2_ (b_X8_tryStages_49 x3 x1 x2) fu (0 : Int32) s3) fun j4 =>
    lp2_ (b_X8_tryStages_18 x3 j4 x1 x2) fu (0 : Int32) s2
  else
    some ((1 : Int32), s2)
def f_X8_stage (x1 : Int32) (x2 : Int32) (x3 : Int32) (x4 : Int32) (s : Sg) : Option (Int32 × Sg) :=
  (f_X8_isStreet x1 s).bind fun (v1 : Int32) =>
  if v1 = 0 then
    ob2 (f_X8_bad (-10 : Int32) s) fun (v2 : Int32) (s3 : Sg) =>
    some (v2, s3)
  else
    (f_X8_isWord x2 s).bind fun (v4 : Int32) =>
    if v4 = 0 then
      ob2 (f_X8_bad (-10 : Int32) s) fun (v5 : Int32) (s6 : Sg) =>
      some (v5, s6)
    else
      (f_X8_isHour x3 s).bind fun (v7 : Int32) =>
      if v7 = 0 then
        ob2 (f_X8_bad (-10 : Int32) s) fun (v8 : Int32) (s9 : Sg) =>
        some (v8, s9)
      else
        if (-1 : Int32) ≤ x4 then
          ob2 (f_X8_tryStages x1 x2 x3 s) fun (v10 : Int32) (s11 : Sg) =>
          if v10 = 0 then
            some ((-1 : Int32), s11)
          else
            if x4 = (-1 : Int32) then
              some (s11 70 15, s11)
            else
              if x4 < (s11 70 15) then
                if x4 = 0 then
                  some (s11 70 16, s11)
                else
                  some (s11 70 17, s11)
              else
                some ((-5 : Int32), s11)
        else
          ob2 (f_X8_bad (-10 : Int32) s) fun (v12 : Int32) (s13 : Sg) =>
          some (v12, s13)
def b_X8_forbid_24 (x1 : Int32) (self6 : Int32 → Int32 → Sg → Option (Int32 × Sg)) (i3 : Int32) (i4 : Int32) (s5 : Sg) : Option (Int32 × Sg) :=
  (f_X8_events s5).bind fun (v7 : Int32) =>
  if ((1 : Int32) <<< (v7 &&& 31)) ≤ i4 then
    some (i3, s5)
  else
    nm_ (fun (a8 : Int32) (s9 : Sg) =>
      self6 a8 (i4 + (1 : Int32)) s9) fun j10 =>
    nm_ (fun (_ : Unit) =>
      (f_X8_allEvents s5).bind fun (v12 : Int32) =>
      (f_X8_run (v12 &&& (i4 ^^^ (-1 : Int32))) s5).bind fun (s13 : Sg) =>
      (aget s13 75 ((161 : Int32) + x1)).bind fun (v14 : Int32) =>
      (f_X8_has x1 (3 : Int32) s13).bind fun (v15 : Int32) =>
      nm_ (fun (a16 : Int32) =>
        j10 a16 s13) fun j17 =>
      if v14 = v15 then
        j17 i4
      else
        j17 i3) fun j11 =>
    if i3 = (-1 : Int32) then
      j11 ()
    else
      (f_X8_bits i4 s5).bind fun (v18 : Int32) =>
      (f_X8_bits i3 s5).bind fun (v19 : Int32) =>
      if v19 ≤ v18 then
        j10 i3 s5
      else
        j11 ()
def f_X8_forbid (x1 : Int32) (s : Sg) : Option (Int32 × Sg) :=
  (f_X8_isStreet x1 s).bind fun (v1 : Int32) =>
  if v1 = 0 then
    ob2 (f_X8_bad (-2 : Int32) s) fun (v20 : Int32) (s21 : Sg) =>
    some (v20, s21)
  else
    nm_ (sts s 70 11 (0 : Int32)) fun (s2 : Sg) =>
    lp3_ (b_X8_forbid_24 x1) fu (-1 : Int32) (0 : Int32) s2
def b_X8_rentNow_4 (s : Sg) (x1 : Int32) (self3 : Int32 → Int32 → Option Int32) (i1 : Int32) (i2 : Int32) : Option Int32 :=
  if (24 : Int32) ≤ i2 then
    some i1
  else
    (aget s 75 (((7 : Int32) * i2) + x1)).bind fun (v4 : Int32) =>
    (aget s 71 ((81 : Int32) + v4)).bind fun (v5 : Int32) =>
    nm_ (i1 + v5) fun (v6 : Int32) =>
    self3 v6 (i2 + (1 : Int32))
def f_X8_rentNow (x1 : Int32) (s : Sg) : Option Int32 :=
  lp2_ (b_X8_rentNow_4 s x1) fu (0 : Int32) (0 : Int32)
def f_X8_rents (x1 : Int32) (s : Sg) : Option (Int32 × Sg) :=
  (f_X8_isStreet x1 s).bind fun (v1 : Int32) =>
  if v1 = 0 then
    ob2 (f_X8_bad (-2 : Int32) s) fun (v4 : Int32) (s5 : Sg) =>
    some (v4, s5)
  else
    (f_X8_runAll s).bind fun (s2 : Sg) =>
    (f_X8_rentNow x1 s2).bind fun (v3 : Int32) =>
    some (v3, s2)
def b_X8_dearest_4 (s : Sg) (self3 : Int32 → Int32 → Option Int32) (i1 : Int32) (i2 : Int32) : Option Int32 :=
  if (16 : Int32) ≤ i2 then
    some i1
  else
    (aget s 71 ((81 : Int32) + i2)).bind fun (v4 : Int32) =>
    (aget s 71 ((81 : Int32) + i1)).bind fun (v5 : Int32) =>
    nm_ (fun (a6 : Int32) =>
      self3 a6 (i2 + (1 : Int32))) fun j7 =>
    if v4 ≤ v5 then
      j7 i1
    else
      j7 i2
def f_X8_dearest (s : Sg) : Option Int32 :=
  lp2_ (b_X8_dearest_4 s) fu (0 : Int32) (1 : Int32)
def b_X8_layGets_9 (x1 : Int32) (x2 : Int32) (x4 : Int32) (x3 : Int32) (v1 : Int32) (self4 : Int32 → Sg → Option Sg) (i2 : Int32) (s3 : Sg) : Option Sg :=
  if (4 : Int32) ≤ i2 then
    some s3
  else
    nm_ (sts s3 70 11 (0 : Int32)) fun (s5 : Sg) =>
    nm_ (fun (s6 : Sg) =>
      nm_ (fun (s8 : Sg) =>
        (f_X8_allEvents s8).bind fun (v10 : Int32) =>
        (f_X8_run v10 s8).bind fun (s11 : Sg) =>
        (f_X8_rentNow x1 s11).bind fun (v12 : Int32) =>
        nm_ (fun (a13 : Int32) =>
          (aset s11 85 i2 (v12 - a13)).bind fun (s15 : Sg) =>
          (f_X8_rentNow x2 s15).bind fun (v16 : Int32) =>
          nm_ (fun (a17 : Int32) =>
            (aset s15 86 i2 (v16 - a17)).bind fun (s19 : Sg) =>
            self4 (i2 + (1 : Int32)) s19) fun j18 =>
          if i2 ≤ (1 : Int32) then
            j18 (0 : Int32)
          else
            j18 x4) fun j14 =>
        if (i2 &&& (1 : Int32)) = (1 : Int32) then
          j14 x4
        else
          j14 (0 : Int32)) fun j9 =>
      if i2 ≤ (1 : Int32) then
        j9 s6
      else
        (f_X8_stageOne (s6 70 11) x2 x3 v1 s6).bind fun (s20 : Sg) =>
        nm_ (sts s20 70 11 ((s20 70 11) + (1 : Int32))) fun (s21 : Sg) =>
        j9 s21) fun j7 =>
    if (i2 &&& (1 : Int32)) = (1 : Int32) then
      (f_X8_stageOne (s5 70 11) x1 x3 v1 s5).bind fun (s22 : Sg) =>
      nm_ (sts s22 70 11 ((s22 70 11) + (1 : Int32))) fun (s23 : Sg) =>
      j7 s23
    else
      j7 s5
def f_X8_layGets (x1 : Int32) (x2 : Int32) (x3 : Int32) (x4 : Int32) (s : Sg) : Option Sg :=
  (f_X8_dearest s).bind fun (v1 : Int32) =>
  lp2_ (b_X8_layGets_9 x1 x2 x4 x3 v1) fu (0 : Int32) s
def b_X8_landlords_63 (s13 : Sg) (self16 : Int32 → Int32 → Option (Int32 × Sg)) (i14 : Int32) (i15 : Int32) : Option (Int32 × Sg) :=
  if (4 : Int32) ≤ i15 then
    some (i14, s13)
  else
    (aget s13 85 i15).bind fun (v17 : Int32) =>
    (aget s13 85 (i15 ^^^ (1 : Int32))).bind fun (v18 : Int32) =>
    nm_ (fun (a19 : Int32) =>
      nm_ (fun (a21 : Int32) =>
        nm_ (i14 ||| a21) fun (v23 : Int32) =>
        self16 v23 (i15 + (1 : Int32))) fun j22 =>
      if a19 = 0 then
        j22 (0 : Int32)
      else
        j22 ((1 : Int32) <<< (i15 &&& 31))) fun j20 =>
    nm_ (fun (_ : Unit) =>
      j20 (0 : Int32)) fun j24 =>
    if v17 < v18 then
      j24 ()
    else
      (aget s13 86 i15).bind fun (v25 : Int32) =>
      (aget s13 86 (i15 ^^^ (2 : Int32))).bind fun (v26 : Int32) =>
      if v25 < v26 then
        j24 ()
      else
        j20 (1 : Int32)
def f_X8_landlords (x1 : Int32) (x2 : Int32) (x3 : Int32) (x4 : Int32) (s : Sg) : Option (Int32 × Sg) :=
  (f_X8_isStreet x1 s).bind fun (v1 : Int32) =>
  if v1 = 0 then
    ob2 (f_X8_bad (-2 : Int32) s) fun (v2 : Int32) (s3 : Sg) =>
    some (v2, s3)
  else
    (f_X8_isStreet x2 s).bind fun (v4 : Int32) =>
    if v4 = 0 then
      ob2 (f_X8_bad (-2 : Int32) s) fun (v5 : Int32) (s6 : Sg) =>
      some (v5, s6)
    else
      if x1 = x2 then
        ob2 (f_X8_bad (-2 : Int32) s) fun (v7 : Int32) (s8 : Sg) =>
        some (v7, s8)
      else
        (f_X8_isHour x3 s).bind fun (v9 : Int32) =>
        if v9 = 0 then
          ob2 (f_X8_bad (-2 : Int32) s) fun (v10 : Int32) (s11 : Sg) =>
          some (v10, s11)
        else
          (f_X8_in (Int32.toInt64 x4) (0 : Int64) (99 : Int64) s).bind fun (v12 : Int32) =>
          if v12 = 0 then
            ob2 (f_X8_bad (-2 : Int32) s) fun (v27 : Int32) (s28 : Sg) =>
            some (v27, s28)
          else
            (f_X8_layGets x1 x2 x3 x4 s).bind fun (s13 : Sg) =>
            lp2_ (b_X8_landlords_63 s13) fu (0 : Int32) (0 : Int32)
def b_X8_goAlong_6 (x2 : Int32) (x1 : Int32) (x3 : Int32) (self4 : Int32 → Int32 → Sg → Option (Int32 × Sg)) (i1 : Int32) (i2 : Int32) (s3 : Sg) : Option (Int32 × Sg) :=
  if (128 : Int32) ≤ i2 then
    some (i1 &&& 1, s3)
  else
    (aget s3 87 (((128 : Int32) * x2) + i2)).bind fun (v5 : Int32) =>
    (f_X8_has x1 (2 : Int32) s3).bind fun (v6 : Int32) =>
    nm_ (v5 + v6) fun (v7 : Int32) =>
    nm_ (((128 : Int32) * x3) + (i2 ||| ((1 : Int32) <<< (x1 &&& 31)))) fun (v8 : Int32) =>
    nm_ (fun (a9 : Int32) =>
      (aget s3 87 v8).bind fun (v11 : Int32) =>
      nm_ (fun (a12 : Int32) =>
        (aset s3 87 v8 a12).bind fun (s14 : Sg) =>
        self4 a9 (i2 + (1 : Int32)) s14) fun j13 =>
      if v11 ≤ v7 then
        (aget s3 87 v8).bind fun (v15 : Int32) =>
        j13 v15
      else
        j13 v7) fun j10 =>
    nm_ (fun (_ : Unit) =>
      j10 (1 : Int32)) fun j16 =>
    if i1 = 0 then
      (aget s3 87 v8).bind fun (v17 : Int32) =>
      if v17 ≤ v7 then
        j10 (0 : Int32)
      else
        j16 ()
    else
      j16 ()
def f_X8_goAlong (x1 : Int32) (x2 : Int32) (x3 : Int32) (s : Sg) : Option (Int32 × Sg) :=
  lp3_ (b_X8_goAlong_6 x2 x1 x3) fu (0 : Int32) (0 : Int32) s
def b_X8_round_165 (j10 : Int32 → Option (Int32 × Sg)) (x2 : Int32) (s7 : Sg) (self13 : Int32 → Int32 → Option (Int32 × Sg)) (i11 : Int32) (i12 : Int32) : Option (Int32 × Sg) :=
  if (1024 : Int32) ≤ i12 then
    j10 i11
  else
    nm_ (fun (a14 : Int32) =>
      self13 a14 (i12 + (1 : Int32))) fun j15 =>
    nm_ (fun (_ : Unit) =>
      j15 i11) fun j16 =>
    if (i12 &&& x2) = x2 then
      (aget s7 87 i12).bind fun (v17 : Int32) =>
      if i11 ≤ v17 then
        j16 ()
      else
        (aget s7 87 i12).bind fun (v18 : Int32) =>
        j15 v18
    else
      j16 ()
def b_X8_round_74 (j24 : Int32 → Sg → Option (Int32 × Sg)) (self28 : Int32 → Int32 → Sg → Option (Int32 × Sg)) (i25 : Int32) (i26 : Int32) (s27 : Sg) : Option (Int32 × Sg) :=
  (f_X8_streets s27).bind fun (v29 : Int32) =>
  if v29 ≤ i26 then
    j24 i25 s27
  else
    (f_X8_has i26 (0 : Int32) s27).bind fun (v30 : Int32) =>
    (f_X8_has i26 (1 : Int32) s27).bind fun (v31 : Int32) =>
    ob2 (f_X8_goAlong i26 v30 v31 s27) fun (v32 : Int32) (s33 : Sg) =>
    nm_ (fun (a34 : Int32) =>
      (f_X8_has i26 (1 : Int32) s33).bind fun (v36 : Int32) =>
      (f_X8_has i26 (0 : Int32) s33).bind fun (v37 : Int32) =>
      ob2 (f_X8_goAlong i26 v36 v37 s33) fun (v38 : Int32) (s39 : Sg) =>
      nm_ (fun (a40 : Int32) =>
        self28 a40 (i26 + (1 : Int32)) s39) fun j41 =>
      nm_ (fun (_ : Unit) =>
        j41 (1 : Int32)) fun j42 =>
      if v38 = 0 then
        if a34 = 0 then
          j41 (0 : Int32)
        else
          j42 ()
      else
        j42 ()) fun j35 =>
    nm_ (fun (_ : Unit) =>
      j35 (1 : Int32)) fun j43 =>
    if v32 = 0 then
      if i25 = 0 then
        j35 (0 : Int32)
      else
        j43 ()
    else
      j43 ()
def b_X8_round_65 (j8 : Sg → Option (Int32 × Sg)) (self21 : Int32 → Sg → Option (Int32 × Sg)) (i19 : Int32) (s20 : Sg) : Option (Int32 × Sg) :=
  if i19 = 0 then
    j8 s20
  else
    nm_ (fun (a22 : Int32) (s23 : Sg) =>
      self21 a22 s23) fun j24 =>
    lp3_ (b_X8_round_74 j24) fu (0 : Int32) (0 : Int32) s20
def b_X8_round_29 (j6 : Sg → Option (Int32 × Sg)) (x1 : Int32) (self46 : Int32 → Sg → Option (Int32 × Sg)) (i44 : Int32) (s45 : Sg) : Option (Int32 × Sg) :=
  if (1024 : Int32) ≤ i44 then
    j6 s45
  else
    nm_ (fun (a47 : Int32) =>
      (aset s45 87 i44 a47).bind fun (s49 : Sg) =>
      self46 (i44 + (1 : Int32)) s49) fun j48 =>
    if i44 = ((128 : Int32) * x1) then
      j48 (0 : Int32)
    else
      j48 (1000000 : Int32)
def f_X8_round (x1 : Int32) (x2 : Int32) (s : Sg) : Option (Int32 × Sg) :=
  (f_X8_in (Int32.toInt64 x1) (0 : Int64) (7 : Int64) s).bind fun (v1 : Int32) =>
  if v1 = 0 then
    ob2 (f_X8_bad (-2 : Int32) s) fun (v2 : Int32) (s3 : Sg) =>
    some (v2, s3)
  else
    (f_X8_areStreets x2 s).bind fun (v4 : Int32) =>
    if v4 = 0 then
      ob2 (f_X8_bad (-2 : Int32) s) fun (v50 : Int32) (s51 : Sg) =>
      some (v50, s51)
    else
      nm_ (fun (s5 : Sg) =>
        nm_ (fun (s7 : Sg) =>
          nm_ (fun (a9 : Int32) =>
            if a9 = (1000000 : Int32) then
              some ((-1 : Int32), s7)
            else
              some (a9, s7)) fun j10 =>
          lp2_ (b_X8_round_165 j10 x2 s7) fu (1000000 : Int32) (0 : Int32)) fun j8 =>
        lp2_ (b_X8_round_65 j8) fu (1 : Int32) s5) fun j6 =>
      lp2_ (b_X8_round_29 j6 x1) fu (0 : Int32) s
def f_X8_reading (x1 : Int32) (x2 : Int32) (x3 : Int32) (s : Sg) : Option (Int32 × Sg) :=
  (f_X8_isStreet x1 s).bind fun (v1 : Int32) =>
  if v1 = 0 then
    ob2 (f_X8_bad (-2 : Int32) s) fun (v2 : Int32) (s3 : Sg) =>
    some (v2, s3)
  else
    (f_X8_isHour x2 s).bind fun (v4 : Int32) =>
    if v4 = 0 then
      ob2 (f_X8_bad (-2 : Int32) s) fun (v5 : Int32) (s6 : Sg) =>
      some (v5, s6)
    else
      (f_X8_isWord x3 s).bind fun (v7 : Int32) =>
      if v7 = 0 then
        ob2 (f_X8_bad (-2 : Int32) s) fun (v19 : Int32) (s20 : Sg) =>
        some (v19, s20)
      else
        (aget s 71 (3 : Int32)).bind fun (v8 : Int32) =>
        if v8 = (6 : Int32) then
          ob2 (f_X8_full s) fun (v17 : Int32) (s18 : Sg) =>
          some (v17, s18)
        else
          (aget s 71 (3 : Int32)).bind fun (v9 : Int32) =>
          nm_ ((97 : Int32) + ((3 : Int32) * v9)) fun (v10 : Int32) =>
          (aset s 71 v10 x1).bind fun (s11 : Sg) =>
          (aset s11 71 (v10 + (1 : Int32)) x2).bind fun (s12 : Sg) =>
          (aset s12 71 (v10 + (2 : Int32)) x3).bind fun (s13 : Sg) =>
          (aget s13 71 (3 : Int32)).bind fun (v14 : Int32) =>
          (aset s13 71 (3 : Int32) (v14 + (1 : Int32))).bind fun (s15 : Sg) =>
          (aget s15 71 (3 : Int32)).bind fun (v16 : Int32) =>
          some (v16 - (1 : Int32), s15)
def f_X8_burn (s : Sg) : Option (Int32 × Sg) :=
  (aget s 71 (3 : Int32)).bind fun (v1 : Int32) =>
  (aset s 71 (3 : Int32) (0 : Int32)).bind fun (s2 : Sg) =>
  some (v1, s2)
def b_X8_areRead_4 (s : Sg) (self3 : Int32 → Int32 → Option Int32) (i1 : Int32) (i2 : Int32) : Option Int32 :=
  (aget s 71 (3 : Int32)).bind fun (v4 : Int32) =>
  if v4 ≤ i2 then
    some (i1 &&& 1)
  else
    nm_ ((97 : Int32) + ((3 : Int32) * i2)) fun (v5 : Int32) =>
    nm_ (fun (a6 : Int32) =>
      self3 a6 (i2 + (1 : Int32))) fun j7 =>
    nm_ (fun (_ : Unit) =>
      j7 (0 : Int32)) fun j8 =>
    if i1 = 0 then
      j8 ()
    else
      (aget s 71 (v5 + (1 : Int32))).bind fun (v9 : Int32) =>
      (aget s 71 v5).bind fun (v10 : Int32) =>
      (aget s 75 (((7 : Int32) * v9) + v10)).bind fun (v11 : Int32) =>
      (aget s 71 (v5 + (2 : Int32))).bind fun (v12 : Int32) =>
      if v11 = v12 then
        j7 (1 : Int32)
      else
        j8 ()
def f_X8_areRead (s : Sg) : Option Int32 :=
  lp2_ (b_X8_areRead_4 s) fu (1 : Int32) (0 : Int32)
def b_X8_truly_32 (j7 : Int32 → Int32 → Sg → Option (Int32 × Sg)) (self12 : Int32 → Int32 → Int32 → Sg → Option (Int32 × Sg)) (i8 : Int32) (i9 : Int32) (i10 : Int32) (s11 : Sg) : Option (Int32 × Sg) :=
  (f_X8_events s11).bind fun (v13 : Int32) =>
  if ((1 : Int32) <<< (v13 &&& 31)) ≤ i10 then
    j7 i8 i9 s11
  else
    (f_X8_run i10 s11).bind fun (s14 : Sg) =>
    (f_X8_areRead s14).bind fun (v15 : Int32) =>
    nm_ (fun (a16 : Int32) =>
      nm_ (i8 + a16) fun (v18 : Int32) =>
      nm_ (fun (a19 : Int32) =>
        nm_ (i9 &&& a19) fun (v21 : Int32) =>
        self12 v18 v21 (i10 + (1 : Int32)) s14) fun j20 =>
      if v15 = 0 then
        j20 (-1 : Int32)
      else
        j20 i10) fun j17 =>
    if v15 = 0 then
      j17 (0 : Int32)
    else
      j17 (1 : Int32)
def f_X8_truly (x1 : Int32) (s : Sg) : Option (Int32 × Sg) :=
  (f_X8_in (Int32.toInt64 x1) (0 : Int64) (1 : Int64) s).bind fun (v1 : Int32) =>
  if v1 = 0 then
    ob2 (f_X8_bad (-10 : Int32) s) fun (v22 : Int32) (s23 : Sg) =>
    some (v22, s23)
  else
    (f_X8_allEvents s).bind fun (v2 : Int32) =>
    nm_ (sts s 70 11 (0 : Int32)) fun (s3 : Sg) =>
    nm_ (fun (a4 : Int32) (a5 : Int32) (s6 : Sg) =>
      if x1 = 0 then
        some (a4, s6)
      else
        if a4 = 0 then
          some ((-1 : Int32), s6)
        else
          some (a5, s6)) fun j7 =>
    lp4_ (b_X8_truly_32 j7) fu (0 : Int32) v2 (0 : Int32) s3
def b_X8_drawn_139 (s18 : Sg) (j20 : Int32 → Option (Int32 × Sg)) (self23 : Int32 → Int32 → Option (Int32 × Sg)) (i21 : Int32) (i22 : Int32) : Option (Int32 × Sg) :=
  (f_X8_streets s18).bind fun (v24 : Int32) =>
  if v24 ≤ i22 then
    j20 i21
  else
    (aget s18 81 i22).bind fun (v25 : Int32) =>
    nm_ (i21 + v25) fun (v26 : Int32) =>
    self23 v26 (i22 + (1 : Int32))
def b_X8_drawn_70 (s13 : Sg) (j17 : Int64 → Int32 → Option (Int32 × Sg)) (x3 : Int32) (self30 : Int64 → Int32 → Int32 → Option (Int32 × Sg)) (i27 : Int64) (i28 : Int32) (i29 : Int32) : Option (Int32 × Sg) :=
  (f_X8_events s13).bind fun (v31 : Int32) =>
  if v31 ≤ i29 then
    j17 i27 i28
  else
    nm_ (((i27 * (1103515245 : Int64)) + (12345 : Int64)) - ((i27 * (1103515245 : Int64)) + (12345 : Int64)) / (2147483648 : Int64) * (2147483648 : Int64)) fun (v32 : Int64) =>
    nm_ (fun (a33 : Int32) =>
      nm_ (i28 ||| a33) fun (v35 : Int32) =>
      self30 v32 v35 (i29 + (1 : Int32))) fun j34 =>
    if 0 ≤ (lg_cmp ((v32 / (65536 : Int64)) - (v32 / (65536 : Int64)) / (100 : Int64) * (100 : Int64)) (Int32.toInt64 x3)) then
      j34 (0 : Int32)
    else
      j34 ((1 : Int32) <<< (i29 &&& 31))
def b_X8_drawn_58 (x2 : Int32) (x3 : Int32) (self14 : Int64 → Int32 → Int32 → Sg → Option (Int32 × Sg)) (i10 : Int64) (i11 : Int32) (i12 : Int32) (s13 : Sg) : Option (Int32 × Sg) :=
  if x2 ≤ i12 then
    some (i11, s13)
  else
    nm_ (fun (a15 : Int64) (a16 : Int32) =>
      (f_X8_run a16 s13).bind fun (s18 : Sg) =>
      nm_ (fun (a19 : Int32) =>
        self14 a15 a19 (i12 + (1 : Int32)) s18) fun j20 =>
      lp2_ (b_X8_drawn_139 s18 j20) fu i11 (0 : Int32)) fun j17 =>
    lp3_ (b_X8_drawn_70 s13 j17 x3) fu i10 (0 : Int32) (0 : Int32)
def f_X8_drawn (x1 : Int32) (x2 : Int32) (x3 : Int32) (s : Sg) : Option (Int32 × Sg) :=
  (f_X8_in (Int32.toInt64 x1) (0 : Int64) (999999 : Int64) s).bind fun (v1 : Int32) =>
  if v1 = 0 then
    ob2 (f_X8_bad (-2 : Int32) s) fun (v2 : Int32) (s3 : Sg) =>
    some (v2, s3)
  else
    (f_X8_in (Int32.toInt64 x2) (0 : Int64) (30 : Int64) s).bind fun (v4 : Int32) =>
    if v4 = 0 then
      ob2 (f_X8_bad (-2 : Int32) s) fun (v5 : Int32) (s6 : Sg) =>
      some (v5, s6)
    else
      (f_X8_in (Int32.toInt64 x3) (0 : Int64) (100 : Int64) s).bind fun (v7 : Int32) =>
      if v7 = 0 then
        ob2 (f_X8_bad (-2 : Int32) s) fun (v36 : Int32) (s37 : Sg) =>
        some (v36, s37)
      else
        nm_ (Int32.toInt64 x1) fun (v8 : Int64) =>
        nm_ (sts s 70 11 (0 : Int32)) fun (s9 : Sg) =>
        lp4_ (b_X8_drawn_58 x2 x3) fu v8 (0 : Int32) (0 : Int32) s9
def f_X8_type (x1 : Int32) (s : Sg) : Option (Int32 × Sg) :=
  (f_X8_in (Int32.toInt64 x1) (0 : Int64) (127 : Int64) s).bind fun (v1 : Int32) =>
  if v1 = 0 then
    ob2 (f_X8_bad (-2 : Int32) s) fun (v6 : Int32) (s7 : Sg) =>
    some (v6, s7)
  else
    if (s 70 22) = (150 : Int32) then
      ob2 (f_X8_full s) fun (v4 : Int32) (s5 : Sg) =>
      some (v4, s5)
    else
      (aset s 88 (s 70 22) x1).bind fun (s2 : Sg) =>
      nm_ (sts s2 70 22 ((s2 70 22) + (1 : Int32))) fun (s3 : Sg) =>
      some (s3 70 22, s3)
def f_X8_clear (s : Sg) : Option (Int32 × Sg) :=
  nm_ (s 70 22) fun (v1 : Int32) =>
  nm_ (sts s 70 22 (0 : Int32)) fun (s2 : Sg) =>
  some (v1, s2)
def f_X8_isSmall (x0 : Int32) (s : Sg) : Option Int32 :=
  (f_X8_in (Int32.toInt64 x0) (97 : Int64) (122 : Int64) s).bind fun (v1 : Int32) =>
  some (v1 &&& 1)
def f_X8_isFigure (x0 : Int32) (s : Sg) : Option Int32 :=
  (f_X8_in (Int32.toInt64 x0) (48 : Int64) (57 : Int64) s).bind fun (v1 : Int32) =>
  some (v1 &&& 1)
def b_X8_look_218 (j18 : Sg → Option Sg) (self24 : Int32 → Sg → Option Sg) (i22 : Int32) (s23 : Sg) : Option Sg :=
  if (s23 70 24) ≤ i22 then
    j18 s23
  else
    if (2 : Int32) ≤ i22 then
      j18 s23
    else
      if (s23 70 25) = (2 : Int32) then
        (aget s23 88 ((s23 70 23) + i22)).bind fun (v25 : Int32) =>
        nm_ (sts s23 70 26 ((((10 : Int32) * (s23 70 26)) + v25) - (48 : Int32))) fun (s26 : Sg) =>
        self24 (i22 + (1 : Int32)) s26
      else
        j18 s23
def b_X8_look_136 (j16 : Sg → Option Sg) (self29 : Int32 → Sg → Option Sg) (i27 : Int32) (s28 : Sg) : Option Sg :=
  if i27 = 0 then
    j16 s28
  else
    if (s28 70 22) ≤ ((s28 70 23) + (s28 70 24)) then
      j16 s28
    else
      (aget s28 88 ((s28 70 23) + (s28 70 24))).bind fun (v30 : Int32) =>
      nm_ (fun (a31 : Int32) =>
        nm_ (fun (a33 : Int32) =>
          nm_ (sts s28 70 24 ((s28 70 24) + a33)) fun (s35 : Sg) =>
          self29 a31 s35) fun j34 =>
        if a31 = 0 then
          j34 (0 : Int32)
        else
          j34 (1 : Int32)) fun j32 =>
      if (s28 70 25) = (1 : Int32) then
        (f_X8_isSmall v30 s28).bind fun (v37 : Int32) =>
        j32 v37
      else
        (f_X8_isFigure v30 s28).bind fun (v36 : Int32) =>
        j32 v36
def b_X8_look_5 (j3 : Sg → Option Sg) (self40 : Sg → Option Sg) (s39 : Sg) : Option Sg :=
  if (s39 70 22) ≤ (s39 70 23) then
    j3 s39
  else
    (aget s39 88 (s39 70 23)).bind fun (v41 : Int32) =>
    if v41 = (32 : Int32) then
      nm_ (sts s39 70 23 ((s39 70 23) + (1 : Int32))) fun (s42 : Sg) =>
      self40 s42
    else
      j3 s39
def f_X8_look (x1 : Int32) (s : Sg) : Option Sg :=
  nm_ (sts s 70 23 x1) fun (s1 : Sg) =>
  nm_ (fun (s2 : Sg) =>
    nm_ (sts s2 70 24 (0 : Int32)) fun (s4 : Sg) =>
    nm_ (sts s4 70 25 (0 : Int32)) fun (s5 : Sg) =>
    nm_ (sts s5 70 26 (0 : Int32)) fun (s6 : Sg) =>
    if (s6 70 23) = (s6 70 22) then
      some s6
    else
      (aget s6 88 (s6 70 23)).bind fun (v7 : Int32) =>
      (f_X8_isSmall v7 s6).bind fun (v8 : Int32) =>
      nm_ (fun (a9 : Int32) =>
        nm_ (sts s6 70 25 a9) fun (s11 : Sg) =>
        nm_ (sts s11 70 24 (1 : Int32)) fun (s12 : Sg) =>
        nm_ (fun (a13 : Int32) =>
          nm_ (fun (s15 : Sg) =>
            nm_ (fun (s17 : Sg) =>
              if (s17 70 25) = (2 : Int32) then
                if (s17 70 24) ≤ (2 : Int32) then
                  nm_ (sts s17 70 25 (s17 70 25)) fun (s20 : Sg) =>
                  some s20
                else
                  nm_ (sts s17 70 25 (4 : Int32)) fun (s21 : Sg) =>
                  some s21
              else
                nm_ (sts s17 70 25 (s17 70 25)) fun (s19 : Sg) =>
                some s19) fun j18 =>
            lp2_ (b_X8_look_218 j18) fu (0 : Int32) s15) fun j16 =>
          lp2_ (b_X8_look_136 j16) fu a13 s12) fun j14 =>
        if (3 : Int32) ≤ (s12 70 25) then
          j14 (0 : Int32)
        else
          j14 (1 : Int32)) fun j10 =>
      if v8 = 0 then
        (f_X8_isFigure v7 s6).bind fun (v38 : Int32) =>
        if v38 = 0 then
          if v7 = (59 : Int32) then
            j10 (3 : Int32)
          else
            j10 (4 : Int32)
        else
          j10 (2 : Int32)
      else
        j10 (1 : Int32)) fun j3 =>
  lp1_ (b_X8_look_5 j3) fu s1
def f_X8_goOn (s : Sg) : Option Sg :=
  (f_X8_look ((s 70 23) + (s 70 24)) s).bind fun (s1 : Sg) =>
  some s1
def b_X8_isCalled_26 (x1 : Int32) (s : Sg) (x2 : Int32) (x3 : Int32) (x4 : Int32) (x5 : Int32) (x6 : Int32) (x7 : Int32) (self5 : Int32 → Int32 → Option Int32) (i3 : Int32) (i4 : Int32) : Option Int32 :=
  if x1 ≤ i4 then
    some (i3 &&& 1)
  else
    if i3 = 0 then
      some (i3 &&& 1)
    else
      (aget s 88 ((s 70 23) + i4)).bind fun (v6 : Int32) =>
      nm_ (fun (a7 : Int32) =>
        nm_ (fun (a9 : Int32) =>
          self5 a9 (i4 + (1 : Int32))) fun j10 =>
        if v6 = a7 then
          j10 (1 : Int32)
        else
          j10 (0 : Int32)) fun j8 =>
      if i4 = 0 then
        j8 x2
      else
        if i4 = (1 : Int32) then
          j8 x3
        else
          if i4 = (2 : Int32) then
            j8 x4
          else
            if i4 = (3 : Int32) then
              j8 x5
            else
              if i4 = (4 : Int32) then
                j8 x6
              else
                j8 x7
def f_X8_isCalled (x1 : Int32) (x2 : Int32) (x3 : Int32) (x4 : Int32) (x5 : Int32) (x6 : Int32) (x7 : Int32) (s : Sg) : Option Int32 :=
  nm_ (fun (a1 : Int32) =>
    lp2_ (b_X8_isCalled_26 x1 s x2 x3 x4 x5 x6 x7) fu a1 (0 : Int32)) fun j2 =>
  nm_ (fun (_ : Unit) =>
    j2 (0 : Int32)) fun j11 =>
  if (s 70 25) = (1 : Int32) then
    if (s 70 24) = x1 then
      j2 (1 : Int32)
    else
      j11 ()
  else
    j11 ()
def f_X8_takes (x1 : Int32) (x2 : Int32) (x3 : Int32) (s : Sg) : Option (Int32 × Sg) :=
  if (s 70 25) = (2 : Int32) then
    (f_X8_in (Int32.toInt64 (s 70 26)) (Int32.toInt64 x2) (Int32.toInt64 x3) s).bind fun (v1 : Int32) =>
    if v1 = 0 then
      some ((0 : Int32), s)
    else
      (aset s 90 x1 (s 70 26)).bind fun (s2 : Sg) =>
      (f_X8_goOn s2).bind fun (s3 : Sg) =>
      some ((1 : Int32), s3)
  else
    some ((0 : Int32), s)
def f_X8_readsFirst (s : Sg) : Option (Int32 × Sg) :=
  (f_X8_isCalled (4 : Int32) (116 : Int32) (111 : Int32) (119 : Int32) (110 : Int32) (0 : Int32) (0 : Int32) s).bind fun (v1 : Int32) =>
  if v1 = 0 then
    some ((0 : Int32), s)
  else
    (f_X8_goOn s).bind fun (s2 : Sg) =>
    ob2 (f_X8_takes (0 : Int32) (0 : Int32) (2 : Int32) s2) fun (v3 : Int32) (s4 : Sg) =>
    nm_ (fun (a5 : Int32) =>
      (f_X8_begin 89 a5 s4).bind fun (s7 : Sg) =>
      if v3 = 0 then
        some ((0 : Int32), s7)
      else
        if (s7 70 25) = (3 : Int32) then
          some ((1 : Int32), s7)
        else
          some ((0 : Int32), s7)) fun j6 =>
    if v3 = 0 then
      j6 (0 : Int32)
    else
      (aget s4 90 (0 : Int32)).bind fun (v8 : Int32) =>
      j6 v8
def f_X8_readsStreet (s : Sg) : Option (Int32 × Sg) :=
  (aget s 89 (0 : Int32)).bind fun (v1 : Int32) =>
  if v1 = (7 : Int32) then
    some ((0 : Int32), s)
  else
    (f_X8_goOn s).bind fun (s2 : Sg) =>
    ob2 (f_X8_takes (0 : Int32) (0 : Int32) (7 : Int32) s2) fun (v3 : Int32) (s4 : Sg) =>
    if v3 = 0 then
      some ((0 : Int32), s4)
    else
      nm_ (fun (_ : Unit) =>
        ob2 (f_X8_takes (1 : Int32) (0 : Int32) (7 : Int32) s4) fun (v6 : Int32) (s7 : Sg) =>
        if v6 = 0 then
          some ((0 : Int32), s7)
        else
          ob2 (f_X8_takes (2 : Int32) (1 : Int32) (9 : Int32) s7) fun (v8 : Int32) (s9 : Sg) =>
          if v8 = 0 then
            some ((0 : Int32), s9)
          else
            ob2 (f_X8_takes (3 : Int32) (0 : Int32) (15 : Int32) s9) fun (v10 : Int32) (s11 : Sg) =>
            if v10 = 0 then
              some ((0 : Int32), s11)
            else
              (aget s11 90 (0 : Int32)).bind fun (v12 : Int32) =>
              (aget s11 90 (1 : Int32)).bind fun (v13 : Int32) =>
              (aget s11 90 (2 : Int32)).bind fun (v14 : Int32) =>
              (aget s11 90 (3 : Int32)).bind fun (v15 : Int32) =>
              (f_X8_layStreet 89 v12 v13 v14 v15 s11).bind fun (s16 : Sg) =>
              some ((1 : Int32), s16)) fun j5 =>
      if (s4 70 25) = (2 : Int32) then
        (aget s4 90 (0 : Int32)).bind fun (v17 : Int32) =>
        if (s4 70 26) = v17 then
          some ((0 : Int32), s4)
        else
          j5 ()
      else
        j5 ()
def f_X8_readsEvent (s : Sg) : Option (Int32 × Sg) :=
  (aget s 89 (1 : Int32)).bind fun (v1 : Int32) =>
  if v1 = (8 : Int32) then
    some ((0 : Int32), s)
  else
    (f_X8_goOn s).bind fun (s2 : Sg) =>
    ob2 (f_X8_takes (0 : Int32) (0 : Int32) (5 : Int32) s2) fun (v3 : Int32) (s4 : Sg) =>
    if v3 = 0 then
      some ((0 : Int32), s4)
    else
      (aget s4 89 (0 : Int32)).bind fun (v5 : Int32) =>
      ob2 (f_X8_takes (1 : Int32) (0 : Int32) (v5 - (1 : Int32)) s4) fun (v6 : Int32) (s7 : Sg) =>
      if v6 = 0 then
        some ((0 : Int32), s7)
      else
        ob2 (f_X8_takes (2 : Int32) (0 : Int32) (23 : Int32) s7) fun (v8 : Int32) (s9 : Sg) =>
        if v8 = 0 then
          some ((0 : Int32), s9)
        else
          ob2 (f_X8_takes (3 : Int32) (0 : Int32) (9 : Int32) s9) fun (v10 : Int32) (s11 : Sg) =>
          if v10 = 0 then
            some ((0 : Int32), s11)
          else
            ob2 (f_X8_takes (4 : Int32) (0 : Int32) (9 : Int32) s11) fun (v12 : Int32) (s13 : Sg) =>
            if v12 = 0 then
              some ((0 : Int32), s13)
            else
              ob2 (f_X8_takes (5 : Int32) (0 : Int32) (15 : Int32) s13) fun (v14 : Int32) (s15 : Sg) =>
              if v14 = 0 then
                some ((0 : Int32), s15)
              else
                (aget s15 90 (0 : Int32)).bind fun (v16 : Int32) =>
                (aget s15 90 (1 : Int32)).bind fun (v17 : Int32) =>
                (aget s15 90 (2 : Int32)).bind fun (v18 : Int32) =>
                (aget s15 90 (3 : Int32)).bind fun (v19 : Int32) =>
                (aget s15 90 (4 : Int32)).bind fun (v20 : Int32) =>
                (aget s15 90 (5 : Int32)).bind fun (v21 : Int32) =>
                (f_X8_layEvent 89 v16 v17 v18 v19 v20 v21 s15).bind fun (s22 : Sg) =>
                some ((1 : Int32), s22)
def f_X8_readsRent (s : Sg) : Option (Int32 × Sg) :=
  (f_X8_goOn s).bind fun (s1 : Sg) =>
  ob2 (f_X8_takes (0 : Int32) (0 : Int32) (15 : Int32) s1) fun (v2 : Int32) (s3 : Sg) =>
  if v2 = 0 then
    some ((0 : Int32), s3)
  else
    ob2 (f_X8_takes (1 : Int32) (0 : Int32) (99 : Int32) s3) fun (v4 : Int32) (s5 : Sg) =>
    if v4 = 0 then
      some ((0 : Int32), s5)
    else
      (aget s5 90 (0 : Int32)).bind fun (v6 : Int32) =>
      (aget s5 90 (1 : Int32)).bind fun (v7 : Int32) =>
      (aset s5 89 ((81 : Int32) + v6) v7).bind fun (s8 : Sg) =>
      some ((1 : Int32), s8)
def f_X8_readsItem (s : Sg) : Option (Int32 × Sg) :=
  (f_X8_isCalled (6 : Int32) (115 : Int32) (116 : Int32) (114 : Int32) (101 : Int32) (101 : Int32) (116 : Int32) s).bind fun (v1 : Int32) =>
  if v1 = 0 then
    (f_X8_isCalled (5 : Int32) (101 : Int32) (118 : Int32) (101 : Int32) (110 : Int32) (116 : Int32) (0 : Int32) s).bind fun (v2 : Int32) =>
    if v2 = 0 then
      (f_X8_isCalled (4 : Int32) (114 : Int32) (101 : Int32) (110 : Int32) (116 : Int32) (0 : Int32) (0 : Int32) s).bind fun (v3 : Int32) =>
      if v3 = 0 then
        some ((0 : Int32), s)
      else
        ob2 (f_X8_readsRent s) fun (v4 : Int32) (s5 : Sg) =>
        if v4 = 0 then
          some ((0 : Int32), s5)
        else
          some ((1 : Int32), s5)
    else
      ob2 (f_X8_readsEvent s) fun (v6 : Int32) (s7 : Sg) =>
      some (v6 &&& 1, s7)
  else
    ob2 (f_X8_readsStreet s) fun (v8 : Int32) (s9 : Sg) =>
    some (v8 &&& 1, s9)
def b_X8_read_68 (a5 : Int32) (self10 : Int32 → Sg → Option (Int32 × Sg)) (i8 : Int32) (s9 : Sg) : Option (Int32 × Sg) :=
  if (115 : Int32) ≤ i8 then
    some (a5, s9)
  else
    (aget s9 89 i8).bind fun (v11 : Int32) =>
    (aset s9 71 i8 v11).bind fun (s12 : Sg) =>
    self10 (i8 + (1 : Int32)) s12
def b_X8_read_26 (j7 : Int32 → Sg → Option (Int32 × Sg)) (self15 : Int32 → Sg → Option (Int32 × Sg)) (i13 : Int32) (s14 : Sg) : Option (Int32 × Sg) :=
  if (s14 70 25) = 0 then
    j7 i13 s14
  else
    ob2 (f_X8_readsItem s14) fun (v16 : Int32) (s17 : Sg) =>
    if v16 = 0 then
      some ((-10 : Int32) - (s17 70 23), s17)
    else
      if (s17 70 25) = (3 : Int32) then
        (f_X8_goOn s17).bind fun (s18 : Sg) =>
        self15 (i13 + (1 : Int32)) s18
      else
        some ((-10 : Int32) - (s17 70 23), s17)
def f_X8_read (s : Sg) : Option (Int32 × Sg) :=
  (f_X8_look (0 : Int32) s).bind fun (s1 : Sg) =>
  ob2 (f_X8_readsFirst s1) fun (v2 : Int32) (s3 : Sg) =>
  if v2 = 0 then
    some ((-10 : Int32) - (s3 70 23), s3)
  else
    (f_X8_goOn s3).bind fun (s4 : Sg) =>
    nm_ (fun (a5 : Int32) (s6 : Sg) =>
      lp2_ (b_X8_read_68 a5) fu (0 : Int32) s6) fun j7 =>
    lp2_ (b_X8_read_26 j7) fu (1 : Int32) s4
def b_X8_image_19 (j3 : Sg → Option (Int32 × Sg)) (x1 : Int32) (self7 : Int32 → Sg → Option (Int32 × Sg)) (i5 : Int32) (s6 : Sg) : Option (Int32 × Sg) :=
  if (515 : Int32) ≤ i5 then
    j3 s6
  else
    (aget s6 71 i5).bind fun (v8 : Int32) =>
    (aset s6 72 (((515 : Int32) * x1) + i5) v8).bind fun (s9 : Sg) =>
    self7 (i5 + (1 : Int32)) s9
def f_X8_image (x1 : Int32) (s : Sg) : Option (Int32 × Sg) :=
  (f_X8_in (Int32.toInt64 x1) (0 : Int64) (1 : Int64) s).bind fun (v1 : Int32) =>
  if v1 = 0 then
    ob2 (f_X8_bad (-2 : Int32) s) fun (v10 : Int32) (s11 : Sg) =>
    some (v10, s11)
  else
    nm_ (fun (s2 : Sg) =>
      (zset s2 73 x1 (1 : Int32)).bind fun (s4 : Sg) =>
      some ((1 : Int32), s4)) fun j3 =>
    lp2_ (b_X8_image_19 j3 x1) fu (0 : Int32) s
def b_X8_from_33 (x1 : Int32) (self5 : Int32 → Sg → Option (Int32 × Sg)) (i3 : Int32) (s4 : Sg) : Option (Int32 × Sg) :=
  if (515 : Int32) ≤ i3 then
    some ((1 : Int32), s4)
  else
    (aget s4 72 (((515 : Int32) * x1) + i3)).bind fun (v6 : Int32) =>
    (aset s4 71 i3 v6).bind fun (s7 : Sg) =>
    self5 (i3 + (1 : Int32)) s7
def f_X8_from (x1 : Int32) (s : Sg) : Option (Int32 × Sg) :=
  (f_X8_in (Int32.toInt64 x1) (0 : Int64) (1 : Int64) s).bind fun (v1 : Int32) =>
  if v1 = 0 then
    ob2 (f_X8_bad (-2 : Int32) s) fun (v10 : Int32) (s11 : Sg) =>
    some (v10, s11)
  else
    (aget s 73 x1).bind fun (v2 : Int32) =>
    if v2 = 0 then
      ob2 (f_X8_no s) fun (v8 : Int32) (s9 : Sg) =>
      some (v8, s9)
    else
      lp2_ (b_X8_from_33 x1) fu (0 : Int32) s
def f_X8_status (x1 : Int32) (s : Sg) : Option (Int32 × Sg) :=
  (f_X8_in (Int32.toInt64 x1) (0 : Int64) (2 : Int64) s).bind fun (v1 : Int32) =>
  if v1 = 0 then
    ob2 (f_X8_bad (-1 : Int32) s) fun (v2 : Int32) (s3 : Sg) =>
    some (v2, s3)
  else
    (aget s 74 x1).bind fun (v4 : Int32) =>
    some (v4, s)
def f_X8_counted (x1 : Int32) (s : Sg) : Option Int32 :=
  if (5 : Int32) ≤ x1 then
    some (s 70 22)
  else
    (aget s 71 x1).bind fun (v1 : Int32) =>
    some v1
def f_X8_count (x1 : Int32) (s : Sg) : Option (Int32 × Sg) :=
  (f_X8_in (Int32.toInt64 x1) (0 : Int64) (5 : Int64) s).bind fun (v1 : Int32) =>
  if v1 = 0 then
    ob2 (f_X8_bad (-2 : Int32) s) fun (v2 : Int32) (s3 : Sg) =>
    some (v2, s3)
  else
    (f_X8_counted x1 s).bind fun (v4 : Int32) =>
    some (v4, s)
def b_X8_sums_6 (x4 : Int32) (s : Sg) (x3 : Int32) (self3 : Int64 → Int32 → Option Int64) (i1 : Int64) (i2 : Int32) : Option Int64 :=
  if x4 ≤ i2 then
    some i1
  else
    (aget s 71 (x3 + i2)).bind fun (v4 : Int32) =>
    nm_ (((31 : Int64) * i1) + (Int32.toInt64 v4)) fun (v5 : Int64) =>
    self3 v5 (i2 + (1 : Int32))
def f_X8_sums (x1 : Int64) (x3 : Int32) (x4 : Int32) (s : Sg) : Option Int64 :=
  lp2_ (b_X8_sums_6 x4 s x3) fu x1 (0 : Int32)
def b_X8_digest_6 (j2 : Int64 → Option Int64) (s : Sg) (self12 : Int64 → Int32 → Option Int64) (i10 : Int64) (i11 : Int32) : Option Int64 :=
  if (6 : Int32) ≤ i11 then
    j2 i10
  else
    (f_X8_counted i11 s).bind fun (v13 : Int32) =>
    nm_ (((31 : Int64) * i10) + (Int32.toInt64 v13)) fun (v14 : Int64) =>
    self12 v14 (i11 + (1 : Int32))
def f_X8_digest (s : Sg) : Option Int64 :=
  nm_ (fun (a1 : Int64) =>
    (f_X8_streets s).bind fun (v3 : Int32) =>
    (f_X8_sums a1 (5 : Int32) ((4 : Int32) * v3) s).bind fun (v4 : Int64) =>
    (f_X8_events s).bind fun (v5 : Int32) =>
    (f_X8_sums v4 (33 : Int32) ((6 : Int32) * v5) s).bind fun (v6 : Int64) =>
    (f_X8_sums v6 (81 : Int32) (16 : Int32) s).bind fun (v7 : Int64) =>
    (aget s 71 (3 : Int32)).bind fun (v8 : Int32) =>
    (f_X8_sums v7 (97 : Int32) ((3 : Int32) * v8) s).bind fun (v9 : Int64) =>
    some v9) fun j2 =>
  lp2_ (b_X8_digest_6 j2 s) fu (911 : Int64) (0 : Int32)
end
section
section WK
variable {l : Launch} {E : EX}
theorem e_X2_size_0 : Dc cX2_size 0 (.aload_n 0) 1 1 := ⟨by decide +kernel, rfl⟩
theorem e_X2_size_1 : Dc cX2_size 1 (.getfield 7) 3 4 := ⟨by decide +kernel, rfl⟩
theorem e_X2_size_4 : Dc cX2_size 4 (.ireturn) 1 5 := ⟨by decide +kernel, rfl⟩
set_option maxHeartbeats 4000000 in
set_option maxRecDepth 20000 in
theorem R_X2_size (hD : DD E) (o : Nat) (ho : iRo o) (s : Sg) : ∀ v, (f_X2_size o s) = some v → RI l E 0 M_X2_size [.ref (ead E o)] s v s := by
  refine ofP hD (by decide +kernel) (Nat.le_of_ble_eq_true rfl) (fun X C => ?_)
  show MF l E X (fun q : Int32 => QI E X q s) (f_X2_size o s) s 0 [(0, .ref (ead E o))] []
  unfold f_X2_size
  refine MF.aload_n C e_X2_size_0 0 rfl rfl ?_
  refine MF.get C cf_X2 l_X2_7 e_X2_size_1 (iRo.f2 ho) ?_
  exact MF.iretp C e_X2_size_4
theorem e_X2_cell_0 : Dc cX2_cell 0 (.iload_n 1) 1 1 := ⟨by decide +kernel, rfl⟩
theorem e_X2_cell_1 : Dc cX2_cell 1 (.ifCond .lt 23) 3 4 := ⟨by decide +kernel, rfl⟩
theorem e_X2_cell_4 : Dc cX2_cell 4 (.iload_n 1) 1 5 := ⟨by decide +kernel, rfl⟩
theorem e_X2_cell_5 : Dc cX2_cell 5 (.aload_n 0) 1 6 := ⟨by decide +kernel, rfl⟩
theorem e_X2_cell_6 : Dc cX2_cell 6 (.getfield 7) 3 9 := ⟨by decide +kernel, rfl⟩
theorem e_X2_cell_9 : Dc cX2_cell 9 (.if_icmp .ge 15) 3 12 := ⟨by decide +kernel, rfl⟩
theorem e_X2_cell_12 : Dc cX2_cell 12 (.iload_n 2) 1 13 := ⟨by decide +kernel, rfl⟩
theorem e_X2_cell_13 : Dc cX2_cell 13 (.ifCond .lt 11) 3 16 := ⟨by decide +kernel, rfl⟩
theorem e_X2_cell_16 : Dc cX2_cell 16 (.iload_n 2) 1 17 := ⟨by decide +kernel, rfl⟩
theorem e_X2_cell_17 : Dc cX2_cell 17 (.aload_n 0) 1 18 := ⟨by decide +kernel, rfl⟩
theorem e_X2_cell_18 : Dc cX2_cell 18 (.getfield 13) 3 21 := ⟨by decide +kernel, rfl⟩
theorem e_X2_cell_21 : Dc cX2_cell 21 (.if_icmp .lt 5) 3 24 := ⟨by decide +kernel, rfl⟩
theorem e_X2_cell_24 : Dc cX2_cell 24 (.iconst 0) 1 25 := ⟨by decide +kernel, rfl⟩
theorem e_X2_cell_25 : Dc cX2_cell 25 (.ireturn) 1 26 := ⟨by decide +kernel, rfl⟩
theorem e_X2_cell_26 : Dc cX2_cell 26 (.aload_n 0) 1 27 := ⟨by decide +kernel, rfl⟩
theorem e_X2_cell_27 : Dc cX2_cell 27 (.getfield 16) 3 30 := ⟨by decide +kernel, rfl⟩
theorem e_X2_cell_30 : Dc cX2_cell 30 (.iload_n 1) 1 31 := ⟨by decide +kernel, rfl⟩
theorem e_X2_cell_31 : Dc cX2_cell 31 (.aload_n 0) 1 32 := ⟨by decide +kernel, rfl⟩
theorem e_X2_cell_32 : Dc cX2_cell 32 (.getfield 13) 3 35 := ⟨by decide +kernel, rfl⟩
theorem e_X2_cell_35 : Dc cX2_cell 35 (.imul) 1 36 := ⟨by decide +kernel, rfl⟩
theorem e_X2_cell_36 : Dc cX2_cell 36 (.iload_n 2) 1 37 := ⟨by decide +kernel, rfl⟩
theorem e_X2_cell_37 : Dc cX2_cell 37 (.iadd) 1 38 := ⟨by decide +kernel, rfl⟩
theorem e_X2_cell_38 : Dc cX2_cell 38 (.iaload) 1 39 := ⟨by decide +kernel, rfl⟩
theorem e_X2_cell_39 : Dc cX2_cell 39 (.ireturn) 1 40 := ⟨by decide +kernel, rfl⟩
set_option maxHeartbeats 4000000 in
set_option maxRecDepth 20000 in
theorem R_X2_cell (hD : DD E) (o : Nat) (x1 : Int32) (x2 : Int32) (ho : iRo o) (s : Sg) : ∀ v, (f_X2_cell o x1 x2 s) = some v → RI l E 0 M_X2_cell [.ref (ead E o), .int x1, .int x2] s v s := by
  refine ofP hD (by decide +kernel) (Nat.le_of_ble_eq_true rfl) (fun X C => ?_)
  show MF l E X (fun q : Int32 => QI E X q s) (f_X2_cell o x1 x2 s) s 0 [(0, .ref (ead E o)), (1, .int x1), (2, .int x2)] []
  unfold f_X2_cell
  refine MF.iload_n C e_X2_cell_0 1 rfl rfl ?_
  refine MF.if_lt (tgt := 24) C e_X2_cell_1 (by decide) (fun _ => ?_) (fun _ => ?_)
  · refine MF.iconst (v := (0 : Int32)) C e_X2_cell_24 rfl ?_
    exact MF.iretp C e_X2_cell_25
  · refine MF.iload_n C e_X2_cell_4 1 rfl rfl ?_
    refine MF.aload_n C e_X2_cell_5 0 rfl rfl ?_
    refine MF.get C cf_X2 l_X2_7 e_X2_cell_6 (iRo.f2 ho) ?_
    refine MF.icmp_ge (tgt := 24) C e_X2_cell_9 (by decide) (fun _ => ?_) (fun _ => ?_)
    · refine MF.iconst (v := (0 : Int32)) C e_X2_cell_24 rfl ?_
      exact MF.iretp C e_X2_cell_25
    · refine MF.iload_n C e_X2_cell_12 2 rfl rfl ?_
      refine MF.if_lt (tgt := 24) C e_X2_cell_13 (by decide) (fun _ => ?_) (fun _ => ?_)
      · refine MF.iconst (v := (0 : Int32)) C e_X2_cell_24 rfl ?_
        exact MF.iretp C e_X2_cell_25
      · refine MF.iload_n C e_X2_cell_16 2 rfl rfl ?_
        refine MF.aload_n C e_X2_cell_17 0 rfl rfl ?_
        refine MF.get C cf_X2 l_X2_13 e_X2_cell_18 (iRo.f0 ho) ?_
        refine MF.icmp_lt (tgt := 26) C e_X2_cell_21 (by decide) (fun _ => ?_) (fun _ => ?_)
        · refine MF.aload_n C e_X2_cell_26 0 rfl rfl ?_
          refine MF.getR (j := (o + 1)) C cf_X2 l_X2_16 e_X2_cell_27 (iRo.f1 ho) ?_
          refine MF.iload_n C e_X2_cell_30 1 rfl rfl ?_
          refine MF.aload_n C e_X2_cell_31 0 rfl rfl ?_
          refine MF.get C cf_X2 l_X2_13 e_X2_cell_32 (iRo.f0 ho) ?_
          refine MF.imul C e_X2_cell_35 ?_
          refine MF.iload_n C e_X2_cell_36 2 rfl rfl ?_
          refine MF.iadd C e_X2_cell_37 ?_
          refine MF.iald C e_X2_cell_38 (iRo.a ho) (fun v1 => ?_)
          exact MF.iretp C e_X2_cell_39
        · refine MF.iconst (v := (0 : Int32)) C e_X2_cell_24 rfl ?_
          exact MF.iretp C e_X2_cell_25
theorem e_X2_empty_0 : Dc cX2_empty 0 (.aload_n 0) 1 1 := ⟨by decide +kernel, rfl⟩
theorem e_X2_empty_1 : Dc cX2_empty 1 (.iconst 0) 1 2 := ⟨by decide +kernel, rfl⟩
theorem e_X2_empty_2 : Dc cX2_empty 2 (.putfield 7) 3 5 := ⟨by decide +kernel, rfl⟩
theorem e_X2_empty_5 : Dc cX2_empty 5 (.return_) 1 6 := ⟨by decide +kernel, rfl⟩
set_option maxHeartbeats 4000000 in
set_option maxRecDepth 20000 in
theorem R_X2_empty (hD : DD E) (o : Nat) (ho : iRo o) (s : Sg) : ∀ τ, (f_X2_empty o s) = some τ → RV l E 0 M_X2_empty [.ref (ead E o)] s τ := by
  refine ofU hD (by decide +kernel) (Nat.le_of_ble_eq_true rfl) (fun X C => ?_)
  show MF l E X (fun q : Sg => QV E X q) (f_X2_empty o s) s 0 [(0, .ref (ead E o))] []
  unfold f_X2_empty
  refine MF.aload_n C e_X2_empty_0 0 rfl rfl ?_
  refine MF.iconst (v := (0 : Int32)) C e_X2_empty_1 rfl ?_
  refine MF.put C cf_X2 l_X2_7 p_X2_2 e_X2_empty_2 (iRo.f2 ho) rfl ?_
  refine MF.nmS (fun s1 => ?_)
  exact MF.vret C e_X2_empty_5
theorem e_X7_isBelow_0 : Dc cX7_isBelow 0 (.iload_n 0) 1 1 := ⟨by decide +kernel, rfl⟩
theorem e_X7_isBelow_1 : Dc cX7_isBelow 1 (.ifCond .lt 12) 3 4 := ⟨by decide +kernel, rfl⟩
theorem e_X7_isBelow_4 : Dc cX7_isBelow 4 (.iload_n 0) 1 5 := ⟨by decide +kernel, rfl⟩
theorem e_X7_isBelow_5 : Dc cX7_isBelow 5 (.iload_n 1) 1 6 := ⟨by decide +kernel, rfl⟩
theorem e_X7_isBelow_6 : Dc cX7_isBelow 6 (.if_icmp .ge 7) 3 9 := ⟨by decide +kernel, rfl⟩
theorem e_X7_isBelow_9 : Dc cX7_isBelow 9 (.iconst 1) 1 10 := ⟨by decide +kernel, rfl⟩
theorem e_X7_isBelow_10 : Dc cX7_isBelow 10 (.goto 4) 3 13 := ⟨by decide +kernel, rfl⟩
theorem e_X7_isBelow_13 : Dc cX7_isBelow 13 (.iconst 0) 1 14 := ⟨by decide +kernel, rfl⟩
theorem e_X7_isBelow_14 : Dc cX7_isBelow 14 (.ireturn) 1 15 := ⟨by decide +kernel, rfl⟩
set_option maxHeartbeats 4000000 in
set_option maxRecDepth 20000 in
theorem R_X7_isBelow (hD : DD E) (x0 : Int32) (x1 : Int32) (s : Sg) : ∀ v, (f_X7_isBelow x0 x1 s) = some v → RI l E 0 M_X7_isBelow [.int x0, .int x1] s v s := by
  refine ofP hD (by decide +kernel) (Nat.le_of_ble_eq_true rfl) (fun X C => ?_)
  show MF l E X (fun q : Int32 => QI E X q s) (f_X7_isBelow x0 x1 s) s 0 [(0, .int x0), (1, .int x1)] []
  unfold f_X7_isBelow
  refine MF.iload_n C e_X7_isBelow_0 0 rfl rfl ?_
  refine MF.if_lt (tgt := 13) C e_X7_isBelow_1 (by decide) (fun _ => ?_) (fun _ => ?_)
  · refine MF.iconst (v := (0 : Int32)) C e_X7_isBelow_13 rfl ?_
    exact MF.nretp C e_X7_isBelow_14 rfl
  · refine MF.iload_n C e_X7_isBelow_4 0 rfl rfl ?_
    refine MF.iload_n C e_X7_isBelow_5 1 rfl rfl ?_
    refine MF.icmp_ge (tgt := 13) C e_X7_isBelow_6 (by decide) (fun _ => ?_) (fun _ => ?_)
    · refine MF.iconst (v := (0 : Int32)) C e_X7_isBelow_13 rfl ?_
      exact MF.nretp C e_X7_isBelow_14 rfl
    · refine MF.iconst (v := (1 : Int32)) C e_X7_isBelow_9 rfl ?_
      refine MF.goto (tgt := 14) C e_X7_isBelow_10 (by decide) ?_
      exact MF.nretp C e_X7_isBelow_14 rfl
theorem e_X5_kindOf_0 : Dc cX5_kindOf 0 (.aload_n 0) 1 1 := ⟨by decide +kernel, rfl⟩
theorem e_X5_kindOf_1 : Dc cX5_kindOf 1 (.getfield 20) 3 4 := ⟨by decide +kernel, rfl⟩
theorem e_X5_kindOf_4 : Dc cX5_kindOf 4 (.iload_n 1) 1 5 := ⟨by decide +kernel, rfl⟩
theorem e_X5_kindOf_5 : Dc cX5_kindOf 5 (.iconst 0) 1 6 := ⟨by decide +kernel, rfl⟩
theorem e_X5_kindOf_6 : Dc cX5_kindOf 6 (.invokevirtual 83) 3 9 := ⟨by decide +kernel, rfl⟩
theorem e_X5_kindOf_9 : Dc cX5_kindOf 9 (.istore_n 2) 1 10 := ⟨by decide +kernel, rfl⟩
theorem e_X5_kindOf_10 : Dc cX5_kindOf 10 (.iload_n 2) 1 11 := ⟨by decide +kernel, rfl⟩
theorem e_X5_kindOf_11 : Dc cX5_kindOf 11 (.getstatic 86) 3 14 := ⟨by decide +kernel, rfl⟩
theorem e_X5_kindOf_14 : Dc cX5_kindOf 14 (.arraylength) 1 15 := ⟨by decide +kernel, rfl⟩
theorem e_X5_kindOf_15 : Dc cX5_kindOf 15 (.invokestatic 46) 3 18 := ⟨by decide +kernel, rfl⟩
theorem e_X5_kindOf_18 : Dc cX5_kindOf 18 (.ifCond .eq 7) 3 21 := ⟨by decide +kernel, rfl⟩
theorem e_X5_kindOf_21 : Dc cX5_kindOf 21 (.iload_n 2) 1 22 := ⟨by decide +kernel, rfl⟩
theorem e_X5_kindOf_22 : Dc cX5_kindOf 22 (.goto 4) 3 25 := ⟨by decide +kernel, rfl⟩
theorem e_X5_kindOf_25 : Dc cX5_kindOf 25 (.iconst 0) 1 26 := ⟨by decide +kernel, rfl⟩
theorem e_X5_kindOf_26 : Dc cX5_kindOf 26 (.ireturn) 1 27 := ⟨by decide +kernel, rfl⟩
set_option maxHeartbeats 4000000 in
set_option maxRecDepth 20000 in
theorem R_X5_kindOf (hD : DD E) (t : Nat) (x1 : Int32) (ht : iTo t) (s : Sg) : ∀ v, (f_X5_kindOf t x1 s) = some v → RI l E 1 M_X5_kindOf [.ref (ead E t), .int x1] s v s := by
  refine ofP hD (by decide +kernel) (Nat.le_of_ble_eq_true rfl) (fun X C => ?_)
  show MF l E X (fun q : Int32 => QI E X q s) (f_X5_kindOf t x1 s) s 0 [(0, .ref (ead E t)), (1, .int x1)] []
  unfold f_X5_kindOf
  refine MF.aload_n C e_X5_kindOf_0 0 rfl rfl ?_
  refine MF.getR (j := (t + 3)) C cf_X5 l_X5_20 e_X5_kindOf_1 (iTo.f1 ht) ?_
  refine MF.iload_n C e_X5_kindOf_4 1 rfl rfl ?_
  refine MF.iconst (v := (0 : Int32)) C e_X5_kindOf_5 rfl ?_
  refine MF.callVP (As := [.int x1, .int (0 : Int32)]) C (R_X2_cell hD (t + 3) x1 (0 : Int32) (iTo.o1 ht) s) m_X2_cell k_X5_83 (iRo.o (iTo.o1 ht)) rfl (by decide) e_X5_kindOf_6 rfl rfl (Nat.le_of_ble_eq_true rfl) (fun v1 => ?_)
  refine MF.istore_n (lv' := [(0, .ref (ead E t)), (1, .int x1), (2, .int v1)]) C e_X5_kindOf_9 (by decide) rfl ?_
  refine MF.iload_n C e_X5_kindOf_10 2 rfl rfl ?_
  refine MF.getTN (t := 2) C (by decide) l_X5_86 e_X5_kindOf_11 ?_
  refine MF.tlen (n := (6 : Int32)) C (by decide) rfl e_X5_kindOf_14 ?_
  refine MF.callSNP (As := [.int v1, .int (6 : Int32)]) C (R_X7_isBelow hD v1 (6 : Int32) s) m_X7_isBelow k_X5_46 (by decide) e_X5_kindOf_15 rfl rfl (Nat.le_of_ble_eq_true rfl) (fun v2 => ?_)
  refine MF.if_eq (tgt := 25) C e_X5_kindOf_18 (by decide) (fun _ => ?_) (fun _ => ?_)
  · refine MF.iconst (v := (0 : Int32)) C e_X5_kindOf_25 rfl ?_
    exact MF.iretp C e_X5_kindOf_26
  · refine MF.iload_n C e_X5_kindOf_21 2 rfl rfl ?_
    refine MF.goto (tgt := 26) C e_X5_kindOf_22 (by decide) ?_
    exact MF.iretp C e_X5_kindOf_26
theorem e_X5_needed_0 : Dc cX5_needed 0 (.getstatic 86) 3 3 := ⟨by decide +kernel, rfl⟩
theorem e_X5_needed_3 : Dc cX5_needed 3 (.aload_n 0) 1 4 := ⟨by decide +kernel, rfl⟩
theorem e_X5_needed_4 : Dc cX5_needed 4 (.iload_n 1) 1 5 := ⟨by decide +kernel, rfl⟩
theorem e_X5_needed_5 : Dc cX5_needed 5 (.invokevirtual 89) 3 8 := ⟨by decide +kernel, rfl⟩
theorem e_X5_needed_8 : Dc cX5_needed 8 (.iaload) 1 9 := ⟨by decide +kernel, rfl⟩
theorem e_X5_needed_9 : Dc cX5_needed 9 (.ireturn) 1 10 := ⟨by decide +kernel, rfl⟩
set_option maxHeartbeats 4000000 in
set_option maxRecDepth 20000 in
theorem R_X5_needed (hD : DD E) (t : Nat) (x1 : Int32) (ht : iTo t) (s : Sg) : ∀ v, (f_X5_needed t x1 s) = some v → RI l E 2 M_X5_needed [.ref (ead E t), .int x1] s v s := by
  refine ofP hD (by decide +kernel) (Nat.le_of_ble_eq_true rfl) (fun X C => ?_)
  show MF l E X (fun q : Int32 => QI E X q s) (f_X5_needed t x1 s) s 0 [(0, .ref (ead E t)), (1, .int x1)] []
  unfold f_X5_needed
  refine MF.getTN (t := 2) C (by decide) l_X5_86 e_X5_needed_0 ?_
  refine MF.aload_n C e_X5_needed_3 0 rfl rfl ?_
  refine MF.iload_n C e_X5_needed_4 1 rfl rfl ?_
  refine MF.callVP (As := [.int x1]) C (R_X5_kindOf hD t x1 ht s) m_X5_kindOf k_X5_89 (iTo.o ht) rfl (by decide) e_X5_needed_5 rfl rfl (Nat.le_of_ble_eq_true rfl) (fun v1 => ?_)
  refine MF.tald C (by decide) e_X5_needed_8 (fun v2 => ?_)
  exact MF.iretp C e_X5_needed_9
theorem e_X5_isSeenByEnough_0 : Dc cX5_isSeenByEnough 0 (.aload_n 0) 1 1 := ⟨by decide +kernel, rfl⟩
theorem e_X5_isSeenByEnough_1 : Dc cX5_isSeenByEnough 1 (.getfield 20) 3 4 := ⟨by decide +kernel, rfl⟩
theorem e_X5_isSeenByEnough_4 : Dc cX5_isSeenByEnough 4 (.iload_n 1) 1 5 := ⟨by decide +kernel, rfl⟩
theorem e_X5_isSeenByEnough_5 : Dc cX5_isSeenByEnough 5 (.iconst 3) 1 6 := ⟨by decide +kernel, rfl⟩
theorem e_X5_isSeenByEnough_6 : Dc cX5_isSeenByEnough 6 (.invokevirtual 83) 3 9 := ⟨by decide +kernel, rfl⟩
theorem e_X5_isSeenByEnough_9 : Dc cX5_isSeenByEnough 9 (.aload_n 0) 1 10 := ⟨by decide +kernel, rfl⟩
theorem e_X5_isSeenByEnough_10 : Dc cX5_isSeenByEnough 10 (.iload_n 1) 1 11 := ⟨by decide +kernel, rfl⟩
theorem e_X5_isSeenByEnough_11 : Dc cX5_isSeenByEnough 11 (.invokevirtual 92) 3 14 := ⟨by decide +kernel, rfl⟩
theorem e_X5_isSeenByEnough_14 : Dc cX5_isSeenByEnough 14 (.if_icmp .lt 7) 3 17 := ⟨by decide +kernel, rfl⟩
theorem e_X5_isSeenByEnough_17 : Dc cX5_isSeenByEnough 17 (.iconst 1) 1 18 := ⟨by decide +kernel, rfl⟩
theorem e_X5_isSeenByEnough_18 : Dc cX5_isSeenByEnough 18 (.goto 4) 3 21 := ⟨by decide +kernel, rfl⟩
theorem e_X5_isSeenByEnough_21 : Dc cX5_isSeenByEnough 21 (.iconst 0) 1 22 := ⟨by decide +kernel, rfl⟩
theorem e_X5_isSeenByEnough_22 : Dc cX5_isSeenByEnough 22 (.ireturn) 1 23 := ⟨by decide +kernel, rfl⟩
set_option maxHeartbeats 4000000 in
set_option maxRecDepth 20000 in
theorem R_X5_isSeenByEnough (hD : DD E) (t : Nat) (x1 : Int32) (ht : iTo t) (s : Sg) : ∀ v, (f_X5_isSeenByEnough t x1 s) = some v → RI l E 3 M_X5_isSeenByEnough [.ref (ead E t), .int x1] s v s := by
  refine ofP hD (by decide +kernel) (Nat.le_of_ble_eq_true rfl) (fun X C => ?_)
  show MF l E X (fun q : Int32 => QI E X q s) (f_X5_isSeenByEnough t x1 s) s 0 [(0, .ref (ead E t)), (1, .int x1)] []
  unfold f_X5_isSeenByEnough
  refine MF.aload_n C e_X5_isSeenByEnough_0 0 rfl rfl ?_
  refine MF.getR (j := (t + 3)) C cf_X5 l_X5_20 e_X5_isSeenByEnough_1 (iTo.f1 ht) ?_
  refine MF.iload_n C e_X5_isSeenByEnough_4 1 rfl rfl ?_
  refine MF.iconst (v := (3 : Int32)) C e_X5_isSeenByEnough_5 rfl ?_
  refine MF.callVP (As := [.int x1, .int (3 : Int32)]) C (R_X2_cell hD (t + 3) x1 (3 : Int32) (iTo.o1 ht) s) m_X2_cell k_X5_83 (iRo.o (iTo.o1 ht)) rfl (by decide) e_X5_isSeenByEnough_6 rfl rfl (Nat.le_of_ble_eq_true rfl) (fun v1 => ?_)
  refine MF.aload_n C e_X5_isSeenByEnough_9 0 rfl rfl ?_
  refine MF.iload_n C e_X5_isSeenByEnough_10 1 rfl rfl ?_
  refine MF.callVP (As := [.int x1]) C (R_X5_needed hD t x1 ht s) m_X5_needed k_X5_92 (iTo.o ht) rfl (by decide) e_X5_isSeenByEnough_11 rfl rfl (Nat.le_of_ble_eq_true rfl) (fun v2 => ?_)
  refine MF.icmp_lt (tgt := 21) C e_X5_isSeenByEnough_14 (by decide) (fun _ => ?_) (fun _ => ?_)
  · refine MF.iconst (v := (0 : Int32)) C e_X5_isSeenByEnough_21 rfl ?_
    exact MF.nretp C e_X5_isSeenByEnough_22 rfl
  · refine MF.iconst (v := (1 : Int32)) C e_X5_isSeenByEnough_17 rfl ?_
    refine MF.goto (tgt := 22) C e_X5_isSeenByEnough_18 (by decide) ?_
    exact MF.nretp C e_X5_isSeenByEnough_22 rfl
theorem e_X5_meet_0 : Dc cX5_meet 0 (.aload_n 0) 1 1 := ⟨by decide +kernel, rfl⟩
theorem e_X5_meet_1 : Dc cX5_meet 1 (.getfield 16) 3 4 := ⟨by decide +kernel, rfl⟩
theorem e_X5_meet_4 : Dc cX5_meet 4 (.iload_n 1) 1 5 := ⟨by decide +kernel, rfl⟩
theorem e_X5_meet_5 : Dc cX5_meet 5 (.iconst 0) 1 6 := ⟨by decide +kernel, rfl⟩
theorem e_X5_meet_6 : Dc cX5_meet 6 (.invokevirtual 83) 3 9 := ⟨by decide +kernel, rfl⟩
theorem e_X5_meet_9 : Dc cX5_meet 9 (.istore_n 3) 1 10 := ⟨by decide +kernel, rfl⟩
theorem e_X5_meet_10 : Dc cX5_meet 10 (.aload_n 0) 1 11 := ⟨by decide +kernel, rfl⟩
theorem e_X5_meet_11 : Dc cX5_meet 11 (.getfield 16) 3 14 := ⟨by decide +kernel, rfl⟩
theorem e_X5_meet_14 : Dc cX5_meet 14 (.iload_n 1) 1 15 := ⟨by decide +kernel, rfl⟩
theorem e_X5_meet_15 : Dc cX5_meet 15 (.iconst 1) 1 16 := ⟨by decide +kernel, rfl⟩
theorem e_X5_meet_16 : Dc cX5_meet 16 (.invokevirtual 83) 3 19 := ⟨by decide +kernel, rfl⟩
theorem e_X5_meet_19 : Dc cX5_meet 19 (.istore 4) 2 21 := ⟨by decide +kernel, rfl⟩
theorem e_X5_meet_21 : Dc cX5_meet 21 (.aload_n 0) 1 22 := ⟨by decide +kernel, rfl⟩
theorem e_X5_meet_22 : Dc cX5_meet 22 (.getfield 16) 3 25 := ⟨by decide +kernel, rfl⟩
theorem e_X5_meet_25 : Dc cX5_meet 25 (.iload_n 2) 1 26 := ⟨by decide +kernel, rfl⟩
theorem e_X5_meet_26 : Dc cX5_meet 26 (.iconst 0) 1 27 := ⟨by decide +kernel, rfl⟩
theorem e_X5_meet_27 : Dc cX5_meet 27 (.invokevirtual 83) 3 30 := ⟨by decide +kernel, rfl⟩
theorem e_X5_meet_30 : Dc cX5_meet 30 (.istore 5) 2 32 := ⟨by decide +kernel, rfl⟩
theorem e_X5_meet_32 : Dc cX5_meet 32 (.aload_n 0) 1 33 := ⟨by decide +kernel, rfl⟩
theorem e_X5_meet_33 : Dc cX5_meet 33 (.getfield 16) 3 36 := ⟨by decide +kernel, rfl⟩
theorem e_X5_meet_36 : Dc cX5_meet 36 (.iload_n 2) 1 37 := ⟨by decide +kernel, rfl⟩
theorem e_X5_meet_37 : Dc cX5_meet 37 (.iconst 1) 1 38 := ⟨by decide +kernel, rfl⟩
theorem e_X5_meet_38 : Dc cX5_meet 38 (.invokevirtual 83) 3 41 := ⟨by decide +kernel, rfl⟩
theorem e_X5_meet_41 : Dc cX5_meet 41 (.istore 6) 2 43 := ⟨by decide +kernel, rfl⟩
theorem e_X5_meet_43 : Dc cX5_meet 43 (.iload_n 3) 1 44 := ⟨by decide +kernel, rfl⟩
theorem e_X5_meet_44 : Dc cX5_meet 44 (.iload 5) 2 46 := ⟨by decide +kernel, rfl⟩
theorem e_X5_meet_46 : Dc cX5_meet 46 (.if_icmp .eq 23) 3 49 := ⟨by decide +kernel, rfl⟩
theorem e_X5_meet_49 : Dc cX5_meet 49 (.iload_n 3) 1 50 := ⟨by decide +kernel, rfl⟩
theorem e_X5_meet_50 : Dc cX5_meet 50 (.iload 6) 2 52 := ⟨by decide +kernel, rfl⟩
theorem e_X5_meet_52 : Dc cX5_meet 52 (.if_icmp .eq 17) 3 55 := ⟨by decide +kernel, rfl⟩
theorem e_X5_meet_55 : Dc cX5_meet 55 (.iload 4) 2 57 := ⟨by decide +kernel, rfl⟩
theorem e_X5_meet_57 : Dc cX5_meet 57 (.iload 5) 2 59 := ⟨by decide +kernel, rfl⟩
theorem e_X5_meet_59 : Dc cX5_meet 59 (.if_icmp .eq 10) 3 62 := ⟨by decide +kernel, rfl⟩
theorem e_X5_meet_62 : Dc cX5_meet 62 (.iload 4) 2 64 := ⟨by decide +kernel, rfl⟩
theorem e_X5_meet_64 : Dc cX5_meet 64 (.iload 6) 2 66 := ⟨by decide +kernel, rfl⟩
theorem e_X5_meet_66 : Dc cX5_meet 66 (.if_icmp .ne 7) 3 69 := ⟨by decide +kernel, rfl⟩
theorem e_X5_meet_69 : Dc cX5_meet 69 (.iconst 1) 1 70 := ⟨by decide +kernel, rfl⟩
theorem e_X5_meet_70 : Dc cX5_meet 70 (.goto 4) 3 73 := ⟨by decide +kernel, rfl⟩
theorem e_X5_meet_73 : Dc cX5_meet 73 (.iconst 0) 1 74 := ⟨by decide +kernel, rfl⟩
theorem e_X5_meet_74 : Dc cX5_meet 74 (.ireturn) 1 75 := ⟨by decide +kernel, rfl⟩
set_option maxHeartbeats 4000000 in
set_option maxRecDepth 20000 in
theorem R_X5_meet (hD : DD E) (t : Nat) (x1 : Int32) (x2 : Int32) (ht : iTo t) (s : Sg) : ∀ v, (f_X5_meet t x1 x2 s) = some v → RI l E 1 M_X5_meet [.ref (ead E t), .int x1, .int x2] s v s := by
  refine ofP hD (by decide +kernel) (Nat.le_of_ble_eq_true rfl) (fun X C => ?_)
  show MF l E X (fun q : Int32 => QI E X q s) (f_X5_meet t x1 x2 s) s 0 [(0, .ref (ead E t)), (1, .int x1), (2, .int x2)] []
  unfold f_X5_meet
  refine MF.aload_n C e_X5_meet_0 0 rfl rfl ?_
  refine MF.getR (j := (t + 1)) C cf_X5 l_X5_16 e_X5_meet_1 (iTo.f0 ht) ?_
  refine MF.iload_n C e_X5_meet_4 1 rfl rfl ?_
  refine MF.iconst (v := (0 : Int32)) C e_X5_meet_5 rfl ?_
  refine MF.callVP (As := [.int x1, .int (0 : Int32)]) C (R_X2_cell hD (t + 1) x1 (0 : Int32) (iTo.o0 ht) s) m_X2_cell k_X5_83 (iRo.o (iTo.o0 ht)) rfl (by decide) e_X5_meet_6 rfl rfl (Nat.le_of_ble_eq_true rfl) (fun v1 => ?_)
  refine MF.istore_n (lv' := [(0, .ref (ead E t)), (1, .int x1), (2, .int x2), (3, .int v1)]) C e_X5_meet_9 (by decide) rfl ?_
  refine MF.aload_n C e_X5_meet_10 0 rfl rfl ?_
  refine MF.getR (j := (t + 1)) C cf_X5 l_X5_16 e_X5_meet_11 (iTo.f0 ht) ?_
  refine MF.iload_n C e_X5_meet_14 1 rfl rfl ?_
  refine MF.iconst (v := (1 : Int32)) C e_X5_meet_15 rfl ?_
  refine MF.callVP (As := [.int x1, .int (1 : Int32)]) C (R_X2_cell hD (t + 1) x1 (1 : Int32) (iTo.o0 ht) s) m_X2_cell k_X5_83 (iRo.o (iTo.o0 ht)) rfl (by decide) e_X5_meet_16 rfl rfl (Nat.le_of_ble_eq_true rfl) (fun v2 => ?_)
  refine MF.istore (lv' := [(0, .ref (ead E t)), (1, .int x1), (2, .int x2), (3, .int v1), (4, .int v2)]) C e_X5_meet_19 (by decide) rfl ?_
  refine MF.aload_n C e_X5_meet_21 0 rfl rfl ?_
  refine MF.getR (j := (t + 1)) C cf_X5 l_X5_16 e_X5_meet_22 (iTo.f0 ht) ?_
  refine MF.iload_n C e_X5_meet_25 2 rfl rfl ?_
  refine MF.iconst (v := (0 : Int32)) C e_X5_meet_26 rfl ?_
  refine MF.callVP (As := [.int x2, .int (0 : Int32)]) C (R_X2_cell hD (t + 1) x2 (0 : Int32) (iTo.o0 ht) s) m_X2_cell k_X5_83 (iRo.o (iTo.o0 ht)) rfl (by decide) e_X5_meet_27 rfl rfl (Nat.le_of_ble_eq_true rfl) (fun v3 => ?_)
  refine MF.istore (lv' := [(0, .ref (ead E t)), (1, .int x1), (2, .int x2), (3, .int v1), (4, .int v2), (5, .int v3)]) C e_X5_meet_30 (by decide) rfl ?_
  refine MF.aload_n C e_X5_meet_32 0 rfl rfl ?_
  refine MF.getR (j := (t + 1)) C cf_X5 l_X5_16 e_X5_meet_33 (iTo.f0 ht) ?_
  refine MF.iload_n C e_X5_meet_36 2 rfl rfl ?_
  refine MF.iconst (v := (1 : Int32)) C e_X5_meet_37 rfl ?_
  refine MF.callVP (As := [.int x2, .int (1 : Int32)]) C (R_X2_cell hD (t + 1) x2 (1 : Int32) (iTo.o0 ht) s) m_X2_cell k_X5_83 (iRo.o (iTo.o0 ht)) rfl (by decide) e_X5_meet_38 rfl rfl (Nat.le_of_ble_eq_true rfl) (fun v4 => ?_)
  refine MF.istore (lv' := [(0, .ref (ead E t)), (1, .int x1), (2, .int x2), (3, .int v1), (4, .int v2), (5, .int v3), (6, .int v4)]) C e_X5_meet_41 (by decide) rfl ?_
  refine MF.iload_n C e_X5_meet_43 3 rfl rfl ?_
  refine MF.iload C e_X5_meet_44 5 rfl ?_
  refine MF.icmp_eq (tgt := 69) C e_X5_meet_46 (by decide) (fun _ => ?_) (fun _ => ?_)
  · refine MF.iconst (v := (1 : Int32)) C e_X5_meet_69 rfl ?_
    refine MF.goto (tgt := 74) C e_X5_meet_70 (by decide) ?_
    exact MF.nretp C e_X5_meet_74 rfl
  · refine MF.iload_n C e_X5_meet_49 3 rfl rfl ?_
    refine MF.iload C e_X5_meet_50 6 rfl ?_
    refine MF.icmp_eq (tgt := 69) C e_X5_meet_52 (by decide) (fun _ => ?_) (fun _ => ?_)
    · refine MF.iconst (v := (1 : Int32)) C e_X5_meet_69 rfl ?_
      refine MF.goto (tgt := 74) C e_X5_meet_70 (by decide) ?_
      exact MF.nretp C e_X5_meet_74 rfl
    · refine MF.iload C e_X5_meet_55 4 rfl ?_
      refine MF.iload C e_X5_meet_57 5 rfl ?_
      refine MF.icmp_eq (tgt := 69) C e_X5_meet_59 (by decide) (fun _ => ?_) (fun _ => ?_)
      · refine MF.iconst (v := (1 : Int32)) C e_X5_meet_69 rfl ?_
        refine MF.goto (tgt := 74) C e_X5_meet_70 (by decide) ?_
        exact MF.nretp C e_X5_meet_74 rfl
      · refine MF.iload C e_X5_meet_62 4 rfl ?_
        refine MF.iload C e_X5_meet_64 6 rfl ?_
        refine MF.icmp_ne (tgt := 73) C e_X5_meet_66 (by decide) (fun _ => ?_) (fun _ => ?_)
        · refine MF.iconst (v := (0 : Int32)) C e_X5_meet_73 rfl ?_
          exact MF.nretp C e_X5_meet_74 rfl
        · refine MF.iconst (v := (1 : Int32)) C e_X5_meet_69 rfl ?_
          refine MF.goto (tgt := 74) C e_X5_meet_70 (by decide) ?_
          exact MF.nretp C e_X5_meet_74 rfl
theorem e_X5_streetsOf_0 : Dc cX5_streetsOf 0 (.aload_n 0) 1 1 := ⟨by decide +kernel, rfl⟩
theorem e_X5_streetsOf_1 : Dc cX5_streetsOf 1 (.getfield 20) 3 4 := ⟨by decide +kernel, rfl⟩
theorem e_X5_streetsOf_4 : Dc cX5_streetsOf 4 (.iload_n 1) 1 5 := ⟨by decide +kernel, rfl⟩
theorem e_X5_streetsOf_5 : Dc cX5_streetsOf 5 (.iconst 1) 1 6 := ⟨by decide +kernel, rfl⟩
theorem e_X5_streetsOf_6 : Dc cX5_streetsOf 6 (.invokevirtual 83) 3 9 := ⟨by decide +kernel, rfl⟩
theorem e_X5_streetsOf_9 : Dc cX5_streetsOf 9 (.istore_n 2) 1 10 := ⟨by decide +kernel, rfl⟩
theorem e_X5_streetsOf_10 : Dc cX5_streetsOf 10 (.aload_n 0) 1 11 := ⟨by decide +kernel, rfl⟩
theorem e_X5_streetsOf_11 : Dc cX5_streetsOf 11 (.iload_n 1) 1 12 := ⟨by decide +kernel, rfl⟩
theorem e_X5_streetsOf_12 : Dc cX5_streetsOf 12 (.invokevirtual 89) 3 15 := ⟨by decide +kernel, rfl⟩
theorem e_X5_streetsOf_15 : Dc cX5_streetsOf 15 (.iconst 1) 1 16 := ⟨by decide +kernel, rfl⟩
theorem e_X5_streetsOf_16 : Dc cX5_streetsOf 16 (.if_icmp .eq 7) 3 19 := ⟨by decide +kernel, rfl⟩
theorem e_X5_streetsOf_19 : Dc cX5_streetsOf 19 (.iconst 1) 1 20 := ⟨by decide +kernel, rfl⟩
theorem e_X5_streetsOf_20 : Dc cX5_streetsOf 20 (.iload_n 2) 1 21 := ⟨by decide +kernel, rfl⟩
theorem e_X5_streetsOf_21 : Dc cX5_streetsOf 21 (.ishl) 1 22 := ⟨by decide +kernel, rfl⟩
theorem e_X5_streetsOf_22 : Dc cX5_streetsOf 22 (.ireturn) 1 23 := ⟨by decide +kernel, rfl⟩
theorem e_X5_streetsOf_23 : Dc cX5_streetsOf 23 (.iconst 0) 1 24 := ⟨by decide +kernel, rfl⟩
theorem e_X5_streetsOf_24 : Dc cX5_streetsOf 24 (.istore_n 3) 1 25 := ⟨by decide +kernel, rfl⟩
theorem e_X5_streetsOf_25 : Dc cX5_streetsOf 25 (.iconst 0) 1 26 := ⟨by decide +kernel, rfl⟩
theorem e_X5_streetsOf_26 : Dc cX5_streetsOf 26 (.istore 4) 2 28 := ⟨by decide +kernel, rfl⟩
theorem e_X5_streetsOf_28 : Dc cX5_streetsOf 28 (.iload 4) 2 30 := ⟨by decide +kernel, rfl⟩
theorem e_X5_streetsOf_30 : Dc cX5_streetsOf 30 (.aload_n 0) 1 31 := ⟨by decide +kernel, rfl⟩
theorem e_X5_streetsOf_31 : Dc cX5_streetsOf 31 (.getfield 16) 3 34 := ⟨by decide +kernel, rfl⟩
theorem e_X5_streetsOf_34 : Dc cX5_streetsOf 34 (.invokevirtual 50) 3 37 := ⟨by decide +kernel, rfl⟩
theorem e_X5_streetsOf_37 : Dc cX5_streetsOf 37 (.if_icmp .ge 26) 3 40 := ⟨by decide +kernel, rfl⟩
theorem e_X5_streetsOf_40 : Dc cX5_streetsOf 40 (.aload_n 0) 1 41 := ⟨by decide +kernel, rfl⟩
theorem e_X5_streetsOf_41 : Dc cX5_streetsOf 41 (.iload_n 2) 1 42 := ⟨by decide +kernel, rfl⟩
theorem e_X5_streetsOf_42 : Dc cX5_streetsOf 42 (.iload 4) 2 44 := ⟨by decide +kernel, rfl⟩
theorem e_X5_streetsOf_44 : Dc cX5_streetsOf 44 (.invokevirtual 101) 3 47 := ⟨by decide +kernel, rfl⟩
theorem e_X5_streetsOf_47 : Dc cX5_streetsOf 47 (.ifCond .eq 10) 3 50 := ⟨by decide +kernel, rfl⟩
theorem e_X5_streetsOf_50 : Dc cX5_streetsOf 50 (.iload_n 3) 1 51 := ⟨by decide +kernel, rfl⟩
theorem e_X5_streetsOf_51 : Dc cX5_streetsOf 51 (.iconst 1) 1 52 := ⟨by decide +kernel, rfl⟩
theorem e_X5_streetsOf_52 : Dc cX5_streetsOf 52 (.iload 4) 2 54 := ⟨by decide +kernel, rfl⟩
theorem e_X5_streetsOf_54 : Dc cX5_streetsOf 54 (.ishl) 1 55 := ⟨by decide +kernel, rfl⟩
theorem e_X5_streetsOf_55 : Dc cX5_streetsOf 55 (.ior) 1 56 := ⟨by decide +kernel, rfl⟩
theorem e_X5_streetsOf_56 : Dc cX5_streetsOf 56 (.istore_n 3) 1 57 := ⟨by decide +kernel, rfl⟩
theorem e_X5_streetsOf_57 : Dc cX5_streetsOf 57 (.iinc 4 1) 3 60 := ⟨by decide +kernel, rfl⟩
theorem e_X5_streetsOf_60 : Dc cX5_streetsOf 60 (.goto (-32)) 3 63 := ⟨by decide +kernel, rfl⟩
theorem e_X5_streetsOf_63 : Dc cX5_streetsOf 63 (.iload_n 3) 1 64 := ⟨by decide +kernel, rfl⟩
theorem e_X5_streetsOf_64 : Dc cX5_streetsOf 64 (.ireturn) 1 65 := ⟨by decide +kernel, rfl⟩
set_option maxHeartbeats 4000000 in
set_option maxRecDepth 20000 in
theorem R_X5_streetsOf (hD : DD E) (t : Nat) (x1 : Int32) (ht : iTo t) (s : Sg) : ∀ v, (f_X5_streetsOf t x1 s) = some v → RI l E 2 M_X5_streetsOf [.ref (ead E t), .int x1] s v s := by
  refine ofP hD (by decide +kernel) (Nat.le_of_ble_eq_true rfl) (fun X C => ?_)
  show MF l E X (fun q : Int32 => QI E X q s) (f_X5_streetsOf t x1 s) s 0 [(0, .ref (ead E t)), (1, .int x1)] []
  unfold f_X5_streetsOf
  refine MF.aload_n C e_X5_streetsOf_0 0 rfl rfl ?_
  refine MF.getR (j := (t + 3)) C cf_X5 l_X5_20 e_X5_streetsOf_1 (iTo.f1 ht) ?_
  refine MF.iload_n C e_X5_streetsOf_4 1 rfl rfl ?_
  refine MF.iconst (v := (1 : Int32)) C e_X5_streetsOf_5 rfl ?_
  refine MF.callVP (As := [.int x1, .int (1 : Int32)]) C (R_X2_cell hD (t + 3) x1 (1 : Int32) (iTo.o1 ht) s) m_X2_cell k_X5_83 (iRo.o (iTo.o1 ht)) rfl (by decide) e_X5_streetsOf_6 rfl rfl (Nat.le_of_ble_eq_true rfl) (fun v1 => ?_)
  refine MF.istore_n (lv' := [(0, .ref (ead E t)), (1, .int x1), (2, .int v1)]) C e_X5_streetsOf_9 (by decide) rfl ?_
  refine MF.aload_n C e_X5_streetsOf_10 0 rfl rfl ?_
  refine MF.iload_n C e_X5_streetsOf_11 1 rfl rfl ?_
  refine MF.callVP (As := [.int x1]) C (R_X5_kindOf hD t x1 ht s) m_X5_kindOf k_X5_89 (iTo.o ht) rfl (by decide) e_X5_streetsOf_12 rfl rfl (Nat.le_of_ble_eq_true rfl) (fun v2 => ?_)
  refine MF.iconst (v := (1 : Int32)) C e_X5_streetsOf_15 rfl ?_
  refine MF.icmp_eq (tgt := 23) C e_X5_streetsOf_16 (by decide) (fun _ => ?_) (fun _ => ?_)
  · refine MF.iconst (v := (0 : Int32)) C e_X5_streetsOf_23 rfl ?_
    refine MF.istore_n (lv' := [(0, .ref (ead E t)), (1, .int x1), (2, .int v1), (3, .int (0 : Int32))]) C e_X5_streetsOf_24 (by decide) rfl ?_
    refine MF.iconst (v := (0 : Int32)) C e_X5_streetsOf_25 rfl ?_
    refine MF.istore (lv' := [(0, .ref (ead E t)), (1, .int x1), (2, .int v1), (3, .int (0 : Int32)), (4, .int (0 : Int32))]) C e_X5_streetsOf_26 (by decide) rfl ?_
    refine MF.sub [0, 2, 3, 4] rfl ?_
    refine MF.loop2 (fun i3 i4 => s) (fun i3 i4 => [(0, .ref (ead E t)), (2, .int v1), (3, .int i3), (4, .int i4)]) (fun self5 hself5 i3 i4 => ?_) fu (0 : Int32) (0 : Int32)
    unfold b_X5_streetsOf_28
    refine MF.iload C e_X5_streetsOf_28 3 rfl ?_
    refine MF.aload_n C e_X5_streetsOf_30 0 rfl rfl ?_
    refine MF.getR (j := (t + 1)) C cf_X5 l_X5_16 e_X5_streetsOf_31 (iTo.f0 ht) ?_
    refine MF.callVP (As := []) C (R_X2_size hD (t + 1) (iTo.o0 ht) s) m_X2_size k_X5_50 (iRo.o (iTo.o0 ht)) rfl (by decide) e_X5_streetsOf_34 rfl rfl (Nat.le_of_ble_eq_true rfl) (fun v6 => ?_)
    refine MF.icmp_ge (tgt := 63) C e_X5_streetsOf_37 (by decide) (fun _ => ?_) (fun _ => ?_)
    · refine MF.iload_n C e_X5_streetsOf_63 2 rfl rfl ?_
      exact MF.iretp C e_X5_streetsOf_64
    · refine MF.aload_n C e_X5_streetsOf_40 0 rfl rfl ?_
      refine MF.iload_n C e_X5_streetsOf_41 1 rfl rfl ?_
      refine MF.iload C e_X5_streetsOf_42 3 rfl ?_
      refine MF.callVP (As := [.int v1, .int i4]) C (R_X5_meet hD t v1 i4 ht s) m_X5_meet k_X5_101 (iTo.o ht) rfl (by decide) e_X5_streetsOf_44 rfl rfl (Nat.le_of_ble_eq_true rfl) (fun v7 => ?_)
      refine MF.join (fun j : Int32 → Option Int32 => ∀ (a8 : Int32), MF l E X (fun q : Int32 => QI E X q s) (j a8) s 57 [(0, .ref (ead E t)), (2, .int v1), (3, .int a8), (4, .int i4)] []) ?_ (fun j9 hj9 => ?_)
      · intro a8
        refine MF.iinc (v := (1 : Int32)) (lv' := [(0, .ref (ead E t)), (2, .int v1), (3, .int a8), (4, .int (i4 + (1 : Int32)))]) C e_X5_streetsOf_57 3 rfl rfl (by decide) rfl ?_
        refine MF.goto (tgt := 28) C e_X5_streetsOf_60 (by decide) ?_
        exact hself5 a8 (i4 + (1 : Int32))
      refine MF.if_eq (tgt := 57) C e_X5_streetsOf_47 (by decide) (fun _ => ?_) (fun _ => ?_)
      · exact hj9 i3
      · refine MF.iload_n C e_X5_streetsOf_50 2 rfl rfl ?_
        refine MF.iconst (v := (1 : Int32)) C e_X5_streetsOf_51 rfl ?_
        refine MF.iload C e_X5_streetsOf_52 3 rfl ?_
        refine MF.ishl C e_X5_streetsOf_54 ?_
        refine MF.ior C e_X5_streetsOf_55 ?_
        refine MF.nmI (fun v10 => ?_)
        refine MF.istore_n (lv' := [(0, .ref (ead E t)), (2, .int v1), (3, .int v10), (4, .int i4)]) C e_X5_streetsOf_56 (by decide) rfl ?_
        exact hj9 v10
  · refine MF.iconst (v := (1 : Int32)) C e_X5_streetsOf_19 rfl ?_
    refine MF.iload_n C e_X5_streetsOf_20 2 rfl rfl ?_
    refine MF.ishl C e_X5_streetsOf_21 ?_
    exact MF.iretp C e_X5_streetsOf_22
theorem e_X7_rankBy_0 : Dc cX7_rankBy 0 (.iload_n 0) 1 1 := ⟨by decide +kernel, rfl⟩
theorem e_X7_rankBy_1 : Dc cX7_rankBy 1 (.iconst 3) 1 2 := ⟨by decide +kernel, rfl⟩
theorem e_X7_rankBy_2 : Dc cX7_rankBy 2 (.if_icmp .ne 7) 3 5 := ⟨by decide +kernel, rfl⟩
theorem e_X7_rankBy_5 : Dc cX7_rankBy 5 (.iload_n 1) 1 6 := ⟨by decide +kernel, rfl⟩
theorem e_X7_rankBy_6 : Dc cX7_rankBy 6 (.iconst 2) 1 7 := ⟨by decide +kernel, rfl⟩
theorem e_X7_rankBy_7 : Dc cX7_rankBy 7 (.idiv) 1 8 := ⟨by decide +kernel, rfl⟩
theorem e_X7_rankBy_8 : Dc cX7_rankBy 8 (.ireturn) 1 9 := ⟨by decide +kernel, rfl⟩
theorem e_X7_rankBy_9 : Dc cX7_rankBy 9 (.iload_n 0) 1 10 := ⟨by decide +kernel, rfl⟩
theorem e_X7_rankBy_10 : Dc cX7_rankBy 10 (.getstatic 275) 3 13 := ⟨by decide +kernel, rfl⟩
theorem e_X7_rankBy_13 : Dc cX7_rankBy 13 (.arraylength) 1 14 := ⟨by decide +kernel, rfl⟩
theorem e_X7_rankBy_14 : Dc cX7_rankBy 14 (.invokestatic 93) 3 17 := ⟨by decide +kernel, rfl⟩
theorem e_X7_rankBy_17 : Dc cX7_rankBy 17 (.ifCond .eq 13) 3 20 := ⟨by decide +kernel, rfl⟩
theorem e_X7_rankBy_20 : Dc cX7_rankBy 20 (.iload_n 1) 1 21 := ⟨by decide +kernel, rfl⟩
theorem e_X7_rankBy_21 : Dc cX7_rankBy 21 (.getstatic 275) 3 24 := ⟨by decide +kernel, rfl⟩
theorem e_X7_rankBy_24 : Dc cX7_rankBy 24 (.iload_n 0) 1 25 := ⟨by decide +kernel, rfl⟩
theorem e_X7_rankBy_25 : Dc cX7_rankBy 25 (.iaload) 1 26 := ⟨by decide +kernel, rfl⟩
theorem e_X7_rankBy_26 : Dc cX7_rankBy 26 (.iadd) 1 27 := ⟨by decide +kernel, rfl⟩
theorem e_X7_rankBy_27 : Dc cX7_rankBy 27 (.goto 4) 3 30 := ⟨by decide +kernel, rfl⟩
theorem e_X7_rankBy_30 : Dc cX7_rankBy 30 (.iload_n 1) 1 31 := ⟨by decide +kernel, rfl⟩
theorem e_X7_rankBy_31 : Dc cX7_rankBy 31 (.ireturn) 1 32 := ⟨by decide +kernel, rfl⟩
set_option maxHeartbeats 4000000 in
set_option maxRecDepth 20000 in
theorem R_X7_rankBy (hD : DD E) (x0 : Int32) (x1 : Int32) (s : Sg) : ∀ v, (f_X7_rankBy x0 x1 s) = some v → RI l E 1 M_X7_rankBy [.int x0, .int x1] s v s := by
  refine ofP hD (by decide +kernel) (Nat.le_of_ble_eq_true rfl) (fun X C => ?_)
  show MF l E X (fun q : Int32 => QI E X q s) (f_X7_rankBy x0 x1 s) s 0 [(0, .int x0), (1, .int x1)] []
  unfold f_X7_rankBy
  refine MF.iload_n C e_X7_rankBy_0 0 rfl rfl ?_
  refine MF.iconst (v := (3 : Int32)) C e_X7_rankBy_1 rfl ?_
  refine MF.icmp_ne (tgt := 9) C e_X7_rankBy_2 (by decide) (fun _ => ?_) (fun _ => ?_)
  · refine MF.iload_n C e_X7_rankBy_9 0 rfl rfl ?_
    refine MF.getT (t := 3) C (by decide) l_X7_275 e_X7_rankBy_10 ?_
    refine MF.tlen (n := (6 : Int32)) C (by decide) rfl e_X7_rankBy_13 ?_
    refine MF.callSP (As := [.int x0, .int (6 : Int32)]) C (R_X7_isBelow hD x0 (6 : Int32) s) m_X7_isBelow k_X7_93 (by decide) e_X7_rankBy_14 rfl rfl (Nat.le_of_ble_eq_true rfl) (fun v1 => ?_)
    refine MF.if_eq (tgt := 30) C e_X7_rankBy_17 (by decide) (fun _ => ?_) (fun _ => ?_)
    · refine MF.iload_n C e_X7_rankBy_30 1 rfl rfl ?_
      exact MF.iretp C e_X7_rankBy_31
    · refine MF.iload_n C e_X7_rankBy_20 1 rfl rfl ?_
      refine MF.getT (t := 3) C (by decide) l_X7_275 e_X7_rankBy_21 ?_
      refine MF.iload_n C e_X7_rankBy_24 0 rfl rfl ?_
      refine MF.tald C (by decide) e_X7_rankBy_25 (fun v2 => ?_)
      refine MF.iadd C e_X7_rankBy_26 ?_
      refine MF.goto (tgt := 31) C e_X7_rankBy_27 (by decide) ?_
      exact MF.iretp C e_X7_rankBy_31
  · refine MF.iload_n C e_X7_rankBy_5 1 rfl rfl ?_
    refine MF.iconst (v := (2 : Int32)) C e_X7_rankBy_6 rfl ?_
    refine MF.idiv C e_X7_rankBy_7 (by decide) ?_
    exact MF.iretp C e_X7_rankBy_8
theorem e_X5_rankGiven_0 : Dc cX5_rankGiven 0 (.aload_n 0) 1 1 := ⟨by decide +kernel, rfl⟩
theorem e_X5_rankGiven_1 : Dc cX5_rankGiven 1 (.iload_n 1) 1 2 := ⟨by decide +kernel, rfl⟩
theorem e_X5_rankGiven_2 : Dc cX5_rankGiven 2 (.invokevirtual 89) 3 5 := ⟨by decide +kernel, rfl⟩
theorem e_X5_rankGiven_5 : Dc cX5_rankGiven 5 (.aload_n 0) 1 6 := ⟨by decide +kernel, rfl⟩
theorem e_X5_rankGiven_6 : Dc cX5_rankGiven 6 (.getfield 20) 3 9 := ⟨by decide +kernel, rfl⟩
theorem e_X5_rankGiven_9 : Dc cX5_rankGiven 9 (.iload_n 1) 1 10 := ⟨by decide +kernel, rfl⟩
theorem e_X5_rankGiven_10 : Dc cX5_rankGiven 10 (.iconst 4) 1 11 := ⟨by decide +kernel, rfl⟩
theorem e_X5_rankGiven_11 : Dc cX5_rankGiven 11 (.invokevirtual 83) 3 14 := ⟨by decide +kernel, rfl⟩
theorem e_X5_rankGiven_14 : Dc cX5_rankGiven 14 (.invokestatic 95) 3 17 := ⟨by decide +kernel, rfl⟩
theorem e_X5_rankGiven_17 : Dc cX5_rankGiven 17 (.ireturn) 1 18 := ⟨by decide +kernel, rfl⟩
set_option maxHeartbeats 4000000 in
set_option maxRecDepth 20000 in
theorem R_X5_rankGiven (hD : DD E) (t : Nat) (x1 : Int32) (ht : iTo t) (s : Sg) : ∀ v, (f_X5_rankGiven t x1 s) = some v → RI l E 2 M_X5_rankGiven [.ref (ead E t), .int x1] s v s := by
  refine ofP hD (by decide +kernel) (Nat.le_of_ble_eq_true rfl) (fun X C => ?_)
  show MF l E X (fun q : Int32 => QI E X q s) (f_X5_rankGiven t x1 s) s 0 [(0, .ref (ead E t)), (1, .int x1)] []
  unfold f_X5_rankGiven
  refine MF.aload_n C e_X5_rankGiven_0 0 rfl rfl ?_
  refine MF.iload_n C e_X5_rankGiven_1 1 rfl rfl ?_
  refine MF.callVP (As := [.int x1]) C (R_X5_kindOf hD t x1 ht s) m_X5_kindOf k_X5_89 (iTo.o ht) rfl (by decide) e_X5_rankGiven_2 rfl rfl (Nat.le_of_ble_eq_true rfl) (fun v1 => ?_)
  refine MF.aload_n C e_X5_rankGiven_5 0 rfl rfl ?_
  refine MF.getR (j := (t + 3)) C cf_X5 l_X5_20 e_X5_rankGiven_6 (iTo.f1 ht) ?_
  refine MF.iload_n C e_X5_rankGiven_9 1 rfl rfl ?_
  refine MF.iconst (v := (4 : Int32)) C e_X5_rankGiven_10 rfl ?_
  refine MF.callVP (As := [.int x1, .int (4 : Int32)]) C (R_X2_cell hD (t + 3) x1 (4 : Int32) (iTo.o1 ht) s) m_X2_cell k_X5_83 (iRo.o (iTo.o1 ht)) rfl (by decide) e_X5_rankGiven_11 rfl rfl (Nat.le_of_ble_eq_true rfl) (fun v2 => ?_)
  refine MF.callSNP (As := [.int v1, .int v2]) C (R_X7_rankBy hD v1 v2 s) m_X7_rankBy k_X5_95 (by decide) e_X5_rankGiven_14 rfl rfl (Nat.le_of_ble_eq_true rfl) (fun v3 => ?_)
  exact MF.iretp C e_X5_rankGiven_17
theorem e_X5_hoursGiven_0 : Dc cX5_hoursGiven 0 (.getstatic 98) 3 3 := ⟨by decide +kernel, rfl⟩
theorem e_X5_hoursGiven_3 : Dc cX5_hoursGiven 3 (.aload_n 0) 1 4 := ⟨by decide +kernel, rfl⟩
theorem e_X5_hoursGiven_4 : Dc cX5_hoursGiven 4 (.iload_n 1) 1 5 := ⟨by decide +kernel, rfl⟩
theorem e_X5_hoursGiven_5 : Dc cX5_hoursGiven 5 (.invokevirtual 89) 3 8 := ⟨by decide +kernel, rfl⟩
theorem e_X5_hoursGiven_8 : Dc cX5_hoursGiven 8 (.iaload) 1 9 := ⟨by decide +kernel, rfl⟩
theorem e_X5_hoursGiven_9 : Dc cX5_hoursGiven 9 (.ireturn) 1 10 := ⟨by decide +kernel, rfl⟩
set_option maxHeartbeats 4000000 in
set_option maxRecDepth 20000 in
theorem R_X5_hoursGiven (hD : DD E) (t : Nat) (x1 : Int32) (ht : iTo t) (s : Sg) : ∀ v, (f_X5_hoursGiven t x1 s) = some v → RI l E 2 M_X5_hoursGiven [.ref (ead E t), .int x1] s v s := by
  refine ofP hD (by decide +kernel) (Nat.le_of_ble_eq_true rfl) (fun X C => ?_)
  show MF l E X (fun q : Int32 => QI E X q s) (f_X5_hoursGiven t x1 s) s 0 [(0, .ref (ead E t)), (1, .int x1)] []
  unfold f_X5_hoursGiven
  refine MF.getTN (t := 4) C (by decide) l_X5_98 e_X5_hoursGiven_0 ?_
  refine MF.aload_n C e_X5_hoursGiven_3 0 rfl rfl ?_
  refine MF.iload_n C e_X5_hoursGiven_4 1 rfl rfl ?_
  refine MF.callVP (As := [.int x1]) C (R_X5_kindOf hD t x1 ht s) m_X5_kindOf k_X5_89 (iTo.o ht) rfl (by decide) e_X5_hoursGiven_5 rfl rfl (Nat.le_of_ble_eq_true rfl) (fun v1 => ?_)
  refine MF.tald C (by decide) e_X5_hoursGiven_8 (fun v2 => ?_)
  exact MF.iretp C e_X5_hoursGiven_9
theorem e_X0_placeBehind_0 : Dc cX0_placeBehind 0 (.iconst 0) 1 1 := ⟨by decide +kernel, rfl⟩
theorem e_X0_placeBehind_1 : Dc cX0_placeBehind 1 (.istore_n 2) 1 2 := ⟨by decide +kernel, rfl⟩
theorem e_X0_placeBehind_2 : Dc cX0_placeBehind 2 (.iload_n 2) 1 3 := ⟨by decide +kernel, rfl⟩
theorem e_X0_placeBehind_3 : Dc cX0_placeBehind 3 (.aload_n 0) 1 4 := ⟨by decide +kernel, rfl⟩
theorem e_X0_placeBehind_4 : Dc cX0_placeBehind 4 (.getfield 16) 3 7 := ⟨by decide +kernel, rfl⟩
theorem e_X0_placeBehind_7 : Dc cX0_placeBehind 7 (.invokevirtual 54) 3 10 := ⟨by decide +kernel, rfl⟩
theorem e_X0_placeBehind_10 : Dc cX0_placeBehind 10 (.if_icmp .ge 22) 3 13 := ⟨by decide +kernel, rfl⟩
theorem e_X0_placeBehind_13 : Dc cX0_placeBehind 13 (.aload_n 0) 1 14 := ⟨by decide +kernel, rfl⟩
theorem e_X0_placeBehind_14 : Dc cX0_placeBehind 14 (.getfield 16) 3 17 := ⟨by decide +kernel, rfl⟩
theorem e_X0_placeBehind_17 : Dc cX0_placeBehind 17 (.iload_n 2) 1 18 := ⟨by decide +kernel, rfl⟩
theorem e_X0_placeBehind_18 : Dc cX0_placeBehind 18 (.iconst 0) 1 19 := ⟨by decide +kernel, rfl⟩
theorem e_X0_placeBehind_19 : Dc cX0_placeBehind 19 (.invokevirtual 58) 3 22 := ⟨by decide +kernel, rfl⟩
theorem e_X0_placeBehind_22 : Dc cX0_placeBehind 22 (.iload_n 1) 1 23 := ⟨by decide +kernel, rfl⟩
theorem e_X0_placeBehind_23 : Dc cX0_placeBehind 23 (.if_icmp .gt 9) 3 26 := ⟨by decide +kernel, rfl⟩
theorem e_X0_placeBehind_26 : Dc cX0_placeBehind 26 (.iinc 2 1) 3 29 := ⟨by decide +kernel, rfl⟩
theorem e_X0_placeBehind_29 : Dc cX0_placeBehind 29 (.goto (-27)) 3 32 := ⟨by decide +kernel, rfl⟩
theorem e_X0_placeBehind_32 : Dc cX0_placeBehind 32 (.iload_n 2) 1 33 := ⟨by decide +kernel, rfl⟩
theorem e_X0_placeBehind_33 : Dc cX0_placeBehind 33 (.ireturn) 1 34 := ⟨by decide +kernel, rfl⟩
set_option maxHeartbeats 4000000 in
set_option maxRecDepth 20000 in
theorem R_X0_placeBehind (hD : DD E) (x1 : Int32) (s : Sg) : ∀ v, (f_X0_placeBehind x1 s) = some v → RI l E 1 M_X0_placeBehind [.ref (ead E 52), .int x1] s v s := by
  refine ofP hD (by decide +kernel) (Nat.le_of_ble_eq_true rfl) (fun X C => ?_)
  show MF l E X (fun q : Int32 => QI E X q s) (f_X0_placeBehind x1 s) s 0 [(0, .ref (ead E 52)), (1, .int x1)] []
  unfold f_X0_placeBehind
  refine MF.iconst (v := (0 : Int32)) C e_X0_placeBehind_0 rfl ?_
  refine MF.istore_n (lv' := [(0, .ref (ead E 52)), (1, .int x1), (2, .int (0 : Int32))]) C e_X0_placeBehind_1 (by decide) rfl ?_
  refine MF.loop1 (fun i1 => s) (fun i1 => [(0, .ref (ead E 52)), (1, .int x1), (2, .int i1)]) (fun self2 hself2 i1 => ?_) fu (0 : Int32)
  unfold b_X0_placeBehind_2
  refine MF.iload_n C e_X0_placeBehind_2 2 rfl rfl ?_
  refine MF.aload_n C e_X0_placeBehind_3 0 rfl rfl ?_
  refine MF.getR (j := 53) C cf_X0 l_X0_16 e_X0_placeBehind_4 kF_52_0 ?_
  refine MF.callVP (As := []) C (R_X2_size hD 53 kR_53 s) m_X2_size k_X0_54 (iRo.o kR_53) rfl (by decide) e_X0_placeBehind_7 rfl rfl (Nat.le_of_ble_eq_true rfl) (fun v3 => ?_)
  refine MF.icmp_ge (tgt := 32) C e_X0_placeBehind_10 (by decide) (fun _ => ?_) (fun _ => ?_)
  · refine MF.iload_n C e_X0_placeBehind_32 2 rfl rfl ?_
    exact MF.iretp C e_X0_placeBehind_33
  · refine MF.aload_n C e_X0_placeBehind_13 0 rfl rfl ?_
    refine MF.getR (j := 53) C cf_X0 l_X0_16 e_X0_placeBehind_14 kF_52_0 ?_
    refine MF.iload_n C e_X0_placeBehind_17 2 rfl rfl ?_
    refine MF.iconst (v := (0 : Int32)) C e_X0_placeBehind_18 rfl ?_
    refine MF.callVP (As := [.int i1, .int (0 : Int32)]) C (R_X2_cell hD 53 i1 (0 : Int32) kR_53 s) m_X2_cell k_X0_58 (iRo.o kR_53) rfl (by decide) e_X0_placeBehind_19 rfl rfl (Nat.le_of_ble_eq_true rfl) (fun v4 => ?_)
    refine MF.iload_n C e_X0_placeBehind_22 1 rfl rfl ?_
    refine MF.icmp_gt (tgt := 32) C e_X0_placeBehind_23 (by decide) (fun _ => ?_) (fun _ => ?_)
    · refine MF.iload_n C e_X0_placeBehind_32 2 rfl rfl ?_
      exact MF.iretp C e_X0_placeBehind_33
    · refine MF.iinc (v := (1 : Int32)) (lv' := [(0, .ref (ead E 52)), (1, .int x1), (2, .int (i1 + (1 : Int32)))]) C e_X0_placeBehind_26 2 rfl rfl (by decide) rfl ?_
      refine MF.goto (tgt := 2) C e_X0_placeBehind_29 (by decide) ?_
      exact hself2 (i1 + (1 : Int32))
theorem e_X2_isFull_0 : Dc cX2_isFull 0 (.aload_n 0) 1 1 := ⟨by decide +kernel, rfl⟩
theorem e_X2_isFull_1 : Dc cX2_isFull 1 (.getfield 7) 3 4 := ⟨by decide +kernel, rfl⟩
theorem e_X2_isFull_4 : Dc cX2_isFull 4 (.iconst 1) 1 5 := ⟨by decide +kernel, rfl⟩
theorem e_X2_isFull_5 : Dc cX2_isFull 5 (.iadd) 1 6 := ⟨by decide +kernel, rfl⟩
theorem e_X2_isFull_6 : Dc cX2_isFull 6 (.aload_n 0) 1 7 := ⟨by decide +kernel, rfl⟩
theorem e_X2_isFull_7 : Dc cX2_isFull 7 (.getfield 13) 3 10 := ⟨by decide +kernel, rfl⟩
theorem e_X2_isFull_10 : Dc cX2_isFull 10 (.imul) 1 11 := ⟨by decide +kernel, rfl⟩
theorem e_X2_isFull_11 : Dc cX2_isFull 11 (.aload_n 0) 1 12 := ⟨by decide +kernel, rfl⟩
theorem e_X2_isFull_12 : Dc cX2_isFull 12 (.getfield 16) 3 15 := ⟨by decide +kernel, rfl⟩
theorem e_X2_isFull_15 : Dc cX2_isFull 15 (.arraylength) 1 16 := ⟨by decide +kernel, rfl⟩
theorem e_X2_isFull_16 : Dc cX2_isFull 16 (.if_icmp .le 7) 3 19 := ⟨by decide +kernel, rfl⟩
theorem e_X2_isFull_19 : Dc cX2_isFull 19 (.iconst 1) 1 20 := ⟨by decide +kernel, rfl⟩
theorem e_X2_isFull_20 : Dc cX2_isFull 20 (.goto 4) 3 23 := ⟨by decide +kernel, rfl⟩
theorem e_X2_isFull_23 : Dc cX2_isFull 23 (.iconst 0) 1 24 := ⟨by decide +kernel, rfl⟩
theorem e_X2_isFull_24 : Dc cX2_isFull 24 (.ireturn) 1 25 := ⟨by decide +kernel, rfl⟩
set_option maxHeartbeats 4000000 in
set_option maxRecDepth 20000 in
theorem R_X2_isFull (hD : DD E) (o : Nat) (ho : iRo o) (s : Sg) : ∀ v, (f_X2_isFull o s) = some v → RI l E 0 M_X2_isFull [.ref (ead E o)] s v s := by
  refine ofP hD (by decide +kernel) (Nat.le_of_ble_eq_true rfl) (fun X C => ?_)
  show MF l E X (fun q : Int32 => QI E X q s) (f_X2_isFull o s) s 0 [(0, .ref (ead E o))] []
  unfold f_X2_isFull
  refine MF.aload_n C e_X2_isFull_0 0 rfl rfl ?_
  refine MF.get C cf_X2 l_X2_7 e_X2_isFull_1 (iRo.f2 ho) ?_
  refine MF.iconst (v := (1 : Int32)) C e_X2_isFull_4 rfl ?_
  refine MF.iadd C e_X2_isFull_5 ?_
  refine MF.aload_n C e_X2_isFull_6 0 rfl rfl ?_
  refine MF.get C cf_X2 l_X2_13 e_X2_isFull_7 (iRo.f0 ho) ?_
  refine MF.imul C e_X2_isFull_10 ?_
  refine MF.aload_n C e_X2_isFull_11 0 rfl rfl ?_
  refine MF.getR (j := (o + 1)) C cf_X2 l_X2_16 e_X2_isFull_12 (iRo.f1 ho) ?_
  refine MF.alenI C e_X2_isFull_15 (iRo.a ho) ?_
  refine MF.icmp_le (tgt := 23) C e_X2_isFull_16 (by decide) (fun _ => ?_) (fun _ => ?_)
  · refine MF.iconst (v := (0 : Int32)) C e_X2_isFull_23 rfl ?_
    exact MF.nretp C e_X2_isFull_24 rfl
  · refine MF.iconst (v := (1 : Int32)) C e_X2_isFull_19 rfl ?_
    refine MF.goto (tgt := 24) C e_X2_isFull_20 (by decide) ?_
    exact MF.nretp C e_X2_isFull_24 rfl
theorem e_X2_insert_0 : Dc cX2_insert 0 (.aload_n 0) 1 1 := ⟨by decide +kernel, rfl⟩
theorem e_X2_insert_1 : Dc cX2_insert 1 (.invokevirtual 24) 3 4 := ⟨by decide +kernel, rfl⟩
theorem e_X2_insert_4 : Dc cX2_insert 4 (.ifCond .ne 24) 3 7 := ⟨by decide +kernel, rfl⟩
theorem e_X2_insert_7 : Dc cX2_insert 7 (.iload_n 1) 1 8 := ⟨by decide +kernel, rfl⟩
theorem e_X2_insert_8 : Dc cX2_insert 8 (.ifCond .lt 20) 3 11 := ⟨by decide +kernel, rfl⟩
theorem e_X2_insert_11 : Dc cX2_insert 11 (.iload_n 1) 1 12 := ⟨by decide +kernel, rfl⟩
theorem e_X2_insert_12 : Dc cX2_insert 12 (.aload_n 0) 1 13 := ⟨by decide +kernel, rfl⟩
theorem e_X2_insert_13 : Dc cX2_insert 13 (.getfield 7) 3 16 := ⟨by decide +kernel, rfl⟩
theorem e_X2_insert_16 : Dc cX2_insert 16 (.if_icmp .gt 12) 3 19 := ⟨by decide +kernel, rfl⟩
theorem e_X2_insert_19 : Dc cX2_insert 19 (.aload_n 2) 1 20 := ⟨by decide +kernel, rfl⟩
theorem e_X2_insert_20 : Dc cX2_insert 20 (.arraylength) 1 21 := ⟨by decide +kernel, rfl⟩
theorem e_X2_insert_21 : Dc cX2_insert 21 (.aload_n 0) 1 22 := ⟨by decide +kernel, rfl⟩
theorem e_X2_insert_22 : Dc cX2_insert 22 (.getfield 13) 3 25 := ⟨by decide +kernel, rfl⟩
theorem e_X2_insert_25 : Dc cX2_insert 25 (.if_icmp .ge 4) 3 28 := ⟨by decide +kernel, rfl⟩
theorem e_X2_insert_28 : Dc cX2_insert 28 (.return_) 1 29 := ⟨by decide +kernel, rfl⟩
theorem e_X2_insert_29 : Dc cX2_insert 29 (.iload_n 1) 1 30 := ⟨by decide +kernel, rfl⟩
theorem e_X2_insert_30 : Dc cX2_insert 30 (.aload_n 0) 1 31 := ⟨by decide +kernel, rfl⟩
theorem e_X2_insert_31 : Dc cX2_insert 31 (.getfield 13) 3 34 := ⟨by decide +kernel, rfl⟩
theorem e_X2_insert_34 : Dc cX2_insert 34 (.imul) 1 35 := ⟨by decide +kernel, rfl⟩
theorem e_X2_insert_35 : Dc cX2_insert 35 (.istore_n 3) 1 36 := ⟨by decide +kernel, rfl⟩
theorem e_X2_insert_36 : Dc cX2_insert 36 (.aload_n 0) 1 37 := ⟨by decide +kernel, rfl⟩
theorem e_X2_insert_37 : Dc cX2_insert 37 (.getfield 16) 3 40 := ⟨by decide +kernel, rfl⟩
theorem e_X2_insert_40 : Dc cX2_insert 40 (.iload_n 3) 1 41 := ⟨by decide +kernel, rfl⟩
theorem e_X2_insert_41 : Dc cX2_insert 41 (.aload_n 0) 1 42 := ⟨by decide +kernel, rfl⟩
theorem e_X2_insert_42 : Dc cX2_insert 42 (.getfield 16) 3 45 := ⟨by decide +kernel, rfl⟩
theorem e_X2_insert_45 : Dc cX2_insert 45 (.iload_n 3) 1 46 := ⟨by decide +kernel, rfl⟩
theorem e_X2_insert_46 : Dc cX2_insert 46 (.aload_n 0) 1 47 := ⟨by decide +kernel, rfl⟩
theorem e_X2_insert_47 : Dc cX2_insert 47 (.getfield 13) 3 50 := ⟨by decide +kernel, rfl⟩
theorem e_X2_insert_50 : Dc cX2_insert 50 (.iadd) 1 51 := ⟨by decide +kernel, rfl⟩
theorem e_X2_insert_51 : Dc cX2_insert 51 (.aload_n 0) 1 52 := ⟨by decide +kernel, rfl⟩
theorem e_X2_insert_52 : Dc cX2_insert 52 (.getfield 7) 3 55 := ⟨by decide +kernel, rfl⟩
theorem e_X2_insert_55 : Dc cX2_insert 55 (.iload_n 1) 1 56 := ⟨by decide +kernel, rfl⟩
theorem e_X2_insert_56 : Dc cX2_insert 56 (.isub) 1 57 := ⟨by decide +kernel, rfl⟩
theorem e_X2_insert_57 : Dc cX2_insert 57 (.aload_n 0) 1 58 := ⟨by decide +kernel, rfl⟩
theorem e_X2_insert_58 : Dc cX2_insert 58 (.getfield 13) 3 61 := ⟨by decide +kernel, rfl⟩
theorem e_X2_insert_61 : Dc cX2_insert 61 (.imul) 1 62 := ⟨by decide +kernel, rfl⟩
theorem e_X2_insert_62 : Dc cX2_insert 62 (.invokestatic 28) 3 65 := ⟨by decide +kernel, rfl⟩
theorem e_X2_insert_65 : Dc cX2_insert 65 (.aload_n 2) 1 66 := ⟨by decide +kernel, rfl⟩
theorem e_X2_insert_66 : Dc cX2_insert 66 (.iconst 0) 1 67 := ⟨by decide +kernel, rfl⟩
theorem e_X2_insert_67 : Dc cX2_insert 67 (.aload_n 0) 1 68 := ⟨by decide +kernel, rfl⟩
theorem e_X2_insert_68 : Dc cX2_insert 68 (.getfield 16) 3 71 := ⟨by decide +kernel, rfl⟩
theorem e_X2_insert_71 : Dc cX2_insert 71 (.iload_n 3) 1 72 := ⟨by decide +kernel, rfl⟩
theorem e_X2_insert_72 : Dc cX2_insert 72 (.aload_n 0) 1 73 := ⟨by decide +kernel, rfl⟩
theorem e_X2_insert_73 : Dc cX2_insert 73 (.getfield 13) 3 76 := ⟨by decide +kernel, rfl⟩
theorem e_X2_insert_76 : Dc cX2_insert 76 (.invokestatic 28) 3 79 := ⟨by decide +kernel, rfl⟩
theorem e_X2_insert_79 : Dc cX2_insert 79 (.aload_n 0) 1 80 := ⟨by decide +kernel, rfl⟩
theorem e_X2_insert_80 : Dc cX2_insert 80 (.dup) 1 81 := ⟨by decide +kernel, rfl⟩
theorem e_X2_insert_81 : Dc cX2_insert 81 (.getfield 7) 3 84 := ⟨by decide +kernel, rfl⟩
theorem e_X2_insert_84 : Dc cX2_insert 84 (.iconst 1) 1 85 := ⟨by decide +kernel, rfl⟩
theorem e_X2_insert_85 : Dc cX2_insert 85 (.iadd) 1 86 := ⟨by decide +kernel, rfl⟩
theorem e_X2_insert_86 : Dc cX2_insert 86 (.putfield 7) 3 89 := ⟨by decide +kernel, rfl⟩
theorem e_X2_insert_89 : Dc cX2_insert 89 (.return_) 1 90 := ⟨by decide +kernel, rfl⟩
set_option maxHeartbeats 4000000 in
set_option maxRecDepth 20000 in
theorem R_X2_insert (hD : DD E) (o : Nat) (x1 : Int32) (c2 : Nat) (ho : iRo o) (hc2 : iA c2) (s : Sg) : ∀ τ, (f_X2_insert o x1 c2 s) = some τ → RV l E 1 M_X2_insert [.ref (ead E o), .int x1, .ref (ead E c2)] s τ := by
  refine ofU hD (by decide +kernel) (Nat.le_of_ble_eq_true rfl) (fun X C => ?_)
  show MF l E X (fun q : Sg => QV E X q) (f_X2_insert o x1 c2 s) s 0 [(0, .ref (ead E o)), (1, .int x1), (2, .ref (ead E c2))] []
  unfold f_X2_insert
  refine MF.aload_n C e_X2_insert_0 0 rfl rfl ?_
  refine MF.callVP (As := []) C (R_X2_isFull hD o ho s) m_X2_isFull k_X2_24 (iRo.o ho) rfl (by decide) e_X2_insert_1 rfl rfl (Nat.le_of_ble_eq_true rfl) (fun v1 => ?_)
  refine MF.if_ne (tgt := 28) C e_X2_insert_4 (by decide) (fun _ => ?_) (fun _ => ?_)
  · exact MF.vret C e_X2_insert_28
  · refine MF.iload_n C e_X2_insert_7 1 rfl rfl ?_
    refine MF.if_lt (tgt := 28) C e_X2_insert_8 (by decide) (fun _ => ?_) (fun _ => ?_)
    · exact MF.vret C e_X2_insert_28
    · refine MF.iload_n C e_X2_insert_11 1 rfl rfl ?_
      refine MF.aload_n C e_X2_insert_12 0 rfl rfl ?_
      refine MF.get C cf_X2 l_X2_7 e_X2_insert_13 (iRo.f2 ho) ?_
      refine MF.icmp_gt (tgt := 28) C e_X2_insert_16 (by decide) (fun _ => ?_) (fun _ => ?_)
      · exact MF.vret C e_X2_insert_28
      · refine MF.aload_n C e_X2_insert_19 2 rfl rfl ?_
        refine MF.alenI C e_X2_insert_20 hc2 ?_
        refine MF.aload_n C e_X2_insert_21 0 rfl rfl ?_
        refine MF.get C cf_X2 l_X2_13 e_X2_insert_22 (iRo.f0 ho) ?_
        refine MF.icmp_ge (tgt := 29) C e_X2_insert_25 (by decide) (fun _ => ?_) (fun _ => ?_)
        · refine MF.iload_n C e_X2_insert_29 1 rfl rfl ?_
          refine MF.aload_n C e_X2_insert_30 0 rfl rfl ?_
          refine MF.get C cf_X2 l_X2_13 e_X2_insert_31 (iRo.f0 ho) ?_
          refine MF.imul C e_X2_insert_34 ?_
          refine MF.nmI (fun v2 => ?_)
          refine MF.istore_n (lv' := [(0, .ref (ead E o)), (1, .int x1), (2, .ref (ead E c2)), (3, .int v2)]) C e_X2_insert_35 (by decide) rfl ?_
          refine MF.aload_n C e_X2_insert_36 0 rfl rfl ?_
          refine MF.getR (j := (o + 1)) C cf_X2 l_X2_16 e_X2_insert_37 (iRo.f1 ho) ?_
          refine MF.iload_n C e_X2_insert_40 3 rfl rfl ?_
          refine MF.aload_n C e_X2_insert_41 0 rfl rfl ?_
          refine MF.getR (j := (o + 1)) C cf_X2 l_X2_16 e_X2_insert_42 (iRo.f1 ho) ?_
          refine MF.iload_n C e_X2_insert_45 3 rfl rfl ?_
          refine MF.aload_n C e_X2_insert_46 0 rfl rfl ?_
          refine MF.get C cf_X2 l_X2_13 e_X2_insert_47 (iRo.f0 ho) ?_
          refine MF.iadd C e_X2_insert_50 ?_
          refine MF.aload_n C e_X2_insert_51 0 rfl rfl ?_
          refine MF.get C cf_X2 l_X2_7 e_X2_insert_52 (iRo.f2 ho) ?_
          refine MF.iload_n C e_X2_insert_55 1 rfl rfl ?_
          refine MF.isub C e_X2_insert_56 ?_
          refine MF.aload_n C e_X2_insert_57 0 rfl rfl ?_
          refine MF.get C cf_X2 l_X2_13 e_X2_insert_58 (iRo.f0 ho) ?_
          refine MF.imul C e_X2_insert_61 ?_
          refine MF.copy C k_X2_28 e_X2_insert_62 (iRo.a ho) (iRo.a ho) (by decide) (Nat.le_of_ble_eq_true rfl) (fun s3 => ?_)
          refine MF.aload_n C e_X2_insert_65 2 rfl rfl ?_
          refine MF.iconst (v := (0 : Int32)) C e_X2_insert_66 rfl ?_
          refine MF.aload_n C e_X2_insert_67 0 rfl rfl ?_
          refine MF.getR (j := (o + 1)) C cf_X2 l_X2_16 e_X2_insert_68 (iRo.f1 ho) ?_
          refine MF.iload_n C e_X2_insert_71 3 rfl rfl ?_
          refine MF.aload_n C e_X2_insert_72 0 rfl rfl ?_
          refine MF.get C cf_X2 l_X2_13 e_X2_insert_73 (iRo.f0 ho) ?_
          refine MF.copy C k_X2_28 e_X2_insert_76 hc2 (iRo.a ho) (by decide) (Nat.le_of_ble_eq_true rfl) (fun s4 => ?_)
          refine MF.aload_n C e_X2_insert_79 0 rfl rfl ?_
          refine MF.dup C e_X2_insert_80 rfl ?_
          refine MF.get C cf_X2 l_X2_7 e_X2_insert_81 (iRo.f2 ho) ?_
          refine MF.iconst (v := (1 : Int32)) C e_X2_insert_84 rfl ?_
          refine MF.iadd C e_X2_insert_85 ?_
          refine MF.put C cf_X2 l_X2_7 p_X2_2 e_X2_insert_86 (iRo.f2 ho) rfl ?_
          refine MF.nmS (fun s5 => ?_)
          exact MF.vret C e_X2_insert_89
        · exact MF.vret C e_X2_insert_28
theorem e_X0_planEvent_0 : Dc cX0_planEvent 0 (.aload_n 0) 1 1 := ⟨by decide +kernel, rfl⟩
theorem e_X0_planEvent_1 : Dc cX0_planEvent 1 (.getfield 20) 3 4 := ⟨by decide +kernel, rfl⟩
theorem e_X0_planEvent_4 : Dc cX0_planEvent 4 (.iconst 0) 1 5 := ⟨by decide +kernel, rfl⟩
theorem e_X0_planEvent_5 : Dc cX0_planEvent 5 (.aload_n 1) 1 6 := ⟨by decide +kernel, rfl⟩
theorem e_X0_planEvent_6 : Dc cX0_planEvent 6 (.getfield 65) 3 9 := ⟨by decide +kernel, rfl⟩
theorem e_X0_planEvent_9 : Dc cX0_planEvent 9 (.iload_n 2) 1 10 := ⟨by decide +kernel, rfl⟩
theorem e_X0_planEvent_10 : Dc cX0_planEvent 10 (.iconst 2) 1 11 := ⟨by decide +kernel, rfl⟩
theorem e_X0_planEvent_11 : Dc cX0_planEvent 11 (.invokevirtual 58) 3 14 := ⟨by decide +kernel, rfl⟩
theorem e_X0_planEvent_14 : Dc cX0_planEvent 14 (.iastore) 1 15 := ⟨by decide +kernel, rfl⟩
theorem e_X0_planEvent_15 : Dc cX0_planEvent 15 (.aload_n 0) 1 16 := ⟨by decide +kernel, rfl⟩
theorem e_X0_planEvent_16 : Dc cX0_planEvent 16 (.getfield 20) 3 19 := ⟨by decide +kernel, rfl⟩
theorem e_X0_planEvent_19 : Dc cX0_planEvent 19 (.iconst 1) 1 20 := ⟨by decide +kernel, rfl⟩
theorem e_X0_planEvent_20 : Dc cX0_planEvent 20 (.aload_n 1) 1 21 := ⟨by decide +kernel, rfl⟩
theorem e_X0_planEvent_21 : Dc cX0_planEvent 21 (.iload_n 2) 1 22 := ⟨by decide +kernel, rfl⟩
theorem e_X0_planEvent_22 : Dc cX0_planEvent 22 (.invokevirtual 76) 3 25 := ⟨by decide +kernel, rfl⟩
theorem e_X0_planEvent_25 : Dc cX0_planEvent 25 (.iastore) 1 26 := ⟨by decide +kernel, rfl⟩
theorem e_X0_planEvent_26 : Dc cX0_planEvent 26 (.aload_n 0) 1 27 := ⟨by decide +kernel, rfl⟩
theorem e_X0_planEvent_27 : Dc cX0_planEvent 27 (.getfield 20) 3 30 := ⟨by decide +kernel, rfl⟩
theorem e_X0_planEvent_30 : Dc cX0_planEvent 30 (.iconst 2) 1 31 := ⟨by decide +kernel, rfl⟩
theorem e_X0_planEvent_31 : Dc cX0_planEvent 31 (.aload_n 1) 1 32 := ⟨by decide +kernel, rfl⟩
theorem e_X0_planEvent_32 : Dc cX0_planEvent 32 (.getfield 65) 3 35 := ⟨by decide +kernel, rfl⟩
theorem e_X0_planEvent_35 : Dc cX0_planEvent 35 (.iload_n 2) 1 36 := ⟨by decide +kernel, rfl⟩
theorem e_X0_planEvent_36 : Dc cX0_planEvent 36 (.iconst 5) 1 37 := ⟨by decide +kernel, rfl⟩
theorem e_X0_planEvent_37 : Dc cX0_planEvent 37 (.invokevirtual 58) 3 40 := ⟨by decide +kernel, rfl⟩
theorem e_X0_planEvent_40 : Dc cX0_planEvent 40 (.iastore) 1 41 := ⟨by decide +kernel, rfl⟩
theorem e_X0_planEvent_41 : Dc cX0_planEvent 41 (.aload_n 0) 1 42 := ⟨by decide +kernel, rfl⟩
theorem e_X0_planEvent_42 : Dc cX0_planEvent 42 (.getfield 20) 3 45 := ⟨by decide +kernel, rfl⟩
theorem e_X0_planEvent_45 : Dc cX0_planEvent 45 (.iconst 3) 1 46 := ⟨by decide +kernel, rfl⟩
theorem e_X0_planEvent_46 : Dc cX0_planEvent 46 (.aload_n 1) 1 47 := ⟨by decide +kernel, rfl⟩
theorem e_X0_planEvent_47 : Dc cX0_planEvent 47 (.iload_n 2) 1 48 := ⟨by decide +kernel, rfl⟩
theorem e_X0_planEvent_48 : Dc cX0_planEvent 48 (.invokevirtual 80) 3 51 := ⟨by decide +kernel, rfl⟩
theorem e_X0_planEvent_51 : Dc cX0_planEvent 51 (.iastore) 1 52 := ⟨by decide +kernel, rfl⟩
theorem e_X0_planEvent_52 : Dc cX0_planEvent 52 (.aload_n 0) 1 53 := ⟨by decide +kernel, rfl⟩
theorem e_X0_planEvent_53 : Dc cX0_planEvent 53 (.getfield 20) 3 56 := ⟨by decide +kernel, rfl⟩
theorem e_X0_planEvent_56 : Dc cX0_planEvent 56 (.iconst 4) 1 57 := ⟨by decide +kernel, rfl⟩
theorem e_X0_planEvent_57 : Dc cX0_planEvent 57 (.aload_n 0) 1 58 := ⟨by decide +kernel, rfl⟩
theorem e_X0_planEvent_58 : Dc cX0_planEvent 58 (.getfield 20) 3 61 := ⟨by decide +kernel, rfl⟩
theorem e_X0_planEvent_61 : Dc cX0_planEvent 61 (.iconst 0) 1 62 := ⟨by decide +kernel, rfl⟩
theorem e_X0_planEvent_62 : Dc cX0_planEvent 62 (.iaload) 1 63 := ⟨by decide +kernel, rfl⟩
theorem e_X0_planEvent_63 : Dc cX0_planEvent 63 (.aload_n 1) 1 64 := ⟨by decide +kernel, rfl⟩
theorem e_X0_planEvent_64 : Dc cX0_planEvent 64 (.iload_n 2) 1 65 := ⟨by decide +kernel, rfl⟩
theorem e_X0_planEvent_65 : Dc cX0_planEvent 65 (.invokevirtual 83) 3 68 := ⟨by decide +kernel, rfl⟩
theorem e_X0_planEvent_68 : Dc cX0_planEvent 68 (.iadd) 1 69 := ⟨by decide +kernel, rfl⟩
theorem e_X0_planEvent_69 : Dc cX0_planEvent 69 (.iastore) 1 70 := ⟨by decide +kernel, rfl⟩
theorem e_X0_planEvent_70 : Dc cX0_planEvent 70 (.aload_n 0) 1 71 := ⟨by decide +kernel, rfl⟩
theorem e_X0_planEvent_71 : Dc cX0_planEvent 71 (.getfield 20) 3 74 := ⟨by decide +kernel, rfl⟩
theorem e_X0_planEvent_74 : Dc cX0_planEvent 74 (.iconst 5) 1 75 := ⟨by decide +kernel, rfl⟩
theorem e_X0_planEvent_75 : Dc cX0_planEvent 75 (.iconst 1) 1 76 := ⟨by decide +kernel, rfl⟩
theorem e_X0_planEvent_76 : Dc cX0_planEvent 76 (.iload_n 2) 1 77 := ⟨by decide +kernel, rfl⟩
theorem e_X0_planEvent_77 : Dc cX0_planEvent 77 (.ishl) 1 78 := ⟨by decide +kernel, rfl⟩
theorem e_X0_planEvent_78 : Dc cX0_planEvent 78 (.iastore) 1 79 := ⟨by decide +kernel, rfl⟩
theorem e_X0_planEvent_79 : Dc cX0_planEvent 79 (.aload_n 0) 1 80 := ⟨by decide +kernel, rfl⟩
theorem e_X0_planEvent_80 : Dc cX0_planEvent 80 (.getfield 16) 3 83 := ⟨by decide +kernel, rfl⟩
theorem e_X0_planEvent_83 : Dc cX0_planEvent 83 (.aload_n 0) 1 84 := ⟨by decide +kernel, rfl⟩
theorem e_X0_planEvent_84 : Dc cX0_planEvent 84 (.aload_n 0) 1 85 := ⟨by decide +kernel, rfl⟩
theorem e_X0_planEvent_85 : Dc cX0_planEvent 85 (.getfield 20) 3 88 := ⟨by decide +kernel, rfl⟩
theorem e_X0_planEvent_88 : Dc cX0_planEvent 88 (.iconst 0) 1 89 := ⟨by decide +kernel, rfl⟩
theorem e_X0_planEvent_89 : Dc cX0_planEvent 89 (.iaload) 1 90 := ⟨by decide +kernel, rfl⟩
theorem e_X0_planEvent_90 : Dc cX0_planEvent 90 (.invokevirtual 86) 3 93 := ⟨by decide +kernel, rfl⟩
theorem e_X0_planEvent_93 : Dc cX0_planEvent 93 (.aload_n 0) 1 94 := ⟨by decide +kernel, rfl⟩
theorem e_X0_planEvent_94 : Dc cX0_planEvent 94 (.getfield 20) 3 97 := ⟨by decide +kernel, rfl⟩
theorem e_X0_planEvent_97 : Dc cX0_planEvent 97 (.invokevirtual 89) 3 100 := ⟨by decide +kernel, rfl⟩
theorem e_X0_planEvent_100 : Dc cX0_planEvent 100 (.return_) 1 101 := ⟨by decide +kernel, rfl⟩
set_option maxHeartbeats 4000000 in
set_option maxRecDepth 20000 in
theorem R_X0_planEvent (hD : DD E) (t1 : Nat) (x2 : Int32) (ht1 : iTo t1) (s : Sg) : ∀ τ, (f_X0_planEvent t1 x2 s) = some τ → RV l E 3 M_X0_planEvent [.ref (ead E 52), .ref (ead E t1), .int x2] s τ := by
  refine ofU hD (by decide +kernel) (Nat.le_of_ble_eq_true rfl) (fun X C => ?_)
  show MF l E X (fun q : Sg => QV E X q) (f_X0_planEvent t1 x2 s) s 0 [(0, .ref (ead E 52)), (1, .ref (ead E t1)), (2, .int x2)] []
  unfold f_X0_planEvent
  refine MF.aload_n C e_X0_planEvent_0 0 rfl rfl ?_
  refine MF.getR (j := 55) C cf_X0 l_X0_20 e_X0_planEvent_1 kF_52_1 ?_
  refine MF.iconst (v := (0 : Int32)) C e_X0_planEvent_4 rfl ?_
  refine MF.aload_n C e_X0_planEvent_5 1 rfl rfl ?_
  refine MF.getRN (j := (t1 + 3)) C cf_X5 l_X0_65 e_X0_planEvent_6 (iTo.f1 ht1) ?_
  refine MF.iload_n C e_X0_planEvent_9 2 rfl rfl ?_
  refine MF.iconst (v := (2 : Int32)) C e_X0_planEvent_10 rfl ?_
  refine MF.callVP (As := [.int x2, .int (2 : Int32)]) C (R_X2_cell hD (t1 + 3) x2 (2 : Int32) (iTo.o1 ht1) s) m_X2_cell k_X0_58 (iRo.o (iTo.o1 ht1)) rfl (by decide) e_X0_planEvent_11 rfl rfl (Nat.le_of_ble_eq_true rfl) (fun v1 => ?_)
  refine MF.iast C e_X0_planEvent_14 kA_55 (fun s2 => ?_)
  refine MF.aload_n C e_X0_planEvent_15 0 rfl rfl ?_
  refine MF.getR (j := 55) C cf_X0 l_X0_20 e_X0_planEvent_16 kF_52_1 ?_
  refine MF.iconst (v := (1 : Int32)) C e_X0_planEvent_19 rfl ?_
  refine MF.aload_n C e_X0_planEvent_20 1 rfl rfl ?_
  refine MF.iload_n C e_X0_planEvent_21 2 rfl rfl ?_
  refine MF.callVP (As := [.int x2]) C (R_X5_streetsOf hD t1 x2 ht1 s2) m_X5_streetsOf k_X0_76 (iTo.o ht1) rfl (by decide) e_X0_planEvent_22 rfl rfl (Nat.le_of_ble_eq_true rfl) (fun v3 => ?_)
  refine MF.iast C e_X0_planEvent_25 kA_55 (fun s4 => ?_)
  refine MF.aload_n C e_X0_planEvent_26 0 rfl rfl ?_
  refine MF.getR (j := 55) C cf_X0 l_X0_20 e_X0_planEvent_27 kF_52_1 ?_
  refine MF.iconst (v := (2 : Int32)) C e_X0_planEvent_30 rfl ?_
  refine MF.aload_n C e_X0_planEvent_31 1 rfl rfl ?_
  refine MF.getRN (j := (t1 + 3)) C cf_X5 l_X0_65 e_X0_planEvent_32 (iTo.f1 ht1) ?_
  refine MF.iload_n C e_X0_planEvent_35 2 rfl rfl ?_
  refine MF.iconst (v := (5 : Int32)) C e_X0_planEvent_36 rfl ?_
  refine MF.callVP (As := [.int x2, .int (5 : Int32)]) C (R_X2_cell hD (t1 + 3) x2 (5 : Int32) (iTo.o1 ht1) s4) m_X2_cell k_X0_58 (iRo.o (iTo.o1 ht1)) rfl (by decide) e_X0_planEvent_37 rfl rfl (Nat.le_of_ble_eq_true rfl) (fun v5 => ?_)
  refine MF.iast C e_X0_planEvent_40 kA_55 (fun s6 => ?_)
  refine MF.aload_n C e_X0_planEvent_41 0 rfl rfl ?_
  refine MF.getR (j := 55) C cf_X0 l_X0_20 e_X0_planEvent_42 kF_52_1 ?_
  refine MF.iconst (v := (3 : Int32)) C e_X0_planEvent_45 rfl ?_
  refine MF.aload_n C e_X0_planEvent_46 1 rfl rfl ?_
  refine MF.iload_n C e_X0_planEvent_47 2 rfl rfl ?_
  refine MF.callVP (As := [.int x2]) C (R_X5_rankGiven hD t1 x2 ht1 s6) m_X5_rankGiven k_X0_80 (iTo.o ht1) rfl (by decide) e_X0_planEvent_48 rfl rfl (Nat.le_of_ble_eq_true rfl) (fun v7 => ?_)
  refine MF.iast C e_X0_planEvent_51 kA_55 (fun s8 => ?_)
  refine MF.aload_n C e_X0_planEvent_52 0 rfl rfl ?_
  refine MF.getR (j := 55) C cf_X0 l_X0_20 e_X0_planEvent_53 kF_52_1 ?_
  refine MF.iconst (v := (4 : Int32)) C e_X0_planEvent_56 rfl ?_
  refine MF.aload_n C e_X0_planEvent_57 0 rfl rfl ?_
  refine MF.getR (j := 55) C cf_X0 l_X0_20 e_X0_planEvent_58 kF_52_1 ?_
  refine MF.iconst (v := (0 : Int32)) C e_X0_planEvent_61 rfl ?_
  refine MF.iald C e_X0_planEvent_62 kA_55 (fun v9 => ?_)
  refine MF.aload_n C e_X0_planEvent_63 1 rfl rfl ?_
  refine MF.iload_n C e_X0_planEvent_64 2 rfl rfl ?_
  refine MF.callVP (As := [.int x2]) C (R_X5_hoursGiven hD t1 x2 ht1 s8) m_X5_hoursGiven k_X0_83 (iTo.o ht1) rfl (by decide) e_X0_planEvent_65 rfl rfl (Nat.le_of_ble_eq_true rfl) (fun v10 => ?_)
  refine MF.iadd C e_X0_planEvent_68 ?_
  refine MF.iast C e_X0_planEvent_69 kA_55 (fun s11 => ?_)
  refine MF.aload_n C e_X0_planEvent_70 0 rfl rfl ?_
  refine MF.getR (j := 55) C cf_X0 l_X0_20 e_X0_planEvent_71 kF_52_1 ?_
  refine MF.iconst (v := (5 : Int32)) C e_X0_planEvent_74 rfl ?_
  refine MF.iconst (v := (1 : Int32)) C e_X0_planEvent_75 rfl ?_
  refine MF.iload_n C e_X0_planEvent_76 2 rfl rfl ?_
  refine MF.ishl C e_X0_planEvent_77 ?_
  refine MF.iast C e_X0_planEvent_78 kA_55 (fun s12 => ?_)
  refine MF.aload_n C e_X0_planEvent_79 0 rfl rfl ?_
  refine MF.getR (j := 53) C cf_X0 l_X0_16 e_X0_planEvent_80 kF_52_0 ?_
  refine MF.aload_n C e_X0_planEvent_83 0 rfl rfl ?_
  refine MF.aload_n C e_X0_planEvent_84 0 rfl rfl ?_
  refine MF.getR (j := 55) C cf_X0 l_X0_20 e_X0_planEvent_85 kF_52_1 ?_
  refine MF.iconst (v := (0 : Int32)) C e_X0_planEvent_88 rfl ?_
  refine MF.iald C e_X0_planEvent_89 kA_55 (fun v13 => ?_)
  refine MF.callVP (As := [.int v13]) C (R_X0_placeBehind hD v13 s12) m_X0_placeBehind k_X0_86 kO_52 rfl (by decide) e_X0_planEvent_90 rfl rfl (Nat.le_of_ble_eq_true rfl) (fun v14 => ?_)
  refine MF.aload_n C e_X0_planEvent_93 0 rfl rfl ?_
  refine MF.getR (j := 55) C cf_X0 l_X0_20 e_X0_planEvent_94 kF_52_1 ?_
  refine MF.callVU (As := [.int v14, .ref (ead E 55)]) C (R_X2_insert hD 53 v14 55 kR_53 kA_55 s12) m_X2_insert k_X0_89 (iRo.o kR_53) rfl (by decide) e_X0_planEvent_97 rfl rfl (Nat.le_of_ble_eq_true rfl) (fun s15 => ?_)
  exact MF.vret C e_X0_planEvent_100
theorem e_X0_plan_0 : Dc cX0_plan 0 (.aload_n 0) 1 1 := ⟨by decide +kernel, rfl⟩
theorem e_X0_plan_1 : Dc cX0_plan 1 (.aload_n 1) 1 2 := ⟨by decide +kernel, rfl⟩
theorem e_X0_plan_2 : Dc cX0_plan 2 (.getfield 49) 3 5 := ⟨by decide +kernel, rfl⟩
theorem e_X0_plan_5 : Dc cX0_plan 5 (.putfield 43) 3 8 := ⟨by decide +kernel, rfl⟩
theorem e_X0_plan_8 : Dc cX0_plan 8 (.aload_n 0) 1 9 := ⟨by decide +kernel, rfl⟩
theorem e_X0_plan_9 : Dc cX0_plan 9 (.aload_n 1) 1 10 := ⟨by decide +kernel, rfl⟩
theorem e_X0_plan_10 : Dc cX0_plan 10 (.getfield 52) 3 13 := ⟨by decide +kernel, rfl⟩
theorem e_X0_plan_13 : Dc cX0_plan 13 (.invokevirtual 54) 3 16 := ⟨by decide +kernel, rfl⟩
theorem e_X0_plan_16 : Dc cX0_plan 16 (.putfield 39) 3 19 := ⟨by decide +kernel, rfl⟩
theorem e_X0_plan_19 : Dc cX0_plan 19 (.iconst 0) 1 20 := ⟨by decide +kernel, rfl⟩
theorem e_X0_plan_20 : Dc cX0_plan 20 (.istore_n 2) 1 21 := ⟨by decide +kernel, rfl⟩
theorem e_X0_plan_21 : Dc cX0_plan 21 (.iload_n 2) 1 22 := ⟨by decide +kernel, rfl⟩
theorem e_X0_plan_22 : Dc cX0_plan 22 (.aload_n 0) 1 23 := ⟨by decide +kernel, rfl⟩
theorem e_X0_plan_23 : Dc cX0_plan 23 (.getfield 39) 3 26 := ⟨by decide +kernel, rfl⟩
theorem e_X0_plan_26 : Dc cX0_plan 26 (.if_icmp .ge 24) 3 29 := ⟨by decide +kernel, rfl⟩
theorem e_X0_plan_29 : Dc cX0_plan 29 (.aload_n 0) 1 30 := ⟨by decide +kernel, rfl⟩
theorem e_X0_plan_30 : Dc cX0_plan 30 (.getfield 24) 3 33 := ⟨by decide +kernel, rfl⟩
theorem e_X0_plan_33 : Dc cX0_plan 33 (.iload_n 2) 1 34 := ⟨by decide +kernel, rfl⟩
theorem e_X0_plan_34 : Dc cX0_plan 34 (.aload_n 1) 1 35 := ⟨by decide +kernel, rfl⟩
theorem e_X0_plan_35 : Dc cX0_plan 35 (.getfield 52) 3 38 := ⟨by decide +kernel, rfl⟩
theorem e_X0_plan_38 : Dc cX0_plan 38 (.iload_n 2) 1 39 := ⟨by decide +kernel, rfl⟩
theorem e_X0_plan_39 : Dc cX0_plan 39 (.iconst 3) 1 40 := ⟨by decide +kernel, rfl⟩
theorem e_X0_plan_40 : Dc cX0_plan 40 (.invokevirtual 58) 3 43 := ⟨by decide +kernel, rfl⟩
theorem e_X0_plan_43 : Dc cX0_plan 43 (.iastore) 1 44 := ⟨by decide +kernel, rfl⟩
theorem e_X0_plan_44 : Dc cX0_plan 44 (.iinc 2 1) 3 47 := ⟨by decide +kernel, rfl⟩
theorem e_X0_plan_47 : Dc cX0_plan 47 (.goto (-26)) 3 50 := ⟨by decide +kernel, rfl⟩
theorem e_X0_plan_50 : Dc cX0_plan 50 (.aload_n 0) 1 51 := ⟨by decide +kernel, rfl⟩
theorem e_X0_plan_51 : Dc cX0_plan 51 (.getfield 16) 3 54 := ⟨by decide +kernel, rfl⟩
theorem e_X0_plan_54 : Dc cX0_plan 54 (.invokevirtual 62) 3 57 := ⟨by decide +kernel, rfl⟩
theorem e_X0_plan_57 : Dc cX0_plan 57 (.iconst 0) 1 58 := ⟨by decide +kernel, rfl⟩
theorem e_X0_plan_58 : Dc cX0_plan 58 (.istore_n 2) 1 59 := ⟨by decide +kernel, rfl⟩
theorem e_X0_plan_59 : Dc cX0_plan 59 (.iload_n 2) 1 60 := ⟨by decide +kernel, rfl⟩
theorem e_X0_plan_60 : Dc cX0_plan 60 (.aload_n 1) 1 61 := ⟨by decide +kernel, rfl⟩
theorem e_X0_plan_61 : Dc cX0_plan 61 (.getfield 65) 3 64 := ⟨by decide +kernel, rfl⟩
theorem e_X0_plan_64 : Dc cX0_plan 64 (.invokevirtual 54) 3 67 := ⟨by decide +kernel, rfl⟩
theorem e_X0_plan_67 : Dc cX0_plan 67 (.if_icmp .ge 23) 3 70 := ⟨by decide +kernel, rfl⟩
theorem e_X0_plan_70 : Dc cX0_plan 70 (.aload_n 1) 1 71 := ⟨by decide +kernel, rfl⟩
theorem e_X0_plan_71 : Dc cX0_plan 71 (.iload_n 2) 1 72 := ⟨by decide +kernel, rfl⟩
theorem e_X0_plan_72 : Dc cX0_plan 72 (.invokevirtual 68) 3 75 := ⟨by decide +kernel, rfl⟩
theorem e_X0_plan_75 : Dc cX0_plan 75 (.ifCond .eq 9) 3 78 := ⟨by decide +kernel, rfl⟩
theorem e_X0_plan_78 : Dc cX0_plan 78 (.aload_n 0) 1 79 := ⟨by decide +kernel, rfl⟩
theorem e_X0_plan_79 : Dc cX0_plan 79 (.aload_n 1) 1 80 := ⟨by decide +kernel, rfl⟩
theorem e_X0_plan_80 : Dc cX0_plan 80 (.iload_n 2) 1 81 := ⟨by decide +kernel, rfl⟩
theorem e_X0_plan_81 : Dc cX0_plan 81 (.invokevirtual 72) 3 84 := ⟨by decide +kernel, rfl⟩
theorem e_X0_plan_84 : Dc cX0_plan 84 (.iinc 2 1) 3 87 := ⟨by decide +kernel, rfl⟩
theorem e_X0_plan_87 : Dc cX0_plan 87 (.goto (-28)) 3 90 := ⟨by decide +kernel, rfl⟩
theorem e_X0_plan_90 : Dc cX0_plan 90 (.return_) 1 91 := ⟨by decide +kernel, rfl⟩
set_option maxHeartbeats 4000000 in
set_option maxRecDepth 20000 in
theorem R_X0_plan (hD : DD E) (t1 : Nat) (ht1 : iTo t1) (s : Sg) : ∀ τ, (f_X0_plan t1 s) = some τ → RV l E 4 M_X0_plan [.ref (ead E 52), .ref (ead E t1)] s τ := by
  refine ofU hD (by decide +kernel) (Nat.le_of_ble_eq_true rfl) (fun X C => ?_)
  show MF l E X (fun q : Sg => QV E X q) (f_X0_plan t1 s) s 0 [(0, .ref (ead E 52)), (1, .ref (ead E t1))] []
  unfold f_X0_plan
  refine MF.aload_n C e_X0_plan_0 0 rfl rfl ?_
  refine MF.aload_n C e_X0_plan_1 1 rfl rfl ?_
  refine MF.getN C cf_X5 l_X0_49 e_X0_plan_2 (iTo.f7 ht1) ?_
  refine MF.put C cf_X0 l_X0_43 p_X0_8 e_X0_plan_5 kF_52_8 rfl ?_
  refine MF.nmS (fun s1 => ?_)
  refine MF.aload_n C e_X0_plan_8 0 rfl rfl ?_
  refine MF.aload_n C e_X0_plan_9 1 rfl rfl ?_
  refine MF.getRN (j := (t1 + 1)) C cf_X5 l_X0_52 e_X0_plan_10 (iTo.f0 ht1) ?_
  refine MF.callVP (As := []) C (R_X2_size hD (t1 + 1) (iTo.o0 ht1) s1) m_X2_size k_X0_54 (iRo.o (iTo.o0 ht1)) rfl (by decide) e_X0_plan_13 rfl rfl (Nat.le_of_ble_eq_true rfl) (fun v2 => ?_)
  refine MF.put C cf_X0 l_X0_39 p_X0_7 e_X0_plan_16 kF_52_7 rfl ?_
  refine MF.nmS (fun s3 => ?_)
  refine MF.iconst (v := (0 : Int32)) C e_X0_plan_19 rfl ?_
  refine MF.istore_n (lv' := [(0, .ref (ead E 52)), (1, .ref (ead E t1)), (2, .int (0 : Int32))]) C e_X0_plan_20 (by decide) rfl ?_
  refine MF.join (fun j : Sg → Option Sg => ∀ (s4 : Sg), MF l E X (fun q : Sg => QV E X q) (j s4) s4 50 [(0, .ref (ead E 52)), (1, .ref (ead E t1))] []) ?_ (fun j5 hj5 => ?_)
  · intro s4
    refine MF.aload_n C e_X0_plan_50 0 rfl rfl ?_
    refine MF.getR (j := 53) C cf_X0 l_X0_16 e_X0_plan_51 kF_52_0 ?_
    refine MF.callVU (As := []) C (R_X2_empty hD 53 kR_53 s4) m_X2_empty k_X0_62 (iRo.o kR_53) rfl (by decide) e_X0_plan_54 rfl rfl (Nat.le_of_ble_eq_true rfl) (fun s6 => ?_)
    refine MF.iconst (v := (0 : Int32)) C e_X0_plan_57 rfl ?_
    refine MF.istore_n (lv' := [(0, .ref (ead E 52)), (1, .ref (ead E t1)), (2, .int (0 : Int32))]) C e_X0_plan_58 (by decide) rfl ?_
    refine MF.loop2 (fun i7 s8 => s8) (fun i7 s8 => [(0, .ref (ead E 52)), (1, .ref (ead E t1)), (2, .int i7)]) (fun self9 hself9 i7 s8 => ?_) fu (0 : Int32) s6
    unfold b_X0_plan_59
    refine MF.iload_n C e_X0_plan_59 2 rfl rfl ?_
    refine MF.aload_n C e_X0_plan_60 1 rfl rfl ?_
    refine MF.getRN (j := (t1 + 3)) C cf_X5 l_X0_65 e_X0_plan_61 (iTo.f1 ht1) ?_
    refine MF.callVP (As := []) C (R_X2_size hD (t1 + 3) (iTo.o1 ht1) s8) m_X2_size k_X0_54 (iRo.o (iTo.o1 ht1)) rfl (by decide) e_X0_plan_64 rfl rfl (Nat.le_of_ble_eq_true rfl) (fun v10 => ?_)
    refine MF.icmp_ge (tgt := 90) C e_X0_plan_67 (by decide) (fun _ => ?_) (fun _ => ?_)
    · exact MF.vret C e_X0_plan_90
    · refine MF.aload_n C e_X0_plan_70 1 rfl rfl ?_
      refine MF.iload_n C e_X0_plan_71 2 rfl rfl ?_
      refine MF.callVP (As := [.int i7]) C (R_X5_isSeenByEnough hD t1 i7 ht1 s8) m_X5_isSeenByEnough k_X0_68 (iTo.o ht1) rfl (by decide) e_X0_plan_72 rfl rfl (Nat.le_of_ble_eq_true rfl) (fun v11 => ?_)
      refine MF.join (fun j : Sg → Option Sg => ∀ (s12 : Sg), MF l E X (fun q : Sg => QV E X q) (j s12) s12 84 [(0, .ref (ead E 52)), (1, .ref (ead E t1)), (2, .int i7)] []) ?_ (fun j13 hj13 => ?_)
      · intro s12
        refine MF.iinc (v := (1 : Int32)) (lv' := [(0, .ref (ead E 52)), (1, .ref (ead E t1)), (2, .int (i7 + (1 : Int32)))]) C e_X0_plan_84 2 rfl rfl (by decide) rfl ?_
        refine MF.goto (tgt := 59) C e_X0_plan_87 (by decide) ?_
        exact hself9 (i7 + (1 : Int32)) s12
      refine MF.if_eq (tgt := 84) C e_X0_plan_75 (by decide) (fun _ => ?_) (fun _ => ?_)
      · exact hj13 s8
      · refine MF.aload_n C e_X0_plan_78 0 rfl rfl ?_
        refine MF.aload_n C e_X0_plan_79 1 rfl rfl ?_
        refine MF.iload_n C e_X0_plan_80 2 rfl rfl ?_
        refine MF.callVU (As := [.ref (ead E t1), .int i7]) C (R_X0_planEvent hD t1 i7 ht1 s8) m_X0_planEvent k_X0_72 kO_52 rfl (by decide) e_X0_plan_81 rfl rfl (Nat.le_of_ble_eq_true rfl) (fun s14 => ?_)
        exact hj13 s14
  refine MF.loop2 (fun i15 s16 => s16) (fun i15 s16 => [(0, .ref (ead E 52)), (1, .ref (ead E t1)), (2, .int i15)]) (fun self17 hself17 i15 s16 => ?_) fu (0 : Int32) s3
  unfold b_X0_plan_21
  refine MF.iload_n C e_X0_plan_21 2 rfl rfl ?_
  refine MF.aload_n C e_X0_plan_22 0 rfl rfl ?_
  refine MF.get C cf_X0 l_X0_39 e_X0_plan_23 kF_52_7 ?_
  refine MF.icmp_ge (tgt := 50) C e_X0_plan_26 (by decide) (fun _ => ?_) (fun _ => ?_)
  · refine MF.sub [0, 1] rfl ?_
    exact hj5 s16
  · refine MF.aload_n C e_X0_plan_29 0 rfl rfl ?_
    refine MF.getR (j := 56) C cf_X0 l_X0_24 e_X0_plan_30 kF_52_2 ?_
    refine MF.iload_n C e_X0_plan_33 2 rfl rfl ?_
    refine MF.aload_n C e_X0_plan_34 1 rfl rfl ?_
    refine MF.getRN (j := (t1 + 1)) C cf_X5 l_X0_52 e_X0_plan_35 (iTo.f0 ht1) ?_
    refine MF.iload_n C e_X0_plan_38 2 rfl rfl ?_
    refine MF.iconst (v := (3 : Int32)) C e_X0_plan_39 rfl ?_
    refine MF.callVP (As := [.int i15, .int (3 : Int32)]) C (R_X2_cell hD (t1 + 1) i15 (3 : Int32) (iTo.o0 ht1) s16) m_X2_cell k_X0_58 (iRo.o (iTo.o0 ht1)) rfl (by decide) e_X0_plan_40 rfl rfl (Nat.le_of_ble_eq_true rfl) (fun v18 => ?_)
    refine MF.iast C e_X0_plan_43 kA_56 (fun s19 => ?_)
    refine MF.iinc (v := (1 : Int32)) (lv' := [(0, .ref (ead E 52)), (1, .ref (ead E t1)), (2, .int (i15 + (1 : Int32)))]) C e_X0_plan_44 2 rfl rfl (by decide) rfl ?_
    refine MF.goto (tgt := 21) C e_X0_plan_47 (by decide) ?_
    exact hself17 (i15 + (1 : Int32)) s19
theorem e_X0_addStaged_0 : Dc cX0_addStaged 0 (.aload_n 0) 1 1 := ⟨by decide +kernel, rfl⟩
theorem e_X0_addStaged_1 : Dc cX0_addStaged 1 (.iload_n 3) 1 2 := ⟨by decide +kernel, rfl⟩
theorem e_X0_addStaged_2 : Dc cX0_addStaged 2 (.invokevirtual 86) 3 5 := ⟨by decide +kernel, rfl⟩
theorem e_X0_addStaged_5 : Dc cX0_addStaged 5 (.istore 4) 2 7 := ⟨by decide +kernel, rfl⟩
theorem e_X0_addStaged_7 : Dc cX0_addStaged 7 (.aload_n 0) 1 8 := ⟨by decide +kernel, rfl⟩
theorem e_X0_addStaged_8 : Dc cX0_addStaged 8 (.getfield 20) 3 11 := ⟨by decide +kernel, rfl⟩
theorem e_X0_addStaged_11 : Dc cX0_addStaged 11 (.iconst 0) 1 12 := ⟨by decide +kernel, rfl⟩
theorem e_X0_addStaged_12 : Dc cX0_addStaged 12 (.iload_n 3) 1 13 := ⟨by decide +kernel, rfl⟩
theorem e_X0_addStaged_13 : Dc cX0_addStaged 13 (.iastore) 1 14 := ⟨by decide +kernel, rfl⟩
theorem e_X0_addStaged_14 : Dc cX0_addStaged 14 (.aload_n 0) 1 15 := ⟨by decide +kernel, rfl⟩
theorem e_X0_addStaged_15 : Dc cX0_addStaged 15 (.getfield 20) 3 18 := ⟨by decide +kernel, rfl⟩
theorem e_X0_addStaged_18 : Dc cX0_addStaged 18 (.iconst 1) 1 19 := ⟨by decide +kernel, rfl⟩
theorem e_X0_addStaged_19 : Dc cX0_addStaged 19 (.iconst 1) 1 20 := ⟨by decide +kernel, rfl⟩
theorem e_X0_addStaged_20 : Dc cX0_addStaged 20 (.iload_n 1) 1 21 := ⟨by decide +kernel, rfl⟩
theorem e_X0_addStaged_21 : Dc cX0_addStaged 21 (.ishl) 1 22 := ⟨by decide +kernel, rfl⟩
theorem e_X0_addStaged_22 : Dc cX0_addStaged 22 (.iastore) 1 23 := ⟨by decide +kernel, rfl⟩
theorem e_X0_addStaged_23 : Dc cX0_addStaged 23 (.aload_n 0) 1 24 := ⟨by decide +kernel, rfl⟩
theorem e_X0_addStaged_24 : Dc cX0_addStaged 24 (.getfield 20) 3 27 := ⟨by decide +kernel, rfl⟩
theorem e_X0_addStaged_27 : Dc cX0_addStaged 27 (.iconst 2) 1 28 := ⟨by decide +kernel, rfl⟩
theorem e_X0_addStaged_28 : Dc cX0_addStaged 28 (.iload_n 2) 1 29 := ⟨by decide +kernel, rfl⟩
theorem e_X0_addStaged_29 : Dc cX0_addStaged 29 (.iastore) 1 30 := ⟨by decide +kernel, rfl⟩
theorem e_X0_addStaged_30 : Dc cX0_addStaged 30 (.aload_n 0) 1 31 := ⟨by decide +kernel, rfl⟩
theorem e_X0_addStaged_31 : Dc cX0_addStaged 31 (.getfield 20) 3 34 := ⟨by decide +kernel, rfl⟩
theorem e_X0_addStaged_34 : Dc cX0_addStaged 34 (.iconst 3) 1 35 := ⟨by decide +kernel, rfl⟩
theorem e_X0_addStaged_35 : Dc cX0_addStaged 35 (.iconst 3) 1 36 := ⟨by decide +kernel, rfl⟩
theorem e_X0_addStaged_36 : Dc cX0_addStaged 36 (.bipush 9) 2 38 := ⟨by decide +kernel, rfl⟩
theorem e_X0_addStaged_38 : Dc cX0_addStaged 38 (.invokestatic 93) 3 41 := ⟨by decide +kernel, rfl⟩
theorem e_X0_addStaged_41 : Dc cX0_addStaged 41 (.iastore) 1 42 := ⟨by decide +kernel, rfl⟩
theorem e_X0_addStaged_42 : Dc cX0_addStaged 42 (.aload_n 0) 1 43 := ⟨by decide +kernel, rfl⟩
theorem e_X0_addStaged_43 : Dc cX0_addStaged 43 (.getfield 20) 3 46 := ⟨by decide +kernel, rfl⟩
theorem e_X0_addStaged_46 : Dc cX0_addStaged 46 (.iconst 4) 1 47 := ⟨by decide +kernel, rfl⟩
theorem e_X0_addStaged_47 : Dc cX0_addStaged 47 (.iload_n 3) 1 48 := ⟨by decide +kernel, rfl⟩
theorem e_X0_addStaged_48 : Dc cX0_addStaged 48 (.getstatic 96) 3 51 := ⟨by decide +kernel, rfl⟩
theorem e_X0_addStaged_51 : Dc cX0_addStaged 51 (.iconst 3) 1 52 := ⟨by decide +kernel, rfl⟩
theorem e_X0_addStaged_52 : Dc cX0_addStaged 52 (.iaload) 1 53 := ⟨by decide +kernel, rfl⟩
theorem e_X0_addStaged_53 : Dc cX0_addStaged 53 (.iadd) 1 54 := ⟨by decide +kernel, rfl⟩
theorem e_X0_addStaged_54 : Dc cX0_addStaged 54 (.iastore) 1 55 := ⟨by decide +kernel, rfl⟩
theorem e_X0_addStaged_55 : Dc cX0_addStaged 55 (.aload_n 0) 1 56 := ⟨by decide +kernel, rfl⟩
theorem e_X0_addStaged_56 : Dc cX0_addStaged 56 (.getfield 20) 3 59 := ⟨by decide +kernel, rfl⟩
theorem e_X0_addStaged_59 : Dc cX0_addStaged 59 (.iconst 5) 1 60 := ⟨by decide +kernel, rfl⟩
theorem e_X0_addStaged_60 : Dc cX0_addStaged 60 (.sipush 256) 3 63 := ⟨by decide +kernel, rfl⟩
theorem e_X0_addStaged_63 : Dc cX0_addStaged 63 (.iastore) 1 64 := ⟨by decide +kernel, rfl⟩
theorem e_X0_addStaged_64 : Dc cX0_addStaged 64 (.aload_n 0) 1 65 := ⟨by decide +kernel, rfl⟩
theorem e_X0_addStaged_65 : Dc cX0_addStaged 65 (.getfield 16) 3 68 := ⟨by decide +kernel, rfl⟩
theorem e_X0_addStaged_68 : Dc cX0_addStaged 68 (.iload 4) 2 70 := ⟨by decide +kernel, rfl⟩
theorem e_X0_addStaged_70 : Dc cX0_addStaged 70 (.aload_n 0) 1 71 := ⟨by decide +kernel, rfl⟩
theorem e_X0_addStaged_71 : Dc cX0_addStaged 71 (.getfield 20) 3 74 := ⟨by decide +kernel, rfl⟩
theorem e_X0_addStaged_74 : Dc cX0_addStaged 74 (.invokevirtual 89) 3 77 := ⟨by decide +kernel, rfl⟩
theorem e_X0_addStaged_77 : Dc cX0_addStaged 77 (.iload 4) 2 79 := ⟨by decide +kernel, rfl⟩
theorem e_X0_addStaged_79 : Dc cX0_addStaged 79 (.ireturn) 1 80 := ⟨by decide +kernel, rfl⟩
set_option maxHeartbeats 4000000 in
set_option maxRecDepth 20000 in
theorem R_X0_addStaged (hD : DD E) (x1 : Int32) (x2 : Int32) (x3 : Int32) (s : Sg) : ∀ v τ, (f_X0_addStaged x1 x2 x3 s) = some (v, τ) → RI l E 2 M_X0_addStaged [.ref (ead E 52), .int x1, .int x2, .int x3] s v τ := by
  refine ofI hD (by decide +kernel) (Nat.le_of_ble_eq_true rfl) (fun X C => ?_)
  show MF l E X (fun q : Int32 × Sg => QI E X q.1 q.2) (f_X0_addStaged x1 x2 x3 s) s 0 [(0, .ref (ead E 52)), (1, .int x1), (2, .int x2), (3, .int x3)] []
  unfold f_X0_addStaged
  refine MF.aload_n C e_X0_addStaged_0 0 rfl rfl ?_
  refine MF.iload_n C e_X0_addStaged_1 3 rfl rfl ?_
  refine MF.callVP (As := [.int x3]) C (R_X0_placeBehind hD x3 s) m_X0_placeBehind k_X0_86 kO_52 rfl (by decide) e_X0_addStaged_2 rfl rfl (Nat.le_of_ble_eq_true rfl) (fun v1 => ?_)
  refine MF.istore (lv' := [(0, .ref (ead E 52)), (1, .int x1), (2, .int x2), (3, .int x3), (4, .int v1)]) C e_X0_addStaged_5 (by decide) rfl ?_
  refine MF.aload_n C e_X0_addStaged_7 0 rfl rfl ?_
  refine MF.getR (j := 55) C cf_X0 l_X0_20 e_X0_addStaged_8 kF_52_1 ?_
  refine MF.iconst (v := (0 : Int32)) C e_X0_addStaged_11 rfl ?_
  refine MF.iload_n C e_X0_addStaged_12 3 rfl rfl ?_
  refine MF.iast C e_X0_addStaged_13 kA_55 (fun s2 => ?_)
  refine MF.aload_n C e_X0_addStaged_14 0 rfl rfl ?_
  refine MF.getR (j := 55) C cf_X0 l_X0_20 e_X0_addStaged_15 kF_52_1 ?_
  refine MF.iconst (v := (1 : Int32)) C e_X0_addStaged_18 rfl ?_
  refine MF.iconst (v := (1 : Int32)) C e_X0_addStaged_19 rfl ?_
  refine MF.iload_n C e_X0_addStaged_20 1 rfl rfl ?_
  refine MF.ishl C e_X0_addStaged_21 ?_
  refine MF.iast C e_X0_addStaged_22 kA_55 (fun s3 => ?_)
  refine MF.aload_n C e_X0_addStaged_23 0 rfl rfl ?_
  refine MF.getR (j := 55) C cf_X0 l_X0_20 e_X0_addStaged_24 kF_52_1 ?_
  refine MF.iconst (v := (2 : Int32)) C e_X0_addStaged_27 rfl ?_
  refine MF.iload_n C e_X0_addStaged_28 2 rfl rfl ?_
  refine MF.iast C e_X0_addStaged_29 kA_55 (fun s4 => ?_)
  refine MF.aload_n C e_X0_addStaged_30 0 rfl rfl ?_
  refine MF.getR (j := 55) C cf_X0 l_X0_20 e_X0_addStaged_31 kF_52_1 ?_
  refine MF.iconst (v := (3 : Int32)) C e_X0_addStaged_34 rfl ?_
  refine MF.iconst (v := (3 : Int32)) C e_X0_addStaged_35 rfl ?_
  refine MF.bipush (v := (9 : Int32)) C e_X0_addStaged_36 (by decide) ?_
  refine MF.callSNP (As := [.int (3 : Int32), .int (9 : Int32)]) C (R_X7_rankBy hD (3 : Int32) (9 : Int32) s4) m_X7_rankBy k_X0_93 (by decide) e_X0_addStaged_38 rfl rfl (Nat.le_of_ble_eq_true rfl) (fun v5 => ?_)
  refine MF.iast C e_X0_addStaged_41 kA_55 (fun s6 => ?_)
  refine MF.aload_n C e_X0_addStaged_42 0 rfl rfl ?_
  refine MF.getR (j := 55) C cf_X0 l_X0_20 e_X0_addStaged_43 kF_52_1 ?_
  refine MF.iconst (v := (4 : Int32)) C e_X0_addStaged_46 rfl ?_
  refine MF.iload_n C e_X0_addStaged_47 3 rfl rfl ?_
  refine MF.getTN (t := 4) C (by decide) l_X0_96 e_X0_addStaged_48 ?_
  refine MF.iconst (v := (3 : Int32)) C e_X0_addStaged_51 rfl ?_
  refine MF.tald C (by decide) e_X0_addStaged_52 (fun v7 => ?_)
  refine MF.iadd C e_X0_addStaged_53 ?_
  refine MF.iast C e_X0_addStaged_54 kA_55 (fun s8 => ?_)
  refine MF.aload_n C e_X0_addStaged_55 0 rfl rfl ?_
  refine MF.getR (j := 55) C cf_X0 l_X0_20 e_X0_addStaged_56 kF_52_1 ?_
  refine MF.iconst (v := (5 : Int32)) C e_X0_addStaged_59 rfl ?_
  refine MF.sipush (v := (256 : Int32)) C e_X0_addStaged_60 (by decide) ?_
  refine MF.iast C e_X0_addStaged_63 kA_55 (fun s9 => ?_)
  refine MF.aload_n C e_X0_addStaged_64 0 rfl rfl ?_
  refine MF.getR (j := 53) C cf_X0 l_X0_16 e_X0_addStaged_65 kF_52_0 ?_
  refine MF.iload C e_X0_addStaged_68 4 rfl ?_
  refine MF.aload_n C e_X0_addStaged_70 0 rfl rfl ?_
  refine MF.getR (j := 55) C cf_X0 l_X0_20 e_X0_addStaged_71 kF_52_1 ?_
  refine MF.callVU (As := [.int v1, .ref (ead E 55)]) C (R_X2_insert hD 53 v1 55 kR_53 kA_55 s9) m_X2_insert k_X0_89 (iRo.o kR_53) rfl (by decide) e_X0_addStaged_74 rfl rfl (Nat.le_of_ble_eq_true rfl) (fun s10 => ?_)
  refine MF.iload C e_X0_addStaged_77 4 rfl ?_
  exact MF.iret C e_X0_addStaged_79
theorem e_X2_drop_0 : Dc cX2_drop 0 (.iload_n 1) 1 1 := ⟨by decide +kernel, rfl⟩
theorem e_X2_drop_1 : Dc cX2_drop 1 (.aload_n 0) 1 2 := ⟨by decide +kernel, rfl⟩
theorem e_X2_drop_2 : Dc cX2_drop 2 (.getfield 7) 3 5 := ⟨by decide +kernel, rfl⟩
theorem e_X2_drop_5 : Dc cX2_drop 5 (.invokestatic 34) 3 8 := ⟨by decide +kernel, rfl⟩
theorem e_X2_drop_8 : Dc cX2_drop 8 (.ifCond .ne 4) 3 11 := ⟨by decide +kernel, rfl⟩
theorem e_X2_drop_11 : Dc cX2_drop 11 (.return_) 1 12 := ⟨by decide +kernel, rfl⟩
theorem e_X2_drop_12 : Dc cX2_drop 12 (.iload_n 1) 1 13 := ⟨by decide +kernel, rfl⟩
theorem e_X2_drop_13 : Dc cX2_drop 13 (.aload_n 0) 1 14 := ⟨by decide +kernel, rfl⟩
theorem e_X2_drop_14 : Dc cX2_drop 14 (.getfield 13) 3 17 := ⟨by decide +kernel, rfl⟩
theorem e_X2_drop_17 : Dc cX2_drop 17 (.imul) 1 18 := ⟨by decide +kernel, rfl⟩
theorem e_X2_drop_18 : Dc cX2_drop 18 (.istore_n 2) 1 19 := ⟨by decide +kernel, rfl⟩
theorem e_X2_drop_19 : Dc cX2_drop 19 (.aload_n 0) 1 20 := ⟨by decide +kernel, rfl⟩
theorem e_X2_drop_20 : Dc cX2_drop 20 (.getfield 16) 3 23 := ⟨by decide +kernel, rfl⟩
theorem e_X2_drop_23 : Dc cX2_drop 23 (.iload_n 2) 1 24 := ⟨by decide +kernel, rfl⟩
theorem e_X2_drop_24 : Dc cX2_drop 24 (.aload_n 0) 1 25 := ⟨by decide +kernel, rfl⟩
theorem e_X2_drop_25 : Dc cX2_drop 25 (.getfield 13) 3 28 := ⟨by decide +kernel, rfl⟩
theorem e_X2_drop_28 : Dc cX2_drop 28 (.iadd) 1 29 := ⟨by decide +kernel, rfl⟩
theorem e_X2_drop_29 : Dc cX2_drop 29 (.aload_n 0) 1 30 := ⟨by decide +kernel, rfl⟩
theorem e_X2_drop_30 : Dc cX2_drop 30 (.getfield 16) 3 33 := ⟨by decide +kernel, rfl⟩
theorem e_X2_drop_33 : Dc cX2_drop 33 (.iload_n 2) 1 34 := ⟨by decide +kernel, rfl⟩
theorem e_X2_drop_34 : Dc cX2_drop 34 (.aload_n 0) 1 35 := ⟨by decide +kernel, rfl⟩
theorem e_X2_drop_35 : Dc cX2_drop 35 (.getfield 7) 3 38 := ⟨by decide +kernel, rfl⟩
theorem e_X2_drop_38 : Dc cX2_drop 38 (.iload_n 1) 1 39 := ⟨by decide +kernel, rfl⟩
theorem e_X2_drop_39 : Dc cX2_drop 39 (.isub) 1 40 := ⟨by decide +kernel, rfl⟩
theorem e_X2_drop_40 : Dc cX2_drop 40 (.iconst 1) 1 41 := ⟨by decide +kernel, rfl⟩
theorem e_X2_drop_41 : Dc cX2_drop 41 (.isub) 1 42 := ⟨by decide +kernel, rfl⟩
theorem e_X2_drop_42 : Dc cX2_drop 42 (.aload_n 0) 1 43 := ⟨by decide +kernel, rfl⟩
theorem e_X2_drop_43 : Dc cX2_drop 43 (.getfield 13) 3 46 := ⟨by decide +kernel, rfl⟩
theorem e_X2_drop_46 : Dc cX2_drop 46 (.imul) 1 47 := ⟨by decide +kernel, rfl⟩
theorem e_X2_drop_47 : Dc cX2_drop 47 (.invokestatic 28) 3 50 := ⟨by decide +kernel, rfl⟩
theorem e_X2_drop_50 : Dc cX2_drop 50 (.aload_n 0) 1 51 := ⟨by decide +kernel, rfl⟩
theorem e_X2_drop_51 : Dc cX2_drop 51 (.dup) 1 52 := ⟨by decide +kernel, rfl⟩
theorem e_X2_drop_52 : Dc cX2_drop 52 (.getfield 7) 3 55 := ⟨by decide +kernel, rfl⟩
theorem e_X2_drop_55 : Dc cX2_drop 55 (.iconst 1) 1 56 := ⟨by decide +kernel, rfl⟩
theorem e_X2_drop_56 : Dc cX2_drop 56 (.isub) 1 57 := ⟨by decide +kernel, rfl⟩
theorem e_X2_drop_57 : Dc cX2_drop 57 (.putfield 7) 3 60 := ⟨by decide +kernel, rfl⟩
theorem e_X2_drop_60 : Dc cX2_drop 60 (.return_) 1 61 := ⟨by decide +kernel, rfl⟩
set_option maxHeartbeats 4000000 in
set_option maxRecDepth 20000 in
theorem R_X2_drop (hD : DD E) (o : Nat) (x1 : Int32) (ho : iRo o) (s : Sg) : ∀ τ, (f_X2_drop o x1 s) = some τ → RV l E 1 M_X2_drop [.ref (ead E o), .int x1] s τ := by
  refine ofU hD (by decide +kernel) (Nat.le_of_ble_eq_true rfl) (fun X C => ?_)
  show MF l E X (fun q : Sg => QV E X q) (f_X2_drop o x1 s) s 0 [(0, .ref (ead E o)), (1, .int x1)] []
  unfold f_X2_drop
  refine MF.iload_n C e_X2_drop_0 1 rfl rfl ?_
  refine MF.aload_n C e_X2_drop_1 0 rfl rfl ?_
  refine MF.get C cf_X2 l_X2_7 e_X2_drop_2 (iRo.f2 ho) ?_
  refine MF.callSNP (As := [.int x1, .int (s o 2)]) C (R_X7_isBelow hD x1 (s o 2) s) m_X7_isBelow k_X2_34 (by decide) e_X2_drop_5 rfl rfl (Nat.le_of_ble_eq_true rfl) (fun v1 => ?_)
  refine MF.if_ne (tgt := 12) C e_X2_drop_8 (by decide) (fun _ => ?_) (fun _ => ?_)
  · refine MF.iload_n C e_X2_drop_12 1 rfl rfl ?_
    refine MF.aload_n C e_X2_drop_13 0 rfl rfl ?_
    refine MF.get C cf_X2 l_X2_13 e_X2_drop_14 (iRo.f0 ho) ?_
    refine MF.imul C e_X2_drop_17 ?_
    refine MF.nmI (fun v2 => ?_)
    refine MF.istore_n (lv' := [(0, .ref (ead E o)), (1, .int x1), (2, .int v2)]) C e_X2_drop_18 (by decide) rfl ?_
    refine MF.aload_n C e_X2_drop_19 0 rfl rfl ?_
    refine MF.getR (j := (o + 1)) C cf_X2 l_X2_16 e_X2_drop_20 (iRo.f1 ho) ?_
    refine MF.iload_n C e_X2_drop_23 2 rfl rfl ?_
    refine MF.aload_n C e_X2_drop_24 0 rfl rfl ?_
    refine MF.get C cf_X2 l_X2_13 e_X2_drop_25 (iRo.f0 ho) ?_
    refine MF.iadd C e_X2_drop_28 ?_
    refine MF.aload_n C e_X2_drop_29 0 rfl rfl ?_
    refine MF.getR (j := (o + 1)) C cf_X2 l_X2_16 e_X2_drop_30 (iRo.f1 ho) ?_
    refine MF.iload_n C e_X2_drop_33 2 rfl rfl ?_
    refine MF.aload_n C e_X2_drop_34 0 rfl rfl ?_
    refine MF.get C cf_X2 l_X2_7 e_X2_drop_35 (iRo.f2 ho) ?_
    refine MF.iload_n C e_X2_drop_38 1 rfl rfl ?_
    refine MF.isub C e_X2_drop_39 ?_
    refine MF.iconst (v := (1 : Int32)) C e_X2_drop_40 rfl ?_
    refine MF.isub C e_X2_drop_41 ?_
    refine MF.aload_n C e_X2_drop_42 0 rfl rfl ?_
    refine MF.get C cf_X2 l_X2_13 e_X2_drop_43 (iRo.f0 ho) ?_
    refine MF.imul C e_X2_drop_46 ?_
    refine MF.copy C k_X2_28 e_X2_drop_47 (iRo.a ho) (iRo.a ho) (by decide) (Nat.le_of_ble_eq_true rfl) (fun s3 => ?_)
    refine MF.aload_n C e_X2_drop_50 0 rfl rfl ?_
    refine MF.dup C e_X2_drop_51 rfl ?_
    refine MF.get C cf_X2 l_X2_7 e_X2_drop_52 (iRo.f2 ho) ?_
    refine MF.iconst (v := (1 : Int32)) C e_X2_drop_55 rfl ?_
    refine MF.isub C e_X2_drop_56 ?_
    refine MF.put C cf_X2 l_X2_7 p_X2_2 e_X2_drop_57 (iRo.f2 ho) rfl ?_
    refine MF.nmS (fun s4 => ?_)
    exact MF.vret C e_X2_drop_60
  · exact MF.vret C e_X2_drop_11
theorem e_X0_dropStaged_0 : Dc cX0_dropStaged 0 (.aload_n 0) 1 1 := ⟨by decide +kernel, rfl⟩
theorem e_X0_dropStaged_1 : Dc cX0_dropStaged 1 (.getfield 16) 3 4 := ⟨by decide +kernel, rfl⟩
theorem e_X0_dropStaged_4 : Dc cX0_dropStaged 4 (.iload_n 1) 1 5 := ⟨by decide +kernel, rfl⟩
theorem e_X0_dropStaged_5 : Dc cX0_dropStaged 5 (.invokevirtual 99) 3 8 := ⟨by decide +kernel, rfl⟩
theorem e_X0_dropStaged_8 : Dc cX0_dropStaged 8 (.return_) 1 9 := ⟨by decide +kernel, rfl⟩
set_option maxHeartbeats 4000000 in
set_option maxRecDepth 20000 in
theorem R_X0_dropStaged (hD : DD E) (x1 : Int32) (s : Sg) : ∀ τ, (f_X0_dropStaged x1 s) = some τ → RV l E 2 M_X0_dropStaged [.ref (ead E 52), .int x1] s τ := by
  refine ofU hD (by decide +kernel) (Nat.le_of_ble_eq_true rfl) (fun X C => ?_)
  show MF l E X (fun q : Sg => QV E X q) (f_X0_dropStaged x1 s) s 0 [(0, .ref (ead E 52)), (1, .int x1)] []
  unfold f_X0_dropStaged
  refine MF.aload_n C e_X0_dropStaged_0 0 rfl rfl ?_
  refine MF.getR (j := 53) C cf_X0 l_X0_16 e_X0_dropStaged_1 kF_52_0 ?_
  refine MF.iload_n C e_X0_dropStaged_4 1 rfl rfl ?_
  refine MF.callVU (As := [.int x1]) C (R_X2_drop hD 53 x1 kR_53 s) m_X2_drop k_X0_99 (iRo.o kR_53) rfl (by decide) e_X0_dropStaged_5 rfl rfl (Nat.le_of_ble_eq_true rfl) (fun s1 => ?_)
  exact MF.vret C e_X0_dropStaged_8
theorem e_X0_streets_0 : Dc cX0_streets 0 (.aload_n 0) 1 1 := ⟨by decide +kernel, rfl⟩
theorem e_X0_streets_1 : Dc cX0_streets 1 (.getfield 39) 3 4 := ⟨by decide +kernel, rfl⟩
theorem e_X0_streets_4 : Dc cX0_streets 4 (.ireturn) 1 5 := ⟨by decide +kernel, rfl⟩
set_option maxHeartbeats 4000000 in
set_option maxRecDepth 20000 in
theorem R_X0_streets (hD : DD E) (s : Sg) : ∀ v, (f_X0_streets s) = some v → RI l E 0 M_X0_streets [.ref (ead E 52)] s v s := by
  refine ofP hD (by decide +kernel) (Nat.le_of_ble_eq_true rfl) (fun X C => ?_)
  show MF l E X (fun q : Int32 => QI E X q s) (f_X0_streets s) s 0 [(0, .ref (ead E 52))] []
  unfold f_X0_streets
  refine MF.aload_n C e_X0_streets_0 0 rfl rfl ?_
  refine MF.get C cf_X0 l_X0_39 e_X0_streets_1 kF_52_7 ?_
  exact MF.iretp C e_X0_streets_4
theorem e_X0_firstWordOf_0 : Dc cX0_firstWordOf 0 (.iload_n 1) 1 1 := ⟨by decide +kernel, rfl⟩
theorem e_X0_firstWordOf_1 : Dc cX0_firstWordOf 1 (.bipush 7) 2 3 := ⟨by decide +kernel, rfl⟩
theorem e_X0_firstWordOf_3 : Dc cX0_firstWordOf 3 (.invokestatic 103) 3 6 := ⟨by decide +kernel, rfl⟩
theorem e_X0_firstWordOf_6 : Dc cX0_firstWordOf 6 (.ifCond .eq 12) 3 9 := ⟨by decide +kernel, rfl⟩
theorem e_X0_firstWordOf_9 : Dc cX0_firstWordOf 9 (.aload_n 0) 1 10 := ⟨by decide +kernel, rfl⟩
theorem e_X0_firstWordOf_10 : Dc cX0_firstWordOf 10 (.getfield 24) 3 13 := ⟨by decide +kernel, rfl⟩
theorem e_X0_firstWordOf_13 : Dc cX0_firstWordOf 13 (.iload_n 1) 1 14 := ⟨by decide +kernel, rfl⟩
theorem e_X0_firstWordOf_14 : Dc cX0_firstWordOf 14 (.iaload) 1 15 := ⟨by decide +kernel, rfl⟩
theorem e_X0_firstWordOf_15 : Dc cX0_firstWordOf 15 (.goto 4) 3 18 := ⟨by decide +kernel, rfl⟩
theorem e_X0_firstWordOf_18 : Dc cX0_firstWordOf 18 (.iconst (-1)) 1 19 := ⟨by decide +kernel, rfl⟩
theorem e_X0_firstWordOf_19 : Dc cX0_firstWordOf 19 (.ireturn) 1 20 := ⟨by decide +kernel, rfl⟩
set_option maxHeartbeats 4000000 in
set_option maxRecDepth 20000 in
theorem R_X0_firstWordOf (hD : DD E) (x1 : Int32) (s : Sg) : ∀ v, (f_X0_firstWordOf x1 s) = some v → RI l E 1 M_X0_firstWordOf [.ref (ead E 52), .int x1] s v s := by
  refine ofP hD (by decide +kernel) (Nat.le_of_ble_eq_true rfl) (fun X C => ?_)
  show MF l E X (fun q : Int32 => QI E X q s) (f_X0_firstWordOf x1 s) s 0 [(0, .ref (ead E 52)), (1, .int x1)] []
  unfold f_X0_firstWordOf
  refine MF.iload_n C e_X0_firstWordOf_0 1 rfl rfl ?_
  refine MF.bipush (v := (7 : Int32)) C e_X0_firstWordOf_1 (by decide) ?_
  refine MF.callSNP (As := [.int x1, .int (7 : Int32)]) C (R_X7_isBelow hD x1 (7 : Int32) s) m_X7_isBelow k_X0_103 (by decide) e_X0_firstWordOf_3 rfl rfl (Nat.le_of_ble_eq_true rfl) (fun v1 => ?_)
  refine MF.if_eq (tgt := 18) C e_X0_firstWordOf_6 (by decide) (fun _ => ?_) (fun _ => ?_)
  · refine MF.iconst (v := (-1 : Int32)) C e_X0_firstWordOf_18 rfl ?_
    exact MF.iretp C e_X0_firstWordOf_19
  · refine MF.aload_n C e_X0_firstWordOf_9 0 rfl rfl ?_
    refine MF.getR (j := 56) C cf_X0 l_X0_24 e_X0_firstWordOf_10 kF_52_2 ?_
    refine MF.iload_n C e_X0_firstWordOf_13 1 rfl rfl ?_
    refine MF.iald C e_X0_firstWordOf_14 kA_56 (fun v2 => ?_)
    refine MF.goto (tgt := 19) C e_X0_firstWordOf_15 (by decide) ?_
    exact MF.iretp C e_X0_firstWordOf_19
theorem e_X0_begin_0 : Dc cX0_begin 0 (.aload_n 0) 1 1 := ⟨by decide +kernel, rfl⟩
theorem e_X0_begin_1 : Dc cX0_begin 1 (.iconst 0) 1 2 := ⟨by decide +kernel, rfl⟩
theorem e_X0_begin_2 : Dc cX0_begin 2 (.putfield 46) 3 5 := ⟨by decide +kernel, rfl⟩
theorem e_X0_begin_5 : Dc cX0_begin 5 (.aload_n 0) 1 6 := ⟨by decide +kernel, rfl⟩
theorem e_X0_begin_6 : Dc cX0_begin 6 (.getfield 27) 3 9 := ⟨by decide +kernel, rfl⟩
theorem e_X0_begin_9 : Dc cX0_begin 9 (.iload_n 1) 1 10 := ⟨by decide +kernel, rfl⟩
theorem e_X0_begin_10 : Dc cX0_begin 10 (.aload_n 0) 1 11 := ⟨by decide +kernel, rfl⟩
theorem e_X0_begin_11 : Dc cX0_begin 11 (.getfield 24) 3 14 := ⟨by decide +kernel, rfl⟩
theorem e_X0_begin_14 : Dc cX0_begin 14 (.iload_n 1) 1 15 := ⟨by decide +kernel, rfl⟩
theorem e_X0_begin_15 : Dc cX0_begin 15 (.iaload) 1 16 := ⟨by decide +kernel, rfl⟩
theorem e_X0_begin_16 : Dc cX0_begin 16 (.iastore) 1 17 := ⟨by decide +kernel, rfl⟩
theorem e_X0_begin_17 : Dc cX0_begin 17 (.aload_n 0) 1 18 := ⟨by decide +kernel, rfl⟩
theorem e_X0_begin_18 : Dc cX0_begin 18 (.getfield 30) 3 21 := ⟨by decide +kernel, rfl⟩
theorem e_X0_begin_21 : Dc cX0_begin 21 (.iload_n 1) 1 22 := ⟨by decide +kernel, rfl⟩
theorem e_X0_begin_22 : Dc cX0_begin 22 (.iconst 1) 1 23 := ⟨by decide +kernel, rfl⟩
theorem e_X0_begin_23 : Dc cX0_begin 23 (.iastore) 1 24 := ⟨by decide +kernel, rfl⟩
theorem e_X0_begin_24 : Dc cX0_begin 24 (.aload_n 0) 1 25 := ⟨by decide +kernel, rfl⟩
theorem e_X0_begin_25 : Dc cX0_begin 25 (.getfield 33) 3 28 := ⟨by decide +kernel, rfl⟩
theorem e_X0_begin_28 : Dc cX0_begin 28 (.iload_n 1) 1 29 := ⟨by decide +kernel, rfl⟩
theorem e_X0_begin_29 : Dc cX0_begin 29 (.iconst 0) 1 30 := ⟨by decide +kernel, rfl⟩
theorem e_X0_begin_30 : Dc cX0_begin 30 (.iastore) 1 31 := ⟨by decide +kernel, rfl⟩
theorem e_X0_begin_31 : Dc cX0_begin 31 (.aload_n 0) 1 32 := ⟨by decide +kernel, rfl⟩
theorem e_X0_begin_32 : Dc cX0_begin 32 (.getfield 36) 3 35 := ⟨by decide +kernel, rfl⟩
theorem e_X0_begin_35 : Dc cX0_begin 35 (.iload_n 1) 1 36 := ⟨by decide +kernel, rfl⟩
theorem e_X0_begin_36 : Dc cX0_begin 36 (.iconst 0) 1 37 := ⟨by decide +kernel, rfl⟩
theorem e_X0_begin_37 : Dc cX0_begin 37 (.iastore) 1 38 := ⟨by decide +kernel, rfl⟩
theorem e_X0_begin_38 : Dc cX0_begin 38 (.return_) 1 39 := ⟨by decide +kernel, rfl⟩
set_option maxHeartbeats 4000000 in
set_option maxRecDepth 20000 in
theorem R_X0_begin (hD : DD E) (x1 : Int32) (s : Sg) : ∀ τ, (f_X0_begin x1 s) = some τ → RV l E 0 M_X0_begin [.ref (ead E 52), .int x1] s τ := by
  refine ofU hD (by decide +kernel) (Nat.le_of_ble_eq_true rfl) (fun X C => ?_)
  show MF l E X (fun q : Sg => QV E X q) (f_X0_begin x1 s) s 0 [(0, .ref (ead E 52)), (1, .int x1)] []
  unfold f_X0_begin
  refine MF.aload_n C e_X0_begin_0 0 rfl rfl ?_
  refine MF.iconst (v := (0 : Int32)) C e_X0_begin_1 rfl ?_
  refine MF.put C cf_X0 l_X0_46 p_X0_9 e_X0_begin_2 kF_52_9 rfl ?_
  refine MF.nmS (fun s1 => ?_)
  refine MF.aload_n C e_X0_begin_5 0 rfl rfl ?_
  refine MF.getR (j := 57) C cf_X0 l_X0_27 e_X0_begin_6 kF_52_3 ?_
  refine MF.iload_n C e_X0_begin_9 1 rfl rfl ?_
  refine MF.aload_n C e_X0_begin_10 0 rfl rfl ?_
  refine MF.getR (j := 56) C cf_X0 l_X0_24 e_X0_begin_11 kF_52_2 ?_
  refine MF.iload_n C e_X0_begin_14 1 rfl rfl ?_
  refine MF.iald C e_X0_begin_15 kA_56 (fun v2 => ?_)
  refine MF.iast C e_X0_begin_16 kA_57 (fun s3 => ?_)
  refine MF.aload_n C e_X0_begin_17 0 rfl rfl ?_
  refine MF.getR (j := 58) C cf_X0 l_X0_30 e_X0_begin_18 kF_52_4 ?_
  refine MF.iload_n C e_X0_begin_21 1 rfl rfl ?_
  refine MF.iconst (v := (1 : Int32)) C e_X0_begin_22 rfl ?_
  refine MF.iast C e_X0_begin_23 kA_58 (fun s4 => ?_)
  refine MF.aload_n C e_X0_begin_24 0 rfl rfl ?_
  refine MF.getR (j := 59) C cf_X0 l_X0_33 e_X0_begin_25 kF_52_5 ?_
  refine MF.iload_n C e_X0_begin_28 1 rfl rfl ?_
  refine MF.iconst (v := (0 : Int32)) C e_X0_begin_29 rfl ?_
  refine MF.iast C e_X0_begin_30 kA_59 (fun s5 => ?_)
  refine MF.aload_n C e_X0_begin_31 0 rfl rfl ?_
  refine MF.getR (j := 60) C cf_X0 l_X0_36 e_X0_begin_32 kF_52_6 ?_
  refine MF.iload_n C e_X0_begin_35 1 rfl rfl ?_
  refine MF.iconst (v := (0 : Int32)) C e_X0_begin_36 rfl ?_
  refine MF.iast C e_X0_begin_37 kA_60 (fun s6 => ?_)
  exact MF.vret C e_X0_begin_38
theorem e_X7_holds_0 : Dc cX7_holds 0 (.iload_n 0) 1 1 := ⟨by decide +kernel, rfl⟩
theorem e_X7_holds_1 : Dc cX7_holds 1 (.iload_n 1) 1 2 := ⟨by decide +kernel, rfl⟩
theorem e_X7_holds_2 : Dc cX7_holds 2 (.ishr) 1 3 := ⟨by decide +kernel, rfl⟩
theorem e_X7_holds_3 : Dc cX7_holds 3 (.iconst 1) 1 4 := ⟨by decide +kernel, rfl⟩
theorem e_X7_holds_4 : Dc cX7_holds 4 (.iand) 1 5 := ⟨by decide +kernel, rfl⟩
theorem e_X7_holds_5 : Dc cX7_holds 5 (.ifCond .eq 7) 3 8 := ⟨by decide +kernel, rfl⟩
theorem e_X7_holds_8 : Dc cX7_holds 8 (.iconst 1) 1 9 := ⟨by decide +kernel, rfl⟩
theorem e_X7_holds_9 : Dc cX7_holds 9 (.goto 4) 3 12 := ⟨by decide +kernel, rfl⟩
theorem e_X7_holds_12 : Dc cX7_holds 12 (.iconst 0) 1 13 := ⟨by decide +kernel, rfl⟩
theorem e_X7_holds_13 : Dc cX7_holds 13 (.ireturn) 1 14 := ⟨by decide +kernel, rfl⟩
set_option maxHeartbeats 4000000 in
set_option maxRecDepth 20000 in
theorem R_X7_holds (hD : DD E) (x0 : Int32) (x1 : Int32) (s : Sg) : ∀ v, (f_X7_holds x0 x1 s) = some v → RI l E 0 M_X7_holds [.int x0, .int x1] s v s := by
  refine ofP hD (by decide +kernel) (Nat.le_of_ble_eq_true rfl) (fun X C => ?_)
  show MF l E X (fun q : Int32 => QI E X q s) (f_X7_holds x0 x1 s) s 0 [(0, .int x0), (1, .int x1)] []
  unfold f_X7_holds
  refine MF.iload_n C e_X7_holds_0 0 rfl rfl ?_
  refine MF.iload_n C e_X7_holds_1 1 rfl rfl ?_
  refine MF.ishr C e_X7_holds_2 ?_
  refine MF.iconst (v := (1 : Int32)) C e_X7_holds_3 rfl ?_
  refine MF.iand C e_X7_holds_4 ?_
  refine MF.if_eq (tgt := 12) C e_X7_holds_5 (by decide) (fun _ => ?_) (fun _ => ?_)
  · refine MF.iconst (v := (0 : Int32)) C e_X7_holds_12 rfl ?_
    exact MF.nretp C e_X7_holds_13 rfl
  · refine MF.iconst (v := (1 : Int32)) C e_X7_holds_8 rfl ?_
    refine MF.goto (tgt := 13) C e_X7_holds_9 (by decide) ?_
    exact MF.nretp C e_X7_holds_13 rfl
theorem e_X0_yields_0 : Dc cX0_yields 0 (.iload_n 2) 1 1 := ⟨by decide +kernel, rfl⟩
theorem e_X0_yields_1 : Dc cX0_yields 1 (.aload_n 0) 1 2 := ⟨by decide +kernel, rfl⟩
theorem e_X0_yields_2 : Dc cX0_yields 2 (.getfield 36) 3 5 := ⟨by decide +kernel, rfl⟩
theorem e_X0_yields_5 : Dc cX0_yields 5 (.iload_n 1) 1 6 := ⟨by decide +kernel, rfl⟩
theorem e_X0_yields_6 : Dc cX0_yields 6 (.iaload) 1 7 := ⟨by decide +kernel, rfl⟩
theorem e_X0_yields_7 : Dc cX0_yields 7 (.if_icmp .ge 11) 3 10 := ⟨by decide +kernel, rfl⟩
theorem e_X0_yields_10 : Dc cX0_yields 10 (.aload_n 0) 1 11 := ⟨by decide +kernel, rfl⟩
theorem e_X0_yields_11 : Dc cX0_yields 11 (.getfield 43) 3 14 := ⟨by decide +kernel, rfl⟩
theorem e_X0_yields_14 : Dc cX0_yields 14 (.iconst 2) 1 15 := ⟨by decide +kernel, rfl⟩
theorem e_X0_yields_15 : Dc cX0_yields 15 (.if_icmp .ne 5) 3 18 := ⟨by decide +kernel, rfl⟩
theorem e_X0_yields_18 : Dc cX0_yields 18 (.iconst 1) 1 19 := ⟨by decide +kernel, rfl⟩
theorem e_X0_yields_19 : Dc cX0_yields 19 (.ireturn) 1 20 := ⟨by decide +kernel, rfl⟩
theorem e_X0_yields_20 : Dc cX0_yields 20 (.aload_n 0) 1 21 := ⟨by decide +kernel, rfl⟩
theorem e_X0_yields_21 : Dc cX0_yields 21 (.getfield 43) 3 24 := ⟨by decide +kernel, rfl⟩
theorem e_X0_yields_24 : Dc cX0_yields 24 (.ifCond .ne 21) 3 27 := ⟨by decide +kernel, rfl⟩
theorem e_X0_yields_27 : Dc cX0_yields 27 (.iload_n 3) 1 28 := ⟨by decide +kernel, rfl⟩
theorem e_X0_yields_28 : Dc cX0_yields 28 (.aload_n 0) 1 29 := ⟨by decide +kernel, rfl⟩
theorem e_X0_yields_29 : Dc cX0_yields 29 (.getfield 33) 3 32 := ⟨by decide +kernel, rfl⟩
theorem e_X0_yields_32 : Dc cX0_yields 32 (.iload_n 1) 1 33 := ⟨by decide +kernel, rfl⟩
theorem e_X0_yields_33 : Dc cX0_yields 33 (.iaload) 1 34 := ⟨by decide +kernel, rfl⟩
theorem e_X0_yields_34 : Dc cX0_yields 34 (.if_icmp .lt 7) 3 37 := ⟨by decide +kernel, rfl⟩
theorem e_X0_yields_37 : Dc cX0_yields 37 (.iconst 1) 1 38 := ⟨by decide +kernel, rfl⟩
theorem e_X0_yields_38 : Dc cX0_yields 38 (.goto 22) 3 41 := ⟨by decide +kernel, rfl⟩
theorem e_X0_yields_41 : Dc cX0_yields 41 (.iconst 0) 1 42 := ⟨by decide +kernel, rfl⟩
theorem e_X0_yields_42 : Dc cX0_yields 42 (.goto 18) 3 45 := ⟨by decide +kernel, rfl⟩
theorem e_X0_yields_45 : Dc cX0_yields 45 (.iload_n 3) 1 46 := ⟨by decide +kernel, rfl⟩
theorem e_X0_yields_46 : Dc cX0_yields 46 (.aload_n 0) 1 47 := ⟨by decide +kernel, rfl⟩
theorem e_X0_yields_47 : Dc cX0_yields 47 (.getfield 33) 3 50 := ⟨by decide +kernel, rfl⟩
theorem e_X0_yields_50 : Dc cX0_yields 50 (.iload_n 1) 1 51 := ⟨by decide +kernel, rfl⟩
theorem e_X0_yields_51 : Dc cX0_yields 51 (.iaload) 1 52 := ⟨by decide +kernel, rfl⟩
theorem e_X0_yields_52 : Dc cX0_yields 52 (.if_icmp .le 7) 3 55 := ⟨by decide +kernel, rfl⟩
theorem e_X0_yields_55 : Dc cX0_yields 55 (.iconst 1) 1 56 := ⟨by decide +kernel, rfl⟩
theorem e_X0_yields_56 : Dc cX0_yields 56 (.goto 4) 3 59 := ⟨by decide +kernel, rfl⟩
theorem e_X0_yields_59 : Dc cX0_yields 59 (.iconst 0) 1 60 := ⟨by decide +kernel, rfl⟩
theorem e_X0_yields_60 : Dc cX0_yields 60 (.ireturn) 1 61 := ⟨by decide +kernel, rfl⟩
set_option maxHeartbeats 4000000 in
set_option maxRecDepth 20000 in
theorem R_X0_yields (hD : DD E) (x1 : Int32) (x2 : Int32) (x3 : Int32) (s : Sg) : ∀ v, (f_X0_yields x1 x2 x3 s) = some v → RI l E 0 M_X0_yields [.ref (ead E 52), .int x1, .int x2, .int x3] s v s := by
  refine ofP hD (by decide +kernel) (Nat.le_of_ble_eq_true rfl) (fun X C => ?_)
  show MF l E X (fun q : Int32 => QI E X q s) (f_X0_yields x1 x2 x3 s) s 0 [(0, .ref (ead E 52)), (1, .int x1), (2, .int x2), (3, .int x3)] []
  unfold f_X0_yields
  refine MF.iload_n C e_X0_yields_0 2 rfl rfl ?_
  refine MF.aload_n C e_X0_yields_1 0 rfl rfl ?_
  refine MF.getR (j := 60) C cf_X0 l_X0_36 e_X0_yields_2 kF_52_6 ?_
  refine MF.iload_n C e_X0_yields_5 1 rfl rfl ?_
  refine MF.iald C e_X0_yields_6 kA_60 (fun v1 => ?_)
  refine MF.icmp_ge (tgt := 18) C e_X0_yields_7 (by decide) (fun _ => ?_) (fun _ => ?_)
  · refine MF.iconst (v := (1 : Int32)) C e_X0_yields_18 rfl ?_
    exact MF.nretp C e_X0_yields_19 rfl
  · refine MF.aload_n C e_X0_yields_10 0 rfl rfl ?_
    refine MF.get C cf_X0 l_X0_43 e_X0_yields_11 kF_52_8 ?_
    refine MF.iconst (v := (2 : Int32)) C e_X0_yields_14 rfl ?_
    refine MF.icmp_ne (tgt := 20) C e_X0_yields_15 (by decide) (fun _ => ?_) (fun _ => ?_)
    · refine MF.aload_n C e_X0_yields_20 0 rfl rfl ?_
      refine MF.get C cf_X0 l_X0_43 e_X0_yields_21 kF_52_8 ?_
      refine MF.if_ne (tgt := 45) C e_X0_yields_24 (by decide) (fun _ => ?_) (fun _ => ?_)
      · refine MF.iload_n C e_X0_yields_45 3 rfl rfl ?_
        refine MF.aload_n C e_X0_yields_46 0 rfl rfl ?_
        refine MF.getR (j := 59) C cf_X0 l_X0_33 e_X0_yields_47 kF_52_5 ?_
        refine MF.iload_n C e_X0_yields_50 1 rfl rfl ?_
        refine MF.iald C e_X0_yields_51 kA_59 (fun v2 => ?_)
        refine MF.icmp_le (tgt := 59) C e_X0_yields_52 (by decide) (fun _ => ?_) (fun _ => ?_)
        · refine MF.iconst (v := (0 : Int32)) C e_X0_yields_59 rfl ?_
          exact MF.nretp C e_X0_yields_60 rfl
        · refine MF.iconst (v := (1 : Int32)) C e_X0_yields_55 rfl ?_
          refine MF.goto (tgt := 60) C e_X0_yields_56 (by decide) ?_
          exact MF.nretp C e_X0_yields_60 rfl
      · refine MF.iload_n C e_X0_yields_27 3 rfl rfl ?_
        refine MF.aload_n C e_X0_yields_28 0 rfl rfl ?_
        refine MF.getR (j := 59) C cf_X0 l_X0_33 e_X0_yields_29 kF_52_5 ?_
        refine MF.iload_n C e_X0_yields_32 1 rfl rfl ?_
        refine MF.iald C e_X0_yields_33 kA_59 (fun v3 => ?_)
        refine MF.icmp_lt (tgt := 41) C e_X0_yields_34 (by decide) (fun _ => ?_) (fun _ => ?_)
        · refine MF.iconst (v := (0 : Int32)) C e_X0_yields_41 rfl ?_
          refine MF.goto (tgt := 60) C e_X0_yields_42 (by decide) ?_
          exact MF.nretp C e_X0_yields_60 rfl
        · refine MF.iconst (v := (1 : Int32)) C e_X0_yields_37 rfl ?_
          refine MF.goto (tgt := 60) C e_X0_yields_38 (by decide) ?_
          exact MF.nretp C e_X0_yields_60 rfl
    · refine MF.iconst (v := (1 : Int32)) C e_X0_yields_18 rfl ?_
      exact MF.nretp C e_X0_yields_19 rfl
theorem e_X0_isRenamed_0 : Dc cX0_isRenamed 0 (.aload_n 0) 1 1 := ⟨by decide +kernel, rfl⟩
theorem e_X0_isRenamed_1 : Dc cX0_isRenamed 1 (.getfield 16) 3 4 := ⟨by decide +kernel, rfl⟩
theorem e_X0_isRenamed_4 : Dc cX0_isRenamed 4 (.iload_n 2) 1 5 := ⟨by decide +kernel, rfl⟩
theorem e_X0_isRenamed_5 : Dc cX0_isRenamed 5 (.iconst 3) 1 6 := ⟨by decide +kernel, rfl⟩
theorem e_X0_isRenamed_6 : Dc cX0_isRenamed 6 (.invokevirtual 58) 3 9 := ⟨by decide +kernel, rfl⟩
theorem e_X0_isRenamed_9 : Dc cX0_isRenamed 9 (.istore_n 3) 1 10 := ⟨by decide +kernel, rfl⟩
theorem e_X0_isRenamed_10 : Dc cX0_isRenamed 10 (.aload_n 0) 1 11 := ⟨by decide +kernel, rfl⟩
theorem e_X0_isRenamed_11 : Dc cX0_isRenamed 11 (.getfield 16) 3 14 := ⟨by decide +kernel, rfl⟩
theorem e_X0_isRenamed_14 : Dc cX0_isRenamed 14 (.iload_n 2) 1 15 := ⟨by decide +kernel, rfl⟩
theorem e_X0_isRenamed_15 : Dc cX0_isRenamed 15 (.iconst 1) 1 16 := ⟨by decide +kernel, rfl⟩
theorem e_X0_isRenamed_16 : Dc cX0_isRenamed 16 (.invokevirtual 58) 3 19 := ⟨by decide +kernel, rfl⟩
theorem e_X0_isRenamed_19 : Dc cX0_isRenamed 19 (.iload_n 1) 1 20 := ⟨by decide +kernel, rfl⟩
theorem e_X0_isRenamed_20 : Dc cX0_isRenamed 20 (.invokestatic 123) 3 23 := ⟨by decide +kernel, rfl⟩
theorem e_X0_isRenamed_23 : Dc cX0_isRenamed 23 (.ifCond .eq 21) 3 26 := ⟨by decide +kernel, rfl⟩
theorem e_X0_isRenamed_26 : Dc cX0_isRenamed 26 (.aload_n 0) 1 27 := ⟨by decide +kernel, rfl⟩
theorem e_X0_isRenamed_27 : Dc cX0_isRenamed 27 (.iload_n 1) 1 28 := ⟨by decide +kernel, rfl⟩
theorem e_X0_isRenamed_28 : Dc cX0_isRenamed 28 (.aload_n 0) 1 29 := ⟨by decide +kernel, rfl⟩
theorem e_X0_isRenamed_29 : Dc cX0_isRenamed 29 (.getfield 16) 3 32 := ⟨by decide +kernel, rfl⟩
theorem e_X0_isRenamed_32 : Dc cX0_isRenamed 32 (.iload_n 2) 1 33 := ⟨by decide +kernel, rfl⟩
theorem e_X0_isRenamed_33 : Dc cX0_isRenamed 33 (.iconst 0) 1 34 := ⟨by decide +kernel, rfl⟩
theorem e_X0_isRenamed_34 : Dc cX0_isRenamed 34 (.invokevirtual 58) 3 37 := ⟨by decide +kernel, rfl⟩
theorem e_X0_isRenamed_37 : Dc cX0_isRenamed 37 (.iload_n 3) 1 38 := ⟨by decide +kernel, rfl⟩
theorem e_X0_isRenamed_38 : Dc cX0_isRenamed 38 (.invokevirtual 126) 3 41 := ⟨by decide +kernel, rfl⟩
theorem e_X0_isRenamed_41 : Dc cX0_isRenamed 41 (.ifCond .ne 5) 3 44 := ⟨by decide +kernel, rfl⟩
theorem e_X0_isRenamed_44 : Dc cX0_isRenamed 44 (.iconst 0) 1 45 := ⟨by decide +kernel, rfl⟩
theorem e_X0_isRenamed_45 : Dc cX0_isRenamed 45 (.ireturn) 1 46 := ⟨by decide +kernel, rfl⟩
theorem e_X0_isRenamed_46 : Dc cX0_isRenamed 46 (.aload_n 0) 1 47 := ⟨by decide +kernel, rfl⟩
theorem e_X0_isRenamed_47 : Dc cX0_isRenamed 47 (.getfield 27) 3 50 := ⟨by decide +kernel, rfl⟩
theorem e_X0_isRenamed_50 : Dc cX0_isRenamed 50 (.iload_n 1) 1 51 := ⟨by decide +kernel, rfl⟩
theorem e_X0_isRenamed_51 : Dc cX0_isRenamed 51 (.aload_n 0) 1 52 := ⟨by decide +kernel, rfl⟩
theorem e_X0_isRenamed_52 : Dc cX0_isRenamed 52 (.getfield 16) 3 55 := ⟨by decide +kernel, rfl⟩
theorem e_X0_isRenamed_55 : Dc cX0_isRenamed 55 (.iload_n 2) 1 56 := ⟨by decide +kernel, rfl⟩
theorem e_X0_isRenamed_56 : Dc cX0_isRenamed 56 (.iconst 2) 1 57 := ⟨by decide +kernel, rfl⟩
theorem e_X0_isRenamed_57 : Dc cX0_isRenamed 57 (.invokevirtual 58) 3 60 := ⟨by decide +kernel, rfl⟩
theorem e_X0_isRenamed_60 : Dc cX0_isRenamed 60 (.iastore) 1 61 := ⟨by decide +kernel, rfl⟩
theorem e_X0_isRenamed_61 : Dc cX0_isRenamed 61 (.aload_n 0) 1 62 := ⟨by decide +kernel, rfl⟩
theorem e_X0_isRenamed_62 : Dc cX0_isRenamed 62 (.getfield 33) 3 65 := ⟨by decide +kernel, rfl⟩
theorem e_X0_isRenamed_65 : Dc cX0_isRenamed 65 (.iload_n 1) 1 66 := ⟨by decide +kernel, rfl⟩
theorem e_X0_isRenamed_66 : Dc cX0_isRenamed 66 (.iload_n 3) 1 67 := ⟨by decide +kernel, rfl⟩
theorem e_X0_isRenamed_67 : Dc cX0_isRenamed 67 (.iastore) 1 68 := ⟨by decide +kernel, rfl⟩
theorem e_X0_isRenamed_68 : Dc cX0_isRenamed 68 (.aload_n 0) 1 69 := ⟨by decide +kernel, rfl⟩
theorem e_X0_isRenamed_69 : Dc cX0_isRenamed 69 (.getfield 36) 3 72 := ⟨by decide +kernel, rfl⟩
theorem e_X0_isRenamed_72 : Dc cX0_isRenamed 72 (.iload_n 1) 1 73 := ⟨by decide +kernel, rfl⟩
theorem e_X0_isRenamed_73 : Dc cX0_isRenamed 73 (.aload_n 0) 1 74 := ⟨by decide +kernel, rfl⟩
theorem e_X0_isRenamed_74 : Dc cX0_isRenamed 74 (.getfield 16) 3 77 := ⟨by decide +kernel, rfl⟩
theorem e_X0_isRenamed_77 : Dc cX0_isRenamed 77 (.iload_n 2) 1 78 := ⟨by decide +kernel, rfl⟩
theorem e_X0_isRenamed_78 : Dc cX0_isRenamed 78 (.iconst 4) 1 79 := ⟨by decide +kernel, rfl⟩
theorem e_X0_isRenamed_79 : Dc cX0_isRenamed 79 (.invokevirtual 58) 3 82 := ⟨by decide +kernel, rfl⟩
theorem e_X0_isRenamed_82 : Dc cX0_isRenamed 82 (.iastore) 1 83 := ⟨by decide +kernel, rfl⟩
theorem e_X0_isRenamed_83 : Dc cX0_isRenamed 83 (.iconst 1) 1 84 := ⟨by decide +kernel, rfl⟩
theorem e_X0_isRenamed_84 : Dc cX0_isRenamed 84 (.ireturn) 1 85 := ⟨by decide +kernel, rfl⟩
set_option maxHeartbeats 4000000 in
set_option maxRecDepth 20000 in
theorem R_X0_isRenamed (hD : DD E) (x1 : Int32) (x2 : Int32) (s : Sg) : ∀ v τ, (f_X0_isRenamed x1 x2 s) = some (v, τ) → RI l E 1 M_X0_isRenamed [.ref (ead E 52), .int x1, .int x2] s v τ := by
  refine ofI hD (by decide +kernel) (Nat.le_of_ble_eq_true rfl) (fun X C => ?_)
  show MF l E X (fun q : Int32 × Sg => QI E X q.1 q.2) (f_X0_isRenamed x1 x2 s) s 0 [(0, .ref (ead E 52)), (1, .int x1), (2, .int x2)] []
  unfold f_X0_isRenamed
  refine MF.aload_n C e_X0_isRenamed_0 0 rfl rfl ?_
  refine MF.getR (j := 53) C cf_X0 l_X0_16 e_X0_isRenamed_1 kF_52_0 ?_
  refine MF.iload_n C e_X0_isRenamed_4 2 rfl rfl ?_
  refine MF.iconst (v := (3 : Int32)) C e_X0_isRenamed_5 rfl ?_
  refine MF.callVP (As := [.int x2, .int (3 : Int32)]) C (R_X2_cell hD 53 x2 (3 : Int32) kR_53 s) m_X2_cell k_X0_58 (iRo.o kR_53) rfl (by decide) e_X0_isRenamed_6 rfl rfl (Nat.le_of_ble_eq_true rfl) (fun v1 => ?_)
  refine MF.istore_n (lv' := [(0, .ref (ead E 52)), (1, .int x1), (2, .int x2), (3, .int v1)]) C e_X0_isRenamed_9 (by decide) rfl ?_
  refine MF.aload_n C e_X0_isRenamed_10 0 rfl rfl ?_
  refine MF.getR (j := 53) C cf_X0 l_X0_16 e_X0_isRenamed_11 kF_52_0 ?_
  refine MF.iload_n C e_X0_isRenamed_14 2 rfl rfl ?_
  refine MF.iconst (v := (1 : Int32)) C e_X0_isRenamed_15 rfl ?_
  refine MF.callVP (As := [.int x2, .int (1 : Int32)]) C (R_X2_cell hD 53 x2 (1 : Int32) kR_53 s) m_X2_cell k_X0_58 (iRo.o kR_53) rfl (by decide) e_X0_isRenamed_16 rfl rfl (Nat.le_of_ble_eq_true rfl) (fun v2 => ?_)
  refine MF.iload_n C e_X0_isRenamed_19 1 rfl rfl ?_
  refine MF.callSNP (As := [.int v2, .int x1]) C (R_X7_holds hD v2 x1 s) m_X7_holds k_X0_123 (by decide) e_X0_isRenamed_20 rfl rfl (Nat.le_of_ble_eq_true rfl) (fun v3 => ?_)
  refine MF.if_eq (tgt := 44) C e_X0_isRenamed_23 (by decide) (fun _ => ?_) (fun _ => ?_)
  · refine MF.iconst (v := (0 : Int32)) C e_X0_isRenamed_44 rfl ?_
    exact MF.nret C e_X0_isRenamed_45 rfl
  · refine MF.aload_n C e_X0_isRenamed_26 0 rfl rfl ?_
    refine MF.iload_n C e_X0_isRenamed_27 1 rfl rfl ?_
    refine MF.aload_n C e_X0_isRenamed_28 0 rfl rfl ?_
    refine MF.getR (j := 53) C cf_X0 l_X0_16 e_X0_isRenamed_29 kF_52_0 ?_
    refine MF.iload_n C e_X0_isRenamed_32 2 rfl rfl ?_
    refine MF.iconst (v := (0 : Int32)) C e_X0_isRenamed_33 rfl ?_
    refine MF.callVP (As := [.int x2, .int (0 : Int32)]) C (R_X2_cell hD 53 x2 (0 : Int32) kR_53 s) m_X2_cell k_X0_58 (iRo.o kR_53) rfl (by decide) e_X0_isRenamed_34 rfl rfl (Nat.le_of_ble_eq_true rfl) (fun v4 => ?_)
    refine MF.iload_n C e_X0_isRenamed_37 3 rfl rfl ?_
    refine MF.callVP (As := [.int x1, .int v4, .int v1]) C (R_X0_yields hD x1 v4 v1 s) m_X0_yields k_X0_126 kO_52 rfl (by decide) e_X0_isRenamed_38 rfl rfl (Nat.le_of_ble_eq_true rfl) (fun v5 => ?_)
    refine MF.if_ne (tgt := 46) C e_X0_isRenamed_41 (by decide) (fun _ => ?_) (fun _ => ?_)
    · refine MF.aload_n C e_X0_isRenamed_46 0 rfl rfl ?_
      refine MF.getR (j := 57) C cf_X0 l_X0_27 e_X0_isRenamed_47 kF_52_3 ?_
      refine MF.iload_n C e_X0_isRenamed_50 1 rfl rfl ?_
      refine MF.aload_n C e_X0_isRenamed_51 0 rfl rfl ?_
      refine MF.getR (j := 53) C cf_X0 l_X0_16 e_X0_isRenamed_52 kF_52_0 ?_
      refine MF.iload_n C e_X0_isRenamed_55 2 rfl rfl ?_
      refine MF.iconst (v := (2 : Int32)) C e_X0_isRenamed_56 rfl ?_
      refine MF.callVP (As := [.int x2, .int (2 : Int32)]) C (R_X2_cell hD 53 x2 (2 : Int32) kR_53 s) m_X2_cell k_X0_58 (iRo.o kR_53) rfl (by decide) e_X0_isRenamed_57 rfl rfl (Nat.le_of_ble_eq_true rfl) (fun v6 => ?_)
      refine MF.iast C e_X0_isRenamed_60 kA_57 (fun s7 => ?_)
      refine MF.aload_n C e_X0_isRenamed_61 0 rfl rfl ?_
      refine MF.getR (j := 59) C cf_X0 l_X0_33 e_X0_isRenamed_62 kF_52_5 ?_
      refine MF.iload_n C e_X0_isRenamed_65 1 rfl rfl ?_
      refine MF.iload_n C e_X0_isRenamed_66 3 rfl rfl ?_
      refine MF.iast C e_X0_isRenamed_67 kA_59 (fun s8 => ?_)
      refine MF.aload_n C e_X0_isRenamed_68 0 rfl rfl ?_
      refine MF.getR (j := 60) C cf_X0 l_X0_36 e_X0_isRenamed_69 kF_52_6 ?_
      refine MF.iload_n C e_X0_isRenamed_72 1 rfl rfl ?_
      refine MF.aload_n C e_X0_isRenamed_73 0 rfl rfl ?_
      refine MF.getR (j := 53) C cf_X0 l_X0_16 e_X0_isRenamed_74 kF_52_0 ?_
      refine MF.iload_n C e_X0_isRenamed_77 2 rfl rfl ?_
      refine MF.iconst (v := (4 : Int32)) C e_X0_isRenamed_78 rfl ?_
      refine MF.callVP (As := [.int x2, .int (4 : Int32)]) C (R_X2_cell hD 53 x2 (4 : Int32) kR_53 s8) m_X2_cell k_X0_58 (iRo.o kR_53) rfl (by decide) e_X0_isRenamed_79 rfl rfl (Nat.le_of_ble_eq_true rfl) (fun v9 => ?_)
      refine MF.iast C e_X0_isRenamed_82 kA_60 (fun s10 => ?_)
      refine MF.iconst (v := (1 : Int32)) C e_X0_isRenamed_83 rfl ?_
      exact MF.nret C e_X0_isRenamed_84 rfl
    · refine MF.iconst (v := (0 : Int32)) C e_X0_isRenamed_44 rfl ?_
      exact MF.nret C e_X0_isRenamed_45 rfl
theorem e_X0_live_0 : Dc cX0_live 0 (.iconst 0) 1 1 := ⟨by decide +kernel, rfl⟩
theorem e_X0_live_1 : Dc cX0_live 1 (.istore 4) 2 3 := ⟨by decide +kernel, rfl⟩
theorem e_X0_live_3 : Dc cX0_live 3 (.aload_n 0) 1 4 := ⟨by decide +kernel, rfl⟩
theorem e_X0_live_4 : Dc cX0_live 4 (.getfield 46) 3 7 := ⟨by decide +kernel, rfl⟩
theorem e_X0_live_7 : Dc cX0_live 7 (.aload_n 0) 1 8 := ⟨by decide +kernel, rfl⟩
theorem e_X0_live_8 : Dc cX0_live 8 (.getfield 16) 3 11 := ⟨by decide +kernel, rfl⟩
theorem e_X0_live_11 : Dc cX0_live 11 (.invokevirtual 54) 3 14 := ⟨by decide +kernel, rfl⟩
theorem e_X0_live_14 : Dc cX0_live 14 (.if_icmp .ge 64) 3 17 := ⟨by decide +kernel, rfl⟩
theorem e_X0_live_17 : Dc cX0_live 17 (.aload_n 0) 1 18 := ⟨by decide +kernel, rfl⟩
theorem e_X0_live_18 : Dc cX0_live 18 (.getfield 16) 3 21 := ⟨by decide +kernel, rfl⟩
theorem e_X0_live_21 : Dc cX0_live 21 (.aload_n 0) 1 22 := ⟨by decide +kernel, rfl⟩
theorem e_X0_live_22 : Dc cX0_live 22 (.getfield 46) 3 25 := ⟨by decide +kernel, rfl⟩
theorem e_X0_live_25 : Dc cX0_live 25 (.iconst 0) 1 26 := ⟨by decide +kernel, rfl⟩
theorem e_X0_live_26 : Dc cX0_live 26 (.invokevirtual 58) 3 29 := ⟨by decide +kernel, rfl⟩
theorem e_X0_live_29 : Dc cX0_live 29 (.iload_n 2) 1 30 := ⟨by decide +kernel, rfl⟩
theorem e_X0_live_30 : Dc cX0_live 30 (.if_icmp .gt 48) 3 33 := ⟨by decide +kernel, rfl⟩
theorem e_X0_live_33 : Dc cX0_live 33 (.aload_n 0) 1 34 := ⟨by decide +kernel, rfl⟩
theorem e_X0_live_34 : Dc cX0_live 34 (.getfield 16) 3 37 := ⟨by decide +kernel, rfl⟩
theorem e_X0_live_37 : Dc cX0_live 37 (.aload_n 0) 1 38 := ⟨by decide +kernel, rfl⟩
theorem e_X0_live_38 : Dc cX0_live 38 (.getfield 46) 3 41 := ⟨by decide +kernel, rfl⟩
theorem e_X0_live_41 : Dc cX0_live 41 (.iconst 5) 1 42 := ⟨by decide +kernel, rfl⟩
theorem e_X0_live_42 : Dc cX0_live 42 (.invokevirtual 58) 3 45 := ⟨by decide +kernel, rfl⟩
theorem e_X0_live_45 : Dc cX0_live 45 (.iload_n 3) 1 46 := ⟨by decide +kernel, rfl⟩
theorem e_X0_live_46 : Dc cX0_live 46 (.iand) 1 47 := ⟨by decide +kernel, rfl⟩
theorem e_X0_live_47 : Dc cX0_live 47 (.ifCond .eq 18) 3 50 := ⟨by decide +kernel, rfl⟩
theorem e_X0_live_50 : Dc cX0_live 50 (.aload_n 0) 1 51 := ⟨by decide +kernel, rfl⟩
theorem e_X0_live_51 : Dc cX0_live 51 (.iload_n 1) 1 52 := ⟨by decide +kernel, rfl⟩
theorem e_X0_live_52 : Dc cX0_live 52 (.aload_n 0) 1 53 := ⟨by decide +kernel, rfl⟩
theorem e_X0_live_53 : Dc cX0_live 53 (.getfield 46) 3 56 := ⟨by decide +kernel, rfl⟩
theorem e_X0_live_56 : Dc cX0_live 56 (.invokevirtual 117) 3 59 := ⟨by decide +kernel, rfl⟩
theorem e_X0_live_59 : Dc cX0_live 59 (.ifCond .eq 6) 3 62 := ⟨by decide +kernel, rfl⟩
theorem e_X0_live_62 : Dc cX0_live 62 (.iinc 4 1) 3 65 := ⟨by decide +kernel, rfl⟩
theorem e_X0_live_65 : Dc cX0_live 65 (.aload_n 0) 1 66 := ⟨by decide +kernel, rfl⟩
theorem e_X0_live_66 : Dc cX0_live 66 (.dup) 1 67 := ⟨by decide +kernel, rfl⟩
theorem e_X0_live_67 : Dc cX0_live 67 (.getfield 46) 3 70 := ⟨by decide +kernel, rfl⟩
theorem e_X0_live_70 : Dc cX0_live 70 (.iconst 1) 1 71 := ⟨by decide +kernel, rfl⟩
theorem e_X0_live_71 : Dc cX0_live 71 (.iadd) 1 72 := ⟨by decide +kernel, rfl⟩
theorem e_X0_live_72 : Dc cX0_live 72 (.putfield 46) 3 75 := ⟨by decide +kernel, rfl⟩
theorem e_X0_live_75 : Dc cX0_live 75 (.goto (-72)) 3 78 := ⟨by decide +kernel, rfl⟩
theorem e_X0_live_78 : Dc cX0_live 78 (.iload 4) 2 80 := ⟨by decide +kernel, rfl⟩
theorem e_X0_live_80 : Dc cX0_live 80 (.ireturn) 1 81 := ⟨by decide +kernel, rfl⟩
set_option maxHeartbeats 4000000 in
set_option maxRecDepth 20000 in
theorem R_X0_live (hD : DD E) (x1 : Int32) (x2 : Int32) (x3 : Int32) (s : Sg) : ∀ v τ, (f_X0_live x1 x2 x3 s) = some (v, τ) → RI l E 2 M_X0_live [.ref (ead E 52), .int x1, .int x2, .int x3] s v τ := by
  refine ofI hD (by decide +kernel) (Nat.le_of_ble_eq_true rfl) (fun X C => ?_)
  show MF l E X (fun q : Int32 × Sg => QI E X q.1 q.2) (f_X0_live x1 x2 x3 s) s 0 [(0, .ref (ead E 52)), (1, .int x1), (2, .int x2), (3, .int x3)] []
  unfold f_X0_live
  refine MF.iconst (v := (0 : Int32)) C e_X0_live_0 rfl ?_
  refine MF.istore (lv' := [(0, .ref (ead E 52)), (1, .int x1), (2, .int x2), (3, .int x3), (4, .int (0 : Int32))]) C e_X0_live_1 (by decide) rfl ?_
  refine MF.loop2 (fun i1 s2 => s2) (fun i1 s2 => [(0, .ref (ead E 52)), (1, .int x1), (2, .int x2), (3, .int x3), (4, .int i1)]) (fun self3 hself3 i1 s2 => ?_) fu (0 : Int32) s
  unfold b_X0_live_3
  refine MF.aload_n C e_X0_live_3 0 rfl rfl ?_
  refine MF.get C cf_X0 l_X0_46 e_X0_live_4 kF_52_9 ?_
  refine MF.aload_n C e_X0_live_7 0 rfl rfl ?_
  refine MF.getR (j := 53) C cf_X0 l_X0_16 e_X0_live_8 kF_52_0 ?_
  refine MF.callVP (As := []) C (R_X2_size hD 53 kR_53 s2) m_X2_size k_X0_54 (iRo.o kR_53) rfl (by decide) e_X0_live_11 rfl rfl (Nat.le_of_ble_eq_true rfl) (fun v4 => ?_)
  refine MF.icmp_ge (tgt := 78) C e_X0_live_14 (by decide) (fun _ => ?_) (fun _ => ?_)
  · refine MF.iload C e_X0_live_78 4 rfl ?_
    exact MF.iret C e_X0_live_80
  · refine MF.aload_n C e_X0_live_17 0 rfl rfl ?_
    refine MF.getR (j := 53) C cf_X0 l_X0_16 e_X0_live_18 kF_52_0 ?_
    refine MF.aload_n C e_X0_live_21 0 rfl rfl ?_
    refine MF.get C cf_X0 l_X0_46 e_X0_live_22 kF_52_9 ?_
    refine MF.iconst (v := (0 : Int32)) C e_X0_live_25 rfl ?_
    refine MF.callVP (As := [.int (s2 52 9), .int (0 : Int32)]) C (R_X2_cell hD 53 (s2 52 9) (0 : Int32) kR_53 s2) m_X2_cell k_X0_58 (iRo.o kR_53) rfl (by decide) e_X0_live_26 rfl rfl (Nat.le_of_ble_eq_true rfl) (fun v5 => ?_)
    refine MF.iload_n C e_X0_live_29 2 rfl rfl ?_
    refine MF.icmp_gt (tgt := 78) C e_X0_live_30 (by decide) (fun _ => ?_) (fun _ => ?_)
    · refine MF.iload C e_X0_live_78 4 rfl ?_
      exact MF.iret C e_X0_live_80
    · refine MF.aload_n C e_X0_live_33 0 rfl rfl ?_
      refine MF.getR (j := 53) C cf_X0 l_X0_16 e_X0_live_34 kF_52_0 ?_
      refine MF.aload_n C e_X0_live_37 0 rfl rfl ?_
      refine MF.get C cf_X0 l_X0_46 e_X0_live_38 kF_52_9 ?_
      refine MF.iconst (v := (5 : Int32)) C e_X0_live_41 rfl ?_
      refine MF.callVP (As := [.int (s2 52 9), .int (5 : Int32)]) C (R_X2_cell hD 53 (s2 52 9) (5 : Int32) kR_53 s2) m_X2_cell k_X0_58 (iRo.o kR_53) rfl (by decide) e_X0_live_42 rfl rfl (Nat.le_of_ble_eq_true rfl) (fun v6 => ?_)
      refine MF.iload_n C e_X0_live_45 3 rfl rfl ?_
      refine MF.iand C e_X0_live_46 ?_
      refine MF.join (fun j : Int32 → Sg → Option (Int32 × Sg) => ∀ (a7 : Int32) (s8 : Sg), MF l E X (fun q : Int32 × Sg => QI E X q.1 q.2) (j a7 s8) s8 65 [(0, .ref (ead E 52)), (1, .int x1), (2, .int x2), (3, .int x3), (4, .int a7)] []) ?_ (fun j9 hj9 => ?_)
      · intro a7 s8
        refine MF.aload_n C e_X0_live_65 0 rfl rfl ?_
        refine MF.dup C e_X0_live_66 rfl ?_
        refine MF.get C cf_X0 l_X0_46 e_X0_live_67 kF_52_9 ?_
        refine MF.iconst (v := (1 : Int32)) C e_X0_live_70 rfl ?_
        refine MF.iadd C e_X0_live_71 ?_
        refine MF.put C cf_X0 l_X0_46 p_X0_9 e_X0_live_72 kF_52_9 rfl ?_
        refine MF.nmS (fun s10 => ?_)
        refine MF.goto (tgt := 3) C e_X0_live_75 (by decide) ?_
        exact hself3 a7 s10
      refine MF.if_eq (tgt := 65) C e_X0_live_47 (by decide) (fun _ => ?_) (fun _ => ?_)
      · exact hj9 i1 s2
      · refine MF.aload_n C e_X0_live_50 0 rfl rfl ?_
        refine MF.iload_n C e_X0_live_51 1 rfl rfl ?_
        refine MF.aload_n C e_X0_live_52 0 rfl rfl ?_
        refine MF.get C cf_X0 l_X0_46 e_X0_live_53 kF_52_9 ?_
        refine MF.callVI (As := [.int x1, .int (s2 52 9)]) C (R_X0_isRenamed hD x1 (s2 52 9) s2) m_X0_isRenamed k_X0_117 kO_52 rfl (by decide) e_X0_live_56 rfl rfl (Nat.le_of_ble_eq_true rfl) (fun v11 s12 => ?_)
        refine MF.if_eq (tgt := 65) C e_X0_live_59 (by decide) (fun _ => ?_) (fun _ => ?_)
        · exact hj9 i1 s12
        · refine MF.iinc (v := (1 : Int32)) (lv' := [(0, .ref (ead E 52)), (1, .int x1), (2, .int x2), (3, .int x3), (4, .int (i1 + (1 : Int32)))]) C e_X0_live_62 4 rfl rfl (by decide) rfl ?_
          exact hj9 (i1 + (1 : Int32)) s12
end WK
end
