section
-- ===== PART A: goes FIRST, ahead of the names: the tables' words, and 'selects' of the private methods out of them =====
/-- a private method of a class that the tables say can be made, by its rows of tables_1 -/
def lw_okq (q : MethodName × Nat) : Prop := (q.1.cls ≠ "java/lang/invoke/MethodHandle" ∧ q.1.cls ≠ "java/lang/invoke/VarHandle") ∧ Cond.instantiable q.1.cls q.2 ∈ tables_1 ∧ Cond.privateMethod q.1 ∈ tables_1 ∧ Cond.instanceMethod q.1 ∈ tables_1
theorem lw_p0 : lw_okq (⟨"PassBill", "shelfAt", "(I)LPassBill$Shelf;"⟩, 13) := ⟨⟨by decide +kernel, by decide +kernel⟩, List.mem_of_getElem? (i := 15) (by decide +kernel), List.mem_of_getElem? (i := 290) (by decide +kernel), List.mem_of_getElem? (i := 291) (by decide +kernel)⟩
theorem lw_p1 : lw_okq (⟨"PassBill", "joinFromRow", "(LPassBill$Shelf;I)Z"⟩, 13) := ⟨⟨by decide +kernel, by decide +kernel⟩, List.mem_of_getElem? (i := 15) (by decide +kernel), List.mem_of_getElem? (i := 298) (by decide +kernel), List.mem_of_getElem? (i := 299) (by decide +kernel)⟩
theorem lw_p2 : lw_okq (⟨"PassBill$Changes", "forgetOldest", "()V"⟩, 5) := ⟨⟨by decide +kernel, by decide +kernel⟩, List.mem_of_getElem? (i := 131) (by decide +kernel), List.mem_of_getElem? (i := 315) (by decide +kernel), List.mem_of_getElem? (i := 316) (by decide +kernel)⟩
theorem lw_p3 : lw_okq (⟨"PassBill$Reader", "readLine", "()Z"⟩, 5) := ⟨⟨by decide +kernel, by decide +kernel⟩, List.mem_of_getElem? (i := 105) (by decide +kernel), List.mem_of_getElem? (i := 342) (by decide +kernel), List.mem_of_getElem? (i := 343) (by decide +kernel)⟩
theorem lw_p4 : lw_okq (⟨"PassBill$Reader", "readRung", "(II)Z"⟩, 5) := ⟨⟨by decide +kernel, by decide +kernel⟩, List.mem_of_getElem? (i := 105) (by decide +kernel), List.mem_of_getElem? (i := 346) (by decide +kernel), List.mem_of_getElem? (i := 347) (by decide +kernel)⟩
theorem lw_p5 : lw_okq (⟨"PassBill$Reader", "readOperand", "(I)Z"⟩, 5) := ⟨⟨by decide +kernel, by decide +kernel⟩, List.mem_of_getElem? (i := 105) (by decide +kernel), List.mem_of_getElem? (i := 350) (by decide +kernel), List.mem_of_getElem? (i := 351) (by decide +kernel)⟩
theorem lw_p6 : lw_okq (⟨"PassBill$Reader", "readNumber", "()V"⟩, 5) := ⟨⟨by decide +kernel, by decide +kernel⟩, List.mem_of_getElem? (i := 105) (by decide +kernel), List.mem_of_getElem? (i := 361) (by decide +kernel), List.mem_of_getElem? (i := 362) (by decide +kernel)⟩
theorem lw_p7 : lw_okq (⟨"PassBill", "worthBy", "(II)I"⟩, 13) := ⟨⟨by decide +kernel, by decide +kernel⟩, List.mem_of_getElem? (i := 15) (by decide +kernel), List.mem_of_getElem? (i := 485) (by decide +kernel), List.mem_of_getElem? (i := 486) (by decide +kernel)⟩
theorem lw_p8 : lw_okq (⟨"PassBill", "fillWorths", "(I)V"⟩, 13) := ⟨⟨by decide +kernel, by decide +kernel⟩, List.mem_of_getElem? (i := 15) (by decide +kernel), List.mem_of_getElem? (i := 504) (by decide +kernel), List.mem_of_getElem? (i := 505) (by decide +kernel)⟩
theorem lw_p9 : lw_okq (⟨"PassBill", "habitIn", "(II)I"⟩, 13) := ⟨⟨by decide +kernel, by decide +kernel⟩, List.mem_of_getElem? (i := 15) (by decide +kernel), List.mem_of_getElem? (i := 508) (by decide +kernel), List.mem_of_getElem? (i := 509) (by decide +kernel)⟩
theorem lw_p10 : lw_okq (⟨"PassBill", "placeIn", "(I)I"⟩, 13) := ⟨⟨by decide +kernel, by decide +kernel⟩, List.mem_of_getElem? (i := 15) (by decide +kernel), List.mem_of_getElem? (i := 512) (by decide +kernel), List.mem_of_getElem? (i := 513) (by decide +kernel)⟩
theorem lw_p11 : lw_okq (⟨"PassBill", "setWorthIn", "(III)V"⟩, 13) := ⟨⟨by decide +kernel, by decide +kernel⟩, List.mem_of_getElem? (i := 15) (by decide +kernel), List.mem_of_getElem? (i := 516) (by decide +kernel), List.mem_of_getElem? (i := 517) (by decide +kernel)⟩
theorem lw_p12 : lw_okq (⟨"PassBill", "isRowAtRest", "(I)Z"⟩, 13) := ⟨⟨by decide +kernel, by decide +kernel⟩, List.mem_of_getElem? (i := 15) (by decide +kernel), List.mem_of_getElem? (i := 520) (by decide +kernel), List.mem_of_getElem? (i := 521) (by decide +kernel)⟩
theorem lw_p13 : lw_okq (⟨"PassBill", "worthIn", "(II)I"⟩, 13) := ⟨⟨by decide +kernel, by decide +kernel⟩, List.mem_of_getElem? (i := 15) (by decide +kernel), List.mem_of_getElem? (i := 524) (by decide +kernel), List.mem_of_getElem? (i := 525) (by decide +kernel)⟩
theorem lw_p14 : lw_okq (⟨"PassBill", "nobodyStaysGladly", "()Z"⟩, 13) := ⟨⟨by decide +kernel, by decide +kernel⟩, List.mem_of_getElem? (i := 15) (by decide +kernel), List.mem_of_getElem? (i := 532) (by decide +kernel), List.mem_of_getElem? (i := 533) (by decide +kernel)⟩
theorem lw_p15 : lw_okq (⟨"PassBill", "pooled", "(I)I"⟩, 13) := ⟨⟨by decide +kernel, by decide +kernel⟩, List.mem_of_getElem? (i := 15) (by decide +kernel), List.mem_of_getElem? (i := 541) (by decide +kernel), List.mem_of_getElem? (i := 542) (by decide +kernel)⟩
def lw_privs_1 : List (MethodName × Nat) := [(⟨"PassBill", "shelfAt", "(I)LPassBill$Shelf;"⟩, 13), (⟨"PassBill", "joinFromRow", "(LPassBill$Shelf;I)Z"⟩, 13), (⟨"PassBill$Changes", "forgetOldest", "()V"⟩, 5), (⟨"PassBill$Reader", "readLine", "()Z"⟩, 5), (⟨"PassBill$Reader", "readRung", "(II)Z"⟩, 5), (⟨"PassBill$Reader", "readOperand", "(I)Z"⟩, 5), (⟨"PassBill$Reader", "readNumber", "()V"⟩, 5), (⟨"PassBill", "worthBy", "(II)I"⟩, 13), (⟨"PassBill", "fillWorths", "(I)V"⟩, 13), (⟨"PassBill", "habitIn", "(II)I"⟩, 13), (⟨"PassBill", "placeIn", "(I)I"⟩, 13), (⟨"PassBill", "setWorthIn", "(III)V"⟩, 13), (⟨"PassBill", "isRowAtRest", "(I)Z"⟩, 13), (⟨"PassBill", "worthIn", "(II)I"⟩, 13), (⟨"PassBill", "nobodyStaysGladly", "()Z"⟩, 13), (⟨"PassBill", "pooled", "(I)I"⟩, 13)]
theorem lw_r1 : ∀ q ∈ lw_privs_1, lw_okq q := List.forall_mem_cons.mpr ⟨lw_p0, List.forall_mem_cons.mpr ⟨lw_p1, List.forall_mem_cons.mpr ⟨lw_p2, List.forall_mem_cons.mpr ⟨lw_p3, List.forall_mem_cons.mpr ⟨lw_p4, List.forall_mem_cons.mpr ⟨lw_p5, List.forall_mem_cons.mpr ⟨lw_p6, List.forall_mem_cons.mpr ⟨lw_p7, List.forall_mem_cons.mpr ⟨lw_p8, List.forall_mem_cons.mpr ⟨lw_p9, List.forall_mem_cons.mpr ⟨lw_p10, List.forall_mem_cons.mpr ⟨lw_p11, List.forall_mem_cons.mpr ⟨lw_p12, List.forall_mem_cons.mpr ⟨lw_p13, List.forall_mem_cons.mpr ⟨lw_p14, List.forall_mem_cons.mpr ⟨lw_p15, fun _ h => absurd h List.not_mem_nil⟩⟩⟩⟩⟩⟩⟩⟩⟩⟩⟩⟩⟩⟩⟩⟩
theorem lw_p16 : lw_okq (⟨"PassBill", "purseBy", "(III)I"⟩, 13) := ⟨⟨by decide +kernel, by decide +kernel⟩, List.mem_of_getElem? (i := 15) (by decide +kernel), List.mem_of_getElem? (i := 568) (by decide +kernel), List.mem_of_getElem? (i := 569) (by decide +kernel)⟩
theorem lw_p17 : lw_okq (⟨"PassBill", "readBilled", "(I)I"⟩, 13) := ⟨⟨by decide +kernel, by decide +kernel⟩, List.mem_of_getElem? (i := 15) (by decide +kernel), List.mem_of_getElem? (i := 576) (by decide +kernel), List.mem_of_getElem? (i := 577) (by decide +kernel)⟩
theorem lw_p18 : lw_okq (⟨"PassBill", "fittingOf", "(II)I"⟩, 13) := ⟨⟨by decide +kernel, by decide +kernel⟩, List.mem_of_getElem? (i := 15) (by decide +kernel), List.mem_of_getElem? (i := 593) (by decide +kernel), List.mem_of_getElem? (i := 594) (by decide +kernel)⟩
theorem lw_p19 : lw_okq (⟨"PassBill", "isAllSo", "()Z"⟩, 13) := ⟨⟨by decide +kernel, by decide +kernel⟩, List.mem_of_getElem? (i := 15) (by decide +kernel), List.mem_of_getElem? (i := 597) (by decide +kernel), List.mem_of_getElem? (i := 598) (by decide +kernel)⟩
theorem lw_p20 : lw_okq (⟨"PassBill", "fittingSnows", "(Z)I"⟩, 13) := ⟨⟨by decide +kernel, by decide +kernel⟩, List.mem_of_getElem? (i := 15) (by decide +kernel), List.mem_of_getElem? (i := 601) (by decide +kernel), List.mem_of_getElem? (i := 602) (by decide +kernel)⟩
theorem lw_p21 : lw_okq (⟨"PassBill", "fittingEars", "(Z)I"⟩, 13) := ⟨⟨by decide +kernel, by decide +kernel⟩, List.mem_of_getElem? (i := 15) (by decide +kernel), List.mem_of_getElem? (i := 609) (by decide +kernel), List.mem_of_getElem? (i := 610) (by decide +kernel)⟩
theorem lw_p22 : lw_okq (⟨"PassBill", "leastSaid", "()I"⟩, 13) := ⟨⟨by decide +kernel, by decide +kernel⟩, List.mem_of_getElem? (i := 15) (by decide +kernel), List.mem_of_getElem? (i := 619) (by decide +kernel), List.mem_of_getElem? (i := 620) (by decide +kernel)⟩
theorem lw_p23 : lw_okq (⟨"PassBill", "thinkSilent", "(I)V"⟩, 13) := ⟨⟨by decide +kernel, by decide +kernel⟩, List.mem_of_getElem? (i := 15) (by decide +kernel), List.mem_of_getElem? (i := 629) (by decide +kernel), List.mem_of_getElem? (i := 630) (by decide +kernel)⟩
theorem lw_p24 : lw_okq (⟨"PassBill", "dearest", "()I"⟩, 13) := ⟨⟨by decide +kernel, by decide +kernel⟩, List.mem_of_getElem? (i := 15) (by decide +kernel), List.mem_of_getElem? (i := 633) (by decide +kernel), List.mem_of_getElem? (i := 634) (by decide +kernel)⟩
theorem lw_p25 : lw_okq (⟨"PassBill", "alike", "()I"⟩, 13) := ⟨⟨by decide +kernel, by decide +kernel⟩, List.mem_of_getElem? (i := 15) (by decide +kernel), List.mem_of_getElem? (i := 637) (by decide +kernel), List.mem_of_getElem? (i := 638) (by decide +kernel)⟩
theorem lw_p26 : lw_okq (⟨"PassBill", "shareBehind", "(IIIZ)I"⟩, 13) := ⟨⟨by decide +kernel, by decide +kernel⟩, List.mem_of_getElem? (i := 15) (by decide +kernel), List.mem_of_getElem? (i := 646) (by decide +kernel), List.mem_of_getElem? (i := 647) (by decide +kernel)⟩
theorem lw_p27 : lw_okq (⟨"PassBill", "stir", "(II)V"⟩, 13) := ⟨⟨by decide +kernel, by decide +kernel⟩, List.mem_of_getElem? (i := 15) (by decide +kernel), List.mem_of_getElem? (i := 658) (by decide +kernel), List.mem_of_getElem? (i := 659) (by decide +kernel)⟩
theorem lw_p28 : lw_okq (⟨"PassBill$Bodies", "perform", "(IIII)I"⟩, 5) := ⟨⟨by decide +kernel, by decide +kernel⟩, List.mem_of_getElem? (i := 171) (by decide +kernel), List.mem_of_getElem? (i := 733) (by decide +kernel), List.mem_of_getElem? (i := 734) (by decide +kernel)⟩
theorem lw_p29 : lw_okq (⟨"PassBill$Bodies", "ownerOf", "(II)I"⟩, 5) := ⟨⟨by decide +kernel, by decide +kernel⟩, List.mem_of_getElem? (i := 171) (by decide +kernel), List.mem_of_getElem? (i := 737) (by decide +kernel), List.mem_of_getElem? (i := 738) (by decide +kernel)⟩
theorem lw_p30 : lw_okq (⟨"PassBill$Bodies", "begin", "(I)V"⟩, 5) := ⟨⟨by decide +kernel, by decide +kernel⟩, List.mem_of_getElem? (i := 171) (by decide +kernel), List.mem_of_getElem? (i := 746) (by decide +kernel), List.mem_of_getElem? (i := 747) (by decide +kernel)⟩
theorem lw_p31 : lw_okq (⟨"PassBill$Bodies", "again", "(III)I"⟩, 5) := ⟨⟨by decide +kernel, by decide +kernel⟩, List.mem_of_getElem? (i := 171) (by decide +kernel), List.mem_of_getElem? (i := 750) (by decide +kernel), List.mem_of_getElem? (i := 751) (by decide +kernel)⟩
def lw_privs_2 : List (MethodName × Nat) := [(⟨"PassBill", "purseBy", "(III)I"⟩, 13), (⟨"PassBill", "readBilled", "(I)I"⟩, 13), (⟨"PassBill", "fittingOf", "(II)I"⟩, 13), (⟨"PassBill", "isAllSo", "()Z"⟩, 13), (⟨"PassBill", "fittingSnows", "(Z)I"⟩, 13), (⟨"PassBill", "fittingEars", "(Z)I"⟩, 13), (⟨"PassBill", "leastSaid", "()I"⟩, 13), (⟨"PassBill", "thinkSilent", "(I)V"⟩, 13), (⟨"PassBill", "dearest", "()I"⟩, 13), (⟨"PassBill", "alike", "()I"⟩, 13), (⟨"PassBill", "shareBehind", "(IIIZ)I"⟩, 13), (⟨"PassBill", "stir", "(II)V"⟩, 13), (⟨"PassBill$Bodies", "perform", "(IIII)I"⟩, 5), (⟨"PassBill$Bodies", "ownerOf", "(II)I"⟩, 5), (⟨"PassBill$Bodies", "begin", "(I)V"⟩, 5), (⟨"PassBill$Bodies", "again", "(III)I"⟩, 5)]
theorem lw_r2 : ∀ q ∈ lw_privs_2, lw_okq q := List.forall_mem_cons.mpr ⟨lw_p16, List.forall_mem_cons.mpr ⟨lw_p17, List.forall_mem_cons.mpr ⟨lw_p18, List.forall_mem_cons.mpr ⟨lw_p19, List.forall_mem_cons.mpr ⟨lw_p20, List.forall_mem_cons.mpr ⟨lw_p21, List.forall_mem_cons.mpr ⟨lw_p22, List.forall_mem_cons.mpr ⟨lw_p23, List.forall_mem_cons.mpr ⟨lw_p24, List.forall_mem_cons.mpr ⟨lw_p25, List.forall_mem_cons.mpr ⟨lw_p26, List.forall_mem_cons.mpr ⟨lw_p27, List.forall_mem_cons.mpr ⟨lw_p28, List.forall_mem_cons.mpr ⟨lw_p29, List.forall_mem_cons.mpr ⟨lw_p30, List.forall_mem_cons.mpr ⟨lw_p31, fun _ h => absurd h List.not_mem_nil⟩⟩⟩⟩⟩⟩⟩⟩⟩⟩⟩⟩⟩⟩⟩⟩
theorem lw_p32 : lw_okq (⟨"PassBill$Shelf", "lowest", "(J)J"⟩, 4) := ⟨⟨by decide +kernel, by decide +kernel⟩, List.mem_of_getElem? (i := 198) (by decide +kernel), List.mem_of_getElem? (i := 785) (by decide +kernel), List.mem_of_getElem? (i := 786) (by decide +kernel)⟩
theorem lw_p33 : lw_okq (⟨"PassBill", "howManyAssessed", "()I"⟩, 13) := ⟨⟨by decide +kernel, by decide +kernel⟩, List.mem_of_getElem? (i := 15) (by decide +kernel), List.mem_of_getElem? (i := 810) (by decide +kernel), List.mem_of_getElem? (i := 811) (by decide +kernel)⟩
theorem lw_p34 : lw_okq (⟨"PassBillModel", "addOne", "(III)I"⟩, 58) := ⟨⟨by decide +kernel, by decide +kernel⟩, List.mem_of_getElem? (i := 814) (by decide +kernel), List.mem_of_getElem? (i := 1003) (by decide +kernel), List.mem_of_getElem? (i := 1004) (by decide +kernel)⟩
theorem lw_p35 : lw_okq (⟨"PassBillModel", "lays", "(III)V"⟩, 58) := ⟨⟨by decide +kernel, by decide +kernel⟩, List.mem_of_getElem? (i := 814) (by decide +kernel), List.mem_of_getElem? (i := 1019) (by decide +kernel), List.mem_of_getElem? (i := 1020) (by decide +kernel)⟩
theorem lw_p36 : lw_okq (⟨"PassBillModel", "isPlace", "(II)Z"⟩, 58) := ⟨⟨by decide +kernel, by decide +kernel⟩, List.mem_of_getElem? (i := 814) (by decide +kernel), List.mem_of_getElem? (i := 1031) (by decide +kernel), List.mem_of_getElem? (i := 1032) (by decide +kernel)⟩
theorem lw_p37 : lw_okq (⟨"PassBillModel", "isOne", "(I)Z"⟩, 58) := ⟨⟨by decide +kernel, by decide +kernel⟩, List.mem_of_getElem? (i := 814) (by decide +kernel), List.mem_of_getElem? (i := 1035) (by decide +kernel), List.mem_of_getElem? (i := 1036) (by decide +kernel)⟩
theorem lw_p38 : lw_okq (⟨"PassBillModel", "changes", "(III)I"⟩, 58) := ⟨⟨by decide +kernel, by decide +kernel⟩, List.mem_of_getElem? (i := 814) (by decide +kernel), List.mem_of_getElem? (i := 1042) (by decide +kernel), List.mem_of_getElem? (i := 1043) (by decide +kernel)⟩
theorem lw_p39 : lw_okq (⟨"PassBillModel", "valueAt", "(II)I"⟩, 58) := ⟨⟨by decide +kernel, by decide +kernel⟩, List.mem_of_getElem? (i := 814) (by decide +kernel), List.mem_of_getElem? (i := 1046) (by decide +kernel), List.mem_of_getElem? (i := 1047) (by decide +kernel)⟩
theorem lw_p40 : lw_okq (⟨"PassBillModel", "readText", "(I)I"⟩, 58) := ⟨⟨by decide +kernel, by decide +kernel⟩, List.mem_of_getElem? (i := 814) (by decide +kernel), List.mem_of_getElem? (i := 1062) (by decide +kernel), List.mem_of_getElem? (i := 1063) (by decide +kernel)⟩
theorem lw_p41 : lw_okq (⟨"PassBillModel", "line", "()V"⟩, 58) := ⟨⟨by decide +kernel, by decide +kernel⟩, List.mem_of_getElem? (i := 814) (by decide +kernel), List.mem_of_getElem? (i := 1066) (by decide +kernel), List.mem_of_getElem? (i := 1067) (by decide +kernel)⟩
theorem lw_p42 : lw_okq (⟨"PassBillModel", "either", "()V"⟩, 58) := ⟨⟨by decide +kernel, by decide +kernel⟩, List.mem_of_getElem? (i := 814) (by decide +kernel), List.mem_of_getElem? (i := 1070) (by decide +kernel), List.mem_of_getElem? (i := 1071) (by decide +kernel)⟩
theorem lw_p43 : lw_okq (⟨"PassBillModel", "both", "()V"⟩, 58) := ⟨⟨by decide +kernel, by decide +kernel⟩, List.mem_of_getElem? (i := 814) (by decide +kernel), List.mem_of_getElem? (i := 1074) (by decide +kernel), List.mem_of_getElem? (i := 1075) (by decide +kernel)⟩
theorem lw_p44 : lw_okq (⟨"PassBillModel", "compared", "()V"⟩, 58) := ⟨⟨by decide +kernel, by decide +kernel⟩, List.mem_of_getElem? (i := 814) (by decide +kernel), List.mem_of_getElem? (i := 1078) (by decide +kernel), List.mem_of_getElem? (i := 1079) (by decide +kernel)⟩
theorem lw_p45 : lw_okq (⟨"PassBillModel", "sum", "()V"⟩, 58) := ⟨⟨by decide +kernel, by decide +kernel⟩, List.mem_of_getElem? (i := 814) (by decide +kernel), List.mem_of_getElem? (i := 1082) (by decide +kernel), List.mem_of_getElem? (i := 1083) (by decide +kernel)⟩
theorem lw_p46 : lw_okq (⟨"PassBillModel", "product", "()V"⟩, 58) := ⟨⟨by decide +kernel, by decide +kernel⟩, List.mem_of_getElem? (i := 814) (by decide +kernel), List.mem_of_getElem? (i := 1086) (by decide +kernel), List.mem_of_getElem? (i := 1087) (by decide +kernel)⟩
theorem lw_p47 : lw_okq (⟨"PassBillModel", "operand", "()V"⟩, 58) := ⟨⟨by decide +kernel, by decide +kernel⟩, List.mem_of_getElem? (i := 814) (by decide +kernel), List.mem_of_getElem? (i := 1090) (by decide +kernel), List.mem_of_getElem? (i := 1091) (by decide +kernel)⟩
def lw_privs_3 : List (MethodName × Nat) := [(⟨"PassBill$Shelf", "lowest", "(J)J"⟩, 4), (⟨"PassBill", "howManyAssessed", "()I"⟩, 13), (⟨"PassBillModel", "addOne", "(III)I"⟩, 58), (⟨"PassBillModel", "lays", "(III)V"⟩, 58), (⟨"PassBillModel", "isPlace", "(II)Z"⟩, 58), (⟨"PassBillModel", "isOne", "(I)Z"⟩, 58), (⟨"PassBillModel", "changes", "(III)I"⟩, 58), (⟨"PassBillModel", "valueAt", "(II)I"⟩, 58), (⟨"PassBillModel", "readText", "(I)I"⟩, 58), (⟨"PassBillModel", "line", "()V"⟩, 58), (⟨"PassBillModel", "either", "()V"⟩, 58), (⟨"PassBillModel", "both", "()V"⟩, 58), (⟨"PassBillModel", "compared", "()V"⟩, 58), (⟨"PassBillModel", "sum", "()V"⟩, 58), (⟨"PassBillModel", "product", "()V"⟩, 58), (⟨"PassBillModel", "operand", "()V"⟩, 58)]
theorem lw_r3 : ∀ q ∈ lw_privs_3, lw_okq q := List.forall_mem_cons.mpr ⟨lw_p32, List.forall_mem_cons.mpr ⟨lw_p33, List.forall_mem_cons.mpr ⟨lw_p34, List.forall_mem_cons.mpr ⟨lw_p35, List.forall_mem_cons.mpr ⟨lw_p36, List.forall_mem_cons.mpr ⟨lw_p37, List.forall_mem_cons.mpr ⟨lw_p38, List.forall_mem_cons.mpr ⟨lw_p39, List.forall_mem_cons.mpr ⟨lw_p40, List.forall_mem_cons.mpr ⟨lw_p41, List.forall_mem_cons.mpr ⟨lw_p42, List.forall_mem_cons.mpr ⟨lw_p43, List.forall_mem_cons.mpr ⟨lw_p44, List.forall_mem_cons.mpr ⟨lw_p45, List.forall_mem_cons.mpr ⟨lw_p46, List.forall_mem_cons.mpr ⟨lw_p47, fun _ h => absurd h List.not_mem_nil⟩⟩⟩⟩⟩⟩⟩⟩⟩⟩⟩⟩⟩⟩⟩⟩
theorem lw_p48 : lw_okq (⟨"PassBillModel", "look", "()I"⟩, 58) := ⟨⟨by decide +kernel, by decide +kernel⟩, List.mem_of_getElem? (i := 814) (by decide +kernel), List.mem_of_getElem? (i := 1094) (by decide +kernel), List.mem_of_getElem? (i := 1095) (by decide +kernel)⟩
theorem lw_p49 : lw_okq (⟨"PassBillModel", "addStep", "(II)V"⟩, 58) := ⟨⟨by decide +kernel, by decide +kernel⟩, List.mem_of_getElem? (i := 814) (by decide +kernel), List.mem_of_getElem? (i := 1101) (by decide +kernel), List.mem_of_getElem? (i := 1102) (by decide +kernel)⟩
theorem lw_p50 : lw_okq (⟨"PassBillModel", "opens", "()Z"⟩, 58) := ⟨⟨by decide +kernel, by decide +kernel⟩, List.mem_of_getElem? (i := 814) (by decide +kernel), List.mem_of_getElem? (i := 1105) (by decide +kernel), List.mem_of_getElem? (i := 1106) (by decide +kernel)⟩
theorem lw_p51 : lw_okq (⟨"PassBillModel", "wrong", "()V"⟩, 58) := ⟨⟨by decide +kernel, by decide +kernel⟩, List.mem_of_getElem? (i := 814) (by decide +kernel), List.mem_of_getElem? (i := 1109) (by decide +kernel), List.mem_of_getElem? (i := 1110) (by decide +kernel)⟩
theorem lw_p52 : lw_okq (⟨"PassBillModel", "figure", "()V"⟩, 58) := ⟨⟨by decide +kernel, by decide +kernel⟩, List.mem_of_getElem? (i := 814) (by decide +kernel), List.mem_of_getElem? (i := 1113) (by decide +kernel), List.mem_of_getElem? (i := 1114) (by decide +kernel)⟩
theorem lw_p53 : lw_okq (⟨"PassBillModel", "layNow", "()V"⟩, 58) := ⟨⟨by decide +kernel, by decide +kernel⟩, List.mem_of_getElem? (i := 814) (by decide +kernel), List.mem_of_getElem? (i := 1121) (by decide +kernel), List.mem_of_getElem? (i := 1122) (by decide +kernel)⟩
theorem lw_p54 : lw_okq (⟨"PassBillModel", "laySnow", "()V"⟩, 58) := ⟨⟨by decide +kernel, by decide +kernel⟩, List.mem_of_getElem? (i := 814) (by decide +kernel), List.mem_of_getElem? (i := 1125) (by decide +kernel), List.mem_of_getElem? (i := 1126) (by decide +kernel)⟩
theorem lw_p55 : lw_okq (⟨"PassBillModel", "countsBy", "(I)I"⟩, 58) := ⟨⟨by decide +kernel, by decide +kernel⟩, List.mem_of_getElem? (i := 814) (by decide +kernel), List.mem_of_getElem? (i := 1129) (by decide +kernel), List.mem_of_getElem? (i := 1130) (by decide +kernel)⟩
theorem lw_p56 : lw_okq (⟨"PassBillModel", "othersSay", "(I)I"⟩, 58) := ⟨⟨by decide +kernel, by decide +kernel⟩, List.mem_of_getElem? (i := 814) (by decide +kernel), List.mem_of_getElem? (i := 1133) (by decide +kernel), List.mem_of_getElem? (i := 1134) (by decide +kernel)⟩
theorem lw_p57 : lw_okq (⟨"PassBillModel", "says", "(I)Z"⟩, 58) := ⟨⟨by decide +kernel, by decide +kernel⟩, List.mem_of_getElem? (i := 814) (by decide +kernel), List.mem_of_getElem? (i := 1137) (by decide +kernel), List.mem_of_getElem? (i := 1138) (by decide +kernel)⟩
theorem lw_p58 : lw_okq (⟨"PassBillModel", "leaving", "()I"⟩, 58) := ⟨⟨by decide +kernel, by decide +kernel⟩, List.mem_of_getElem? (i := 814) (by decide +kernel), List.mem_of_getElem? (i := 1141) (by decide +kernel), List.mem_of_getElem? (i := 1142) (by decide +kernel)⟩
theorem lw_p59 : lw_okq (⟨"PassBillModel", "leaves", "(I)Z"⟩, 58) := ⟨⟨by decide +kernel, by decide +kernel⟩, List.mem_of_getElem? (i := 814) (by decide +kernel), List.mem_of_getElem? (i := 1145) (by decide +kernel), List.mem_of_getElem? (i := 1146) (by decide +kernel)⟩
theorem lw_p60 : lw_okq (⟨"PassBillModel", "givesText", "(I)I"⟩, 58) := ⟨⟨by decide +kernel, by decide +kernel⟩, List.mem_of_getElem? (i := 814) (by decide +kernel), List.mem_of_getElem? (i := 1149) (by decide +kernel), List.mem_of_getElem? (i := 1150) (by decide +kernel)⟩
theorem lw_p61 : lw_okq (⟨"PassBillModel", "worked", "(III)I"⟩, 58) := ⟨⟨by decide +kernel, by decide +kernel⟩, List.mem_of_getElem? (i := 814) (by decide +kernel), List.mem_of_getElem? (i := 1153) (by decide +kernel), List.mem_of_getElem? (i := 1154) (by decide +kernel)⟩
theorem lw_p62 : lw_okq (⟨"PassBillModel", "assess", "()V"⟩, 58) := ⟨⟨by decide +kernel, by decide +kernel⟩, List.mem_of_getElem? (i := 814) (by decide +kernel), List.mem_of_getElem? (i := 1164) (by decide +kernel), List.mem_of_getElem? (i := 1165) (by decide +kernel)⟩
theorem lw_p63 : lw_okq (⟨"PassBillModel", "theBill", "()I"⟩, 58) := ⟨⟨by decide +kernel, by decide +kernel⟩, List.mem_of_getElem? (i := 814) (by decide +kernel), List.mem_of_getElem? (i := 1168) (by decide +kernel), List.mem_of_getElem? (i := 1169) (by decide +kernel)⟩
def lw_privs_4 : List (MethodName × Nat) := [(⟨"PassBillModel", "look", "()I"⟩, 58), (⟨"PassBillModel", "addStep", "(II)V"⟩, 58), (⟨"PassBillModel", "opens", "()Z"⟩, 58), (⟨"PassBillModel", "wrong", "()V"⟩, 58), (⟨"PassBillModel", "figure", "()V"⟩, 58), (⟨"PassBillModel", "layNow", "()V"⟩, 58), (⟨"PassBillModel", "laySnow", "()V"⟩, 58), (⟨"PassBillModel", "countsBy", "(I)I"⟩, 58), (⟨"PassBillModel", "othersSay", "(I)I"⟩, 58), (⟨"PassBillModel", "says", "(I)Z"⟩, 58), (⟨"PassBillModel", "leaving", "()I"⟩, 58), (⟨"PassBillModel", "leaves", "(I)Z"⟩, 58), (⟨"PassBillModel", "givesText", "(I)I"⟩, 58), (⟨"PassBillModel", "worked", "(III)I"⟩, 58), (⟨"PassBillModel", "assess", "()V"⟩, 58), (⟨"PassBillModel", "theBill", "()I"⟩, 58)]
theorem lw_r4 : ∀ q ∈ lw_privs_4, lw_okq q := List.forall_mem_cons.mpr ⟨lw_p48, List.forall_mem_cons.mpr ⟨lw_p49, List.forall_mem_cons.mpr ⟨lw_p50, List.forall_mem_cons.mpr ⟨lw_p51, List.forall_mem_cons.mpr ⟨lw_p52, List.forall_mem_cons.mpr ⟨lw_p53, List.forall_mem_cons.mpr ⟨lw_p54, List.forall_mem_cons.mpr ⟨lw_p55, List.forall_mem_cons.mpr ⟨lw_p56, List.forall_mem_cons.mpr ⟨lw_p57, List.forall_mem_cons.mpr ⟨lw_p58, List.forall_mem_cons.mpr ⟨lw_p59, List.forall_mem_cons.mpr ⟨lw_p60, List.forall_mem_cons.mpr ⟨lw_p61, List.forall_mem_cons.mpr ⟨lw_p62, List.forall_mem_cons.mpr ⟨lw_p63, fun _ h => absurd h List.not_mem_nil⟩⟩⟩⟩⟩⟩⟩⟩⟩⟩⟩⟩⟩⟩⟩⟩
theorem lw_p64 : lw_okq (⟨"PassBillModel", "everybody", "()I"⟩, 58) := ⟨⟨by decide +kernel, by decide +kernel⟩, List.mem_of_getElem? (i := 814) (by decide +kernel), List.mem_of_getElem? (i := 1172) (by decide +kernel), List.mem_of_getElem? (i := 1173) (by decide +kernel)⟩
theorem lw_p65 : lw_okq (⟨"PassBillModel", "sharesOf", "(I)I"⟩, 58) := ⟨⟨by decide +kernel, by decide +kernel⟩, List.mem_of_getElem? (i := 814) (by decide +kernel), List.mem_of_getElem? (i := 1176) (by decide +kernel), List.mem_of_getElem? (i := 1177) (by decide +kernel)⟩
theorem lw_p66 : lw_okq (⟨"PassBillModel", "shareOf", "(I)I"⟩, 58) := ⟨⟨by decide +kernel, by decide +kernel⟩, List.mem_of_getElem? (i := 814) (by decide +kernel), List.mem_of_getElem? (i := 1183) (by decide +kernel), List.mem_of_getElem? (i := 1184) (by decide +kernel)⟩
theorem lw_p67 : lw_okq (⟨"PassBillModel", "shareNow", "(I)I"⟩, 58) := ⟨⟨by decide +kernel, by decide +kernel⟩, List.mem_of_getElem? (i := 814) (by decide +kernel), List.mem_of_getElem? (i := 1191) (by decide +kernel), List.mem_of_getElem? (i := 1192) (by decide +kernel)⟩
theorem lw_p68 : lw_okq (⟨"PassBillModel", "worthBy", "(I)I"⟩, 58) := ⟨⟨by decide +kernel, by decide +kernel⟩, List.mem_of_getElem? (i := 814) (by decide +kernel), List.mem_of_getElem? (i := 1200) (by decide +kernel), List.mem_of_getElem? (i := 1201) (by decide +kernel)⟩
theorem lw_p69 : lw_okq (⟨"PassBillModel", "bestHabit", "(I)I"⟩, 58) := ⟨⟨by decide +kernel, by decide +kernel⟩, List.mem_of_getElem? (i := 814) (by decide +kernel), List.mem_of_getElem? (i := 1208) (by decide +kernel), List.mem_of_getElem? (i := 1209) (by decide +kernel)⟩
theorem lw_p70 : lw_okq (⟨"PassBillModel", "worthWith", "(II)I"⟩, 58) := ⟨⟨by decide +kernel, by decide +kernel⟩, List.mem_of_getElem? (i := 814) (by decide +kernel), List.mem_of_getElem? (i := 1212) (by decide +kernel), List.mem_of_getElem? (i := 1213) (by decide +kernel)⟩
theorem lw_p71 : lw_okq (⟨"PassBillModel", "areAtRest", "()Z"⟩, 58) := ⟨⟨by decide +kernel, by decide +kernel⟩, List.mem_of_getElem? (i := 814) (by decide +kernel), List.mem_of_getElem? (i := 1220) (by decide +kernel), List.mem_of_getElem? (i := 1221) (by decide +kernel)⟩
theorem lw_p72 : lw_okq (⟨"PassBillModel", "goRest", "(I)V"⟩, 58) := ⟨⟨by decide +kernel, by decide +kernel⟩, List.mem_of_getElem? (i := 814) (by decide +kernel), List.mem_of_getElem? (i := 1228) (by decide +kernel), List.mem_of_getElem? (i := 1229) (by decide +kernel)⟩
theorem lw_p73 : lw_okq (⟨"PassBillModel", "isFree", "()Z"⟩, 58) := ⟨⟨by decide +kernel, by decide +kernel⟩, List.mem_of_getElem? (i := 814) (by decide +kernel), List.mem_of_getElem? (i := 1236) (by decide +kernel), List.mem_of_getElem? (i := 1237) (by decide +kernel)⟩
theorem lw_p74 : lw_okq (⟨"PassBillModel", "pooledBy", "(I)I"⟩, 58) := ⟨⟨by decide +kernel, by decide +kernel⟩, List.mem_of_getElem? (i := 814) (by decide +kernel), List.mem_of_getElem? (i := 1244) (by decide +kernel), List.mem_of_getElem? (i := 1245) (by decide +kernel)⟩
theorem lw_p75 : lw_okq (⟨"PassBillModel", "assessedBits", "()I"⟩, 58) := ⟨⟨by decide +kernel, by decide +kernel⟩, List.mem_of_getElem? (i := 814) (by decide +kernel), List.mem_of_getElem? (i := 1255) (by decide +kernel), List.mem_of_getElem? (i := 1256) (by decide +kernel)⟩
theorem lw_p76 : lw_okq (⟨"PassBillModel", "goYears", "(I)V"⟩, 58) := ⟨⟨by decide +kernel, by decide +kernel⟩, List.mem_of_getElem? (i := 814) (by decide +kernel), List.mem_of_getElem? (i := 1263) (by decide +kernel), List.mem_of_getElem? (i := 1264) (by decide +kernel)⟩
theorem lw_p77 : lw_okq (⟨"PassBillModel", "goYear", "()V"⟩, 58) := ⟨⟨by decide +kernel, by decide +kernel⟩, List.mem_of_getElem? (i := 814) (by decide +kernel), List.mem_of_getElem? (i := 1267) (by decide +kernel), List.mem_of_getElem? (i := 1268) (by decide +kernel)⟩
theorem lw_p78 : lw_okq (⟨"PassBillModel", "purseWith", "(III)I"⟩, 58) := ⟨⟨by decide +kernel, by decide +kernel⟩, List.mem_of_getElem? (i := 814) (by decide +kernel), List.mem_of_getElem? (i := 1279) (by decide +kernel), List.mem_of_getElem? (i := 1280) (by decide +kernel)⟩
theorem lw_p79 : lw_okq (⟨"PassBillModel", "rowFault", "(I)I"⟩, 58) := ⟨⟨by decide +kernel, by decide +kernel⟩, List.mem_of_getElem? (i := 814) (by decide +kernel), List.mem_of_getElem? (i := 1287) (by decide +kernel), List.mem_of_getElem? (i := 1288) (by decide +kernel)⟩
def lw_privs_5 : List (MethodName × Nat) := [(⟨"PassBillModel", "everybody", "()I"⟩, 58), (⟨"PassBillModel", "sharesOf", "(I)I"⟩, 58), (⟨"PassBillModel", "shareOf", "(I)I"⟩, 58), (⟨"PassBillModel", "shareNow", "(I)I"⟩, 58), (⟨"PassBillModel", "worthBy", "(I)I"⟩, 58), (⟨"PassBillModel", "bestHabit", "(I)I"⟩, 58), (⟨"PassBillModel", "worthWith", "(II)I"⟩, 58), (⟨"PassBillModel", "areAtRest", "()Z"⟩, 58), (⟨"PassBillModel", "goRest", "(I)V"⟩, 58), (⟨"PassBillModel", "isFree", "()Z"⟩, 58), (⟨"PassBillModel", "pooledBy", "(I)I"⟩, 58), (⟨"PassBillModel", "assessedBits", "()I"⟩, 58), (⟨"PassBillModel", "goYears", "(I)V"⟩, 58), (⟨"PassBillModel", "goYear", "()V"⟩, 58), (⟨"PassBillModel", "purseWith", "(III)I"⟩, 58), (⟨"PassBillModel", "rowFault", "(I)I"⟩, 58)]
theorem lw_r5 : ∀ q ∈ lw_privs_5, lw_okq q := List.forall_mem_cons.mpr ⟨lw_p64, List.forall_mem_cons.mpr ⟨lw_p65, List.forall_mem_cons.mpr ⟨lw_p66, List.forall_mem_cons.mpr ⟨lw_p67, List.forall_mem_cons.mpr ⟨lw_p68, List.forall_mem_cons.mpr ⟨lw_p69, List.forall_mem_cons.mpr ⟨lw_p70, List.forall_mem_cons.mpr ⟨lw_p71, List.forall_mem_cons.mpr ⟨lw_p72, List.forall_mem_cons.mpr ⟨lw_p73, List.forall_mem_cons.mpr ⟨lw_p74, List.forall_mem_cons.mpr ⟨lw_p75, List.forall_mem_cons.mpr ⟨lw_p76, List.forall_mem_cons.mpr ⟨lw_p77, List.forall_mem_cons.mpr ⟨lw_p78, List.forall_mem_cons.mpr ⟨lw_p79, fun _ h => absurd h List.not_mem_nil⟩⟩⟩⟩⟩⟩⟩⟩⟩⟩⟩⟩⟩⟩⟩⟩
theorem lw_p80 : lw_okq (⟨"PassBillModel", "wrongTwo", "(I)I"⟩, 58) := ⟨⟨by decide +kernel, by decide +kernel⟩, List.mem_of_getElem? (i := 814) (by decide +kernel), List.mem_of_getElem? (i := 1291) (by decide +kernel), List.mem_of_getElem? (i := 1292) (by decide +kernel)⟩
theorem lw_p81 : lw_okq (⟨"PassBillModel", "isTwo", "(II)Z"⟩, 58) := ⟨⟨by decide +kernel, by decide +kernel⟩, List.mem_of_getElem? (i := 814) (by decide +kernel), List.mem_of_getElem? (i := 1295) (by decide +kernel), List.mem_of_getElem? (i := 1296) (by decide +kernel)⟩
theorem lw_p82 : lw_okq (⟨"PassBillModel", "at", "(II)I"⟩, 58) := ⟨⟨by decide +kernel, by decide +kernel⟩, List.mem_of_getElem? (i := 814) (by decide +kernel), List.mem_of_getElem? (i := 1299) (by decide +kernel), List.mem_of_getElem? (i := 1300) (by decide +kernel)⟩
theorem lw_p83 : lw_okq (⟨"PassBillModel", "habitBits", "(II)I"⟩, 58) := ⟨⟨by decide +kernel, by decide +kernel⟩, List.mem_of_getElem? (i := 814) (by decide +kernel), List.mem_of_getElem? (i := 1307) (by decide +kernel), List.mem_of_getElem? (i := 1308) (by decide +kernel)⟩
theorem lw_p84 : lw_okq (⟨"PassBillModel", "kindBits", "(II)I"⟩, 58) := ⟨⟨by decide +kernel, by decide +kernel⟩, List.mem_of_getElem? (i := 814) (by decide +kernel), List.mem_of_getElem? (i := 1311) (by decide +kernel), List.mem_of_getElem? (i := 1312) (by decide +kernel)⟩
theorem lw_p85 : lw_okq (⟨"PassBillModel", "snowsOf", "(IZ)I"⟩, 58) := ⟨⟨by decide +kernel, by decide +kernel⟩, List.mem_of_getElem? (i := 814) (by decide +kernel), List.mem_of_getElem? (i := 1315) (by decide +kernel), List.mem_of_getElem? (i := 1316) (by decide +kernel)⟩
theorem lw_p86 : lw_okq (⟨"PassBillModel", "earsOf", "(IZ)I"⟩, 58) := ⟨⟨by decide +kernel, by decide +kernel⟩, List.mem_of_getElem? (i := 814) (by decide +kernel), List.mem_of_getElem? (i := 1319) (by decide +kernel), List.mem_of_getElem? (i := 1320) (by decide +kernel)⟩
theorem lw_p87 : lw_okq (⟨"PassBillModel", "leastSaid", "()I"⟩, 58) := ⟨⟨by decide +kernel, by decide +kernel⟩, List.mem_of_getElem? (i := 814) (by decide +kernel), List.mem_of_getElem? (i := 1327) (by decide +kernel), List.mem_of_getElem? (i := 1328) (by decide +kernel)⟩
theorem lw_p88 : lw_okq (⟨"PassBillModel", "dearest", "()I"⟩, 58) := ⟨⟨by decide +kernel, by decide +kernel⟩, List.mem_of_getElem? (i := 814) (by decide +kernel), List.mem_of_getElem? (i := 1331) (by decide +kernel), List.mem_of_getElem? (i := 1332) (by decide +kernel)⟩
theorem lw_p89 : lw_okq (⟨"PassBillModel", "alike", "()I"⟩, 58) := ⟨⟨by decide +kernel, by decide +kernel⟩, List.mem_of_getElem? (i := 814) (by decide +kernel), List.mem_of_getElem? (i := 1335) (by decide +kernel), List.mem_of_getElem? (i := 1336) (by decide +kernel)⟩
theorem lw_p90 : lw_okq (⟨"PassBillModel", "bestOf", "(IIZ)I"⟩, 58) := ⟨⟨by decide +kernel, by decide +kernel⟩, List.mem_of_getElem? (i := 814) (by decide +kernel), List.mem_of_getElem? (i := 1343) (by decide +kernel), List.mem_of_getElem? (i := 1344) (by decide +kernel)⟩
theorem lw_p91 : lw_okq (⟨"PassBillModel", "byPick", "(IIIZ)I"⟩, 58) := ⟨⟨by decide +kernel, by decide +kernel⟩, List.mem_of_getElem? (i := 814) (by decide +kernel), List.mem_of_getElem? (i := 1347) (by decide +kernel), List.mem_of_getElem? (i := 1348) (by decide +kernel)⟩
theorem lw_p92 : lw_okq (⟨"PassBillModel", "isBody", "(I)Z"⟩, 58) := ⟨⟨by decide +kernel, by decide +kernel⟩, List.mem_of_getElem? (i := 814) (by decide +kernel), List.mem_of_getElem? (i := 1396) (by decide +kernel), List.mem_of_getElem? (i := 1397) (by decide +kernel)⟩
theorem lw_p93 : lw_okq (⟨"PassBillModel", "saying", "(II)I"⟩, 58) := ⟨⟨by decide +kernel, by decide +kernel⟩, List.mem_of_getElem? (i := 814) (by decide +kernel), List.mem_of_getElem? (i := 1400) (by decide +kernel), List.mem_of_getElem? (i := 1401) (by decide +kernel)⟩
theorem lw_p94 : lw_okq (⟨"PassBillModel", "ran", "(I)V"⟩, 58) := ⟨⟨by decide +kernel, by decide +kernel⟩, List.mem_of_getElem? (i := 814) (by decide +kernel), List.mem_of_getElem? (i := 1407) (by decide +kernel), List.mem_of_getElem? (i := 1408) (by decide +kernel)⟩
theorem lw_p95 : lw_okq (⟨"PassBillModel", "plainSays", "(II)I"⟩, 58) := ⟨⟨by decide +kernel, by decide +kernel⟩, List.mem_of_getElem? (i := 814) (by decide +kernel), List.mem_of_getElem? (i := 1411) (by decide +kernel), List.mem_of_getElem? (i := 1412) (by decide +kernel)⟩
def lw_privs_6 : List (MethodName × Nat) := [(⟨"PassBillModel", "wrongTwo", "(I)I"⟩, 58), (⟨"PassBillModel", "isTwo", "(II)Z"⟩, 58), (⟨"PassBillModel", "at", "(II)I"⟩, 58), (⟨"PassBillModel", "habitBits", "(II)I"⟩, 58), (⟨"PassBillModel", "kindBits", "(II)I"⟩, 58), (⟨"PassBillModel", "snowsOf", "(IZ)I"⟩, 58), (⟨"PassBillModel", "earsOf", "(IZ)I"⟩, 58), (⟨"PassBillModel", "leastSaid", "()I"⟩, 58), (⟨"PassBillModel", "dearest", "()I"⟩, 58), (⟨"PassBillModel", "alike", "()I"⟩, 58), (⟨"PassBillModel", "bestOf", "(IIZ)I"⟩, 58), (⟨"PassBillModel", "byPick", "(IIIZ)I"⟩, 58), (⟨"PassBillModel", "isBody", "(I)Z"⟩, 58), (⟨"PassBillModel", "saying", "(II)I"⟩, 58), (⟨"PassBillModel", "ran", "(I)V"⟩, 58), (⟨"PassBillModel", "plainSays", "(II)I"⟩, 58)]
theorem lw_r6 : ∀ q ∈ lw_privs_6, lw_okq q := List.forall_mem_cons.mpr ⟨lw_p80, List.forall_mem_cons.mpr ⟨lw_p81, List.forall_mem_cons.mpr ⟨lw_p82, List.forall_mem_cons.mpr ⟨lw_p83, List.forall_mem_cons.mpr ⟨lw_p84, List.forall_mem_cons.mpr ⟨lw_p85, List.forall_mem_cons.mpr ⟨lw_p86, List.forall_mem_cons.mpr ⟨lw_p87, List.forall_mem_cons.mpr ⟨lw_p88, List.forall_mem_cons.mpr ⟨lw_p89, List.forall_mem_cons.mpr ⟨lw_p90, List.forall_mem_cons.mpr ⟨lw_p91, List.forall_mem_cons.mpr ⟨lw_p92, List.forall_mem_cons.mpr ⟨lw_p93, List.forall_mem_cons.mpr ⟨lw_p94, List.forall_mem_cons.mpr ⟨lw_p95, fun _ h => absurd h List.not_mem_nil⟩⟩⟩⟩⟩⟩⟩⟩⟩⟩⟩⟩⟩⟩⟩⟩
theorem lw_p96 : lw_okq (⟨"PassBillModel", "nightSays", "(II)I"⟩, 58) := ⟨⟨by decide +kernel, by decide +kernel⟩, List.mem_of_getElem? (i := 814) (by decide +kernel), List.mem_of_getElem? (i := 1415) (by decide +kernel), List.mem_of_getElem? (i := 1416) (by decide +kernel)⟩
theorem lw_p97 : lw_okq (⟨"PassBillModel", "counting", "(II)I"⟩, 58) := ⟨⟨by decide +kernel, by decide +kernel⟩, List.mem_of_getElem? (i := 814) (by decide +kernel), List.mem_of_getElem? (i := 1419) (by decide +kernel), List.mem_of_getElem? (i := 1420) (by decide +kernel)⟩
theorem lw_p98 : lw_okq (⟨"PassBillModel", "sighCounts", "(II)I"⟩, 58) := ⟨⟨by decide +kernel, by decide +kernel⟩, List.mem_of_getElem? (i := 814) (by decide +kernel), List.mem_of_getElem? (i := 1423) (by decide +kernel), List.mem_of_getElem? (i := 1424) (by decide +kernel)⟩
theorem lw_p99 : lw_okq (⟨"PassBillModel", "plainCounts", "(II)I"⟩, 58) := ⟨⟨by decide +kernel, by decide +kernel⟩, List.mem_of_getElem? (i := 814) (by decide +kernel), List.mem_of_getElem? (i := 1427) (by decide +kernel), List.mem_of_getElem? (i := 1428) (by decide +kernel)⟩
theorem lw_p100 : lw_okq (⟨"PassBillModel", "going", "(II)I"⟩, 58) := ⟨⟨by decide +kernel, by decide +kernel⟩, List.mem_of_getElem? (i := 814) (by decide +kernel), List.mem_of_getElem? (i := 1431) (by decide +kernel), List.mem_of_getElem? (i := 1432) (by decide +kernel)⟩
theorem lw_p101 : lw_okq (⟨"PassBillModel", "sleepGoes", "(II)I"⟩, 58) := ⟨⟨by decide +kernel, by decide +kernel⟩, List.mem_of_getElem? (i := 814) (by decide +kernel), List.mem_of_getElem? (i := 1435) (by decide +kernel), List.mem_of_getElem? (i := 1436) (by decide +kernel)⟩
theorem lw_p102 : lw_okq (⟨"PassBillModel", "plainGoes", "(II)I"⟩, 58) := ⟨⟨by decide +kernel, by decide +kernel⟩, List.mem_of_getElem? (i := 814) (by decide +kernel), List.mem_of_getElem? (i := 1439) (by decide +kernel), List.mem_of_getElem? (i := 1440) (by decide +kernel)⟩
theorem lw_p103 : lw_okq (⟨"PassBillModel", "telling", "(II)I"⟩, 58) := ⟨⟨by decide +kernel, by decide +kernel⟩, List.mem_of_getElem? (i := 814) (by decide +kernel), List.mem_of_getElem? (i := 1443) (by decide +kernel), List.mem_of_getElem? (i := 1444) (by decide +kernel)⟩
theorem lw_p104 : lw_okq (⟨"PassBillModel", "plainTells", "(II)I"⟩, 58) := ⟨⟨by decide +kernel, by decide +kernel⟩, List.mem_of_getElem? (i := 814) (by decide +kernel), List.mem_of_getElem? (i := 1447) (by decide +kernel), List.mem_of_getElem? (i := 1448) (by decide +kernel)⟩
theorem lw_p105 : lw_okq (⟨"PassBillModel", "assessedMany", "()I"⟩, 58) := ⟨⟨by decide +kernel, by decide +kernel⟩, List.mem_of_getElem? (i := 814) (by decide +kernel), List.mem_of_getElem? (i := 1455) (by decide +kernel), List.mem_of_getElem? (i := 1456) (by decide +kernel)⟩
theorem lw_p106 : lw_okq (⟨"PassBillModel", "whyNoPlace", "(II)I"⟩, 58) := ⟨⟨by decide +kernel, by decide +kernel⟩, List.mem_of_getElem? (i := 814) (by decide +kernel), List.mem_of_getElem? (i := 1471) (by decide +kernel), List.mem_of_getElem? (i := 1472) (by decide +kernel)⟩
def lw_privs_7 : List (MethodName × Nat) := [(⟨"PassBillModel", "nightSays", "(II)I"⟩, 58), (⟨"PassBillModel", "counting", "(II)I"⟩, 58), (⟨"PassBillModel", "sighCounts", "(II)I"⟩, 58), (⟨"PassBillModel", "plainCounts", "(II)I"⟩, 58), (⟨"PassBillModel", "going", "(II)I"⟩, 58), (⟨"PassBillModel", "sleepGoes", "(II)I"⟩, 58), (⟨"PassBillModel", "plainGoes", "(II)I"⟩, 58), (⟨"PassBillModel", "telling", "(II)I"⟩, 58), (⟨"PassBillModel", "plainTells", "(II)I"⟩, 58), (⟨"PassBillModel", "assessedMany", "()I"⟩, 58), (⟨"PassBillModel", "whyNoPlace", "(II)I"⟩, 58)]
theorem lw_r7 : ∀ q ∈ lw_privs_7, lw_okq q := List.forall_mem_cons.mpr ⟨lw_p96, List.forall_mem_cons.mpr ⟨lw_p97, List.forall_mem_cons.mpr ⟨lw_p98, List.forall_mem_cons.mpr ⟨lw_p99, List.forall_mem_cons.mpr ⟨lw_p100, List.forall_mem_cons.mpr ⟨lw_p101, List.forall_mem_cons.mpr ⟨lw_p102, List.forall_mem_cons.mpr ⟨lw_p103, List.forall_mem_cons.mpr ⟨lw_p104, List.forall_mem_cons.mpr ⟨lw_p105, List.forall_mem_cons.mpr ⟨lw_p106, fun _ h => absurd h List.not_mem_nil⟩⟩⟩⟩⟩⟩⟩⟩⟩⟩⟩
def lw_privs : List (MethodName × Nat) := lw_privs_1 ++ (lw_privs_2 ++ (lw_privs_3 ++ (lw_privs_4 ++ (lw_privs_5 ++ (lw_privs_6 ++ (lw_privs_7))))))
def lw_tbl : List Cond := k2_sels lw_privs ++ tables_1
theorem lw_privs_ok : ∀ q ∈ lw_privs, lw_okq q := by
  show ∀ q ∈ lw_privs_1 ++ (lw_privs_2 ++ (lw_privs_3 ++ (lw_privs_4 ++ (lw_privs_5 ++ (lw_privs_6 ++ (lw_privs_7)))))), lw_okq q
  exact List.forall_mem_append.mpr ⟨lw_r1, List.forall_mem_append.mpr ⟨lw_r2, List.forall_mem_append.mpr ⟨lw_r3, List.forall_mem_append.mpr ⟨lw_r4, List.forall_mem_append.mpr ⟨lw_r5, List.forall_mem_append.mpr ⟨lw_r6, lw_r7⟩⟩⟩⟩⟩⟩
-- ===== end of PART A; then your names; then what follows =====
end
section
/-! ===== BEGIN printed: names, fields, word lists, decode rows ===== -/
def RX0 : String := "PassBill$Billed"
def TX0 : u_T := fun k => match k with
  | 0 => ("PassBill$Billed", "who", "[I", true)
  | 1 => ("PassBill$Billed", "told", "[I", true)
  | _ => ("PassBill$Billed", "twos", "I", false)
def tyX0 : Nat → FieldType := fun k => match k with
  | 0 => .array .int
  | 1 => .array .int
  | _ => .int
abbrev wsX00 : List Cond := u_ws RX0 TX0 3
theorem nmX0 : ∀ a, a < 3 → ∀ b, b < 3 → a ≠ b → (TX0 a).2.1 ≠ (TX0 b).2.1 := by decide +kernel
theorem tyX0_ok : ∀ k, k < 3 → parseFieldDescriptor (TX0 k).2.2.1 = some (tyX0 k) := by decide +kernel
abbrev cX0_init : ByteArray := prog_2_method_1_code
def yX0_init : MethodName := ⟨RX0, "<init>", "()V"⟩
abbrev cX0_readTwos : ByteArray := prog_2_method_2_code
def yX0_readTwos : MethodName := ⟨RX0, "readTwos", "(LPassBill$Shelf;I)V"⟩
abbrev cX0_firstWrong : ByteArray := prog_2_method_3_code
def yX0_firstWrong : MethodName := ⟨RX0, "firstWrong", "([I)I"⟩
def RX1 : String := "PassBill$Bodies"
def TX1 : u_T := fun k => match k with
  | 0 => ("PassBill$Bodies", "kinds", "[I", true)
  | 1 => ("PassBill$Bodies", "made", "I", false)
  | 2 => ("PassBill$Bodies", "begun", "[I", true)
  | 3 => ("PassBill$Bodies", "ran", "I", false)
  | _ => ("PassBill$Bodies", "self", "I", false)
def tyX1 : Nat → FieldType := fun k => match k with
  | 0 => .array .int
  | 1 => .int
  | 2 => .array .int
  | 3 => .int
  | _ => .int
abbrev wsX10 : List Cond := u_ws RX1 TX1 5
theorem nmX1 : ∀ a, a < 5 → ∀ b, b < 5 → a ≠ b → (TX1 a).2.1 ≠ (TX1 b).2.1 := by decide +kernel
theorem tyX1_ok : ∀ k, k < 5 → parseFieldDescriptor (TX1 k).2.2.1 = some (tyX1 k) := by decide +kernel
abbrev cX1_init : ByteArray := prog_3_method_1_code
def yX1_init : MethodName := ⟨RX1, "<init>", "()V"⟩
abbrev cX1_has : ByteArray := prog_3_method_2_code
def yX1_has : MethodName := ⟨RX1, "has", "(I)Z"⟩
abbrev cX1_add : ByteArray := prog_3_method_3_code
def yX1_add : MethodName := ⟨RX1, "add", "(I)Z"⟩
abbrev cX1_isUnder : ByteArray := prog_3_method_4_code
def yX1_isUnder : MethodName := ⟨RX1, "isUnder", "(II)Z"⟩
abbrev cX1_ownerOf : ByteArray := prog_3_method_5_code
def yX1_ownerOf : MethodName := ⟨RX1, "ownerOf", "(II)I"⟩
abbrev cX1_begin : ByteArray := prog_3_method_6_code
def yX1_begin : MethodName := ⟨RX1, "begin", "(I)V"⟩
abbrev cX1_start : ByteArray := prog_3_method_7_code
def yX1_start : MethodName := ⟨RX1, "start", "(III)I"⟩
abbrev cX1_perform : ByteArray := prog_3_method_8_code
def yX1_perform : MethodName := ⟨RX1, "perform", "(IIII)I"⟩
abbrev cX1_again : ByteArray := prog_3_method_9_code
def yX1_again : MethodName := ⟨RX1, "again", "(III)I"⟩
def RX2 : String := "PassBill$Changes"
def TX2 : u_T := fun k => match k with
  | 0 => ("PassBill$Changes", "changed", "[I", true)
  | 1 => ("PassBill$Changes", "before", "[I", true)
  | 2 => ("PassBill$Changes", "after", "[I", true)
  | 3 => ("PassBill$Changes", "done", "I", false)
  | _ => ("PassBill$Changes", "noted", "I", false)
def tyX2 : Nat → FieldType := fun k => match k with
  | 0 => .array .int
  | 1 => .array .int
  | 2 => .array .int
  | 3 => .int
  | _ => .int
abbrev wsX20 : List Cond := u_ws RX2 TX2 5
theorem nmX2 : ∀ a, a < 5 → ∀ b, b < 5 → a ≠ b → (TX2 a).2.1 ≠ (TX2 b).2.1 := by decide +kernel
theorem tyX2_ok : ∀ k, k < 5 → parseFieldDescriptor (TX2 k).2.2.1 = some (tyX2 k) := by decide +kernel
abbrev cX2_init : ByteArray := prog_4_method_1_code
def yX2_init : MethodName := ⟨RX2, "<init>", "()V"⟩
abbrev cX2_note : ByteArray := prog_4_method_2_code
def yX2_note : MethodName := ⟨RX2, "note", "(III)V"⟩
abbrev cX2_forgetOldest : ByteArray := prog_4_method_3_code
def yX2_forgetOldest : MethodName := ⟨RX2, "forgetOldest", "()V"⟩
abbrev cX2_stepBack : ByteArray := prog_4_method_4_code
def yX2_stepBack : MethodName := ⟨RX2, "stepBack", "([I)V"⟩
abbrev cX2_stepOn : ByteArray := prog_4_method_5_code
def yX2_stepOn : MethodName := ⟨RX2, "stepOn", "([I)V"⟩
abbrev cX2_lay : ByteArray := prog_4_method_6_code
def yX2_lay : MethodName := ⟨RX2, "lay", "([III)V"⟩
def RX3 : String := "PassBill$Reader"
def TX3 : u_T := fun k => match k with
  | 0 => ("PassBill$Reader", "tape", "[I", true)
  | 1 => ("PassBill$Reader", "fed", "I", false)
  | 2 => ("PassBill$Reader", "place", "I", false)
  | 3 => ("PassBill$Reader", "code", "[I", true)
  | _ => ("PassBill$Reader", "length", "I", false)
def tyX3 : Nat → FieldType := fun k => match k with
  | 0 => .array .int
  | 1 => .int
  | 2 => .int
  | 3 => .array .int
  | _ => .int
abbrev wsX30 : List Cond := u_ws RX3 TX3 5
theorem nmX3 : ∀ a, a < 5 → ∀ b, b < 5 → a ≠ b → (TX3 a).2.1 ≠ (TX3 b).2.1 := by decide +kernel
theorem tyX3_ok : ∀ k, k < 5 → parseFieldDescriptor (TX3 k).2.2.1 = some (tyX3 k) := by decide +kernel
abbrev cX3_init : ByteArray := prog_5_method_1_code
def yX3_init : MethodName := ⟨RX3, "<init>", "()V"⟩
abbrev cX3_hold : ByteArray := prog_5_method_2_code
def yX3_hold : MethodName := ⟨RX3, "hold", "(I)Z"⟩
abbrev cX3_next : ByteArray := prog_5_method_3_code
def yX3_next : MethodName := ⟨RX3, "next", "()I"⟩
abbrev cX3_accept : ByteArray := prog_5_method_4_code
def yX3_accept : MethodName := ⟨RX3, "accept", "(I)Z"⟩
abbrev cX3_emit : ByteArray := prog_5_method_5_code
def yX3_emit : MethodName := ⟨RX3, "emit", "(I)V"⟩
abbrev cX3_readText : ByteArray := prog_5_method_6_code
def yX3_readText : MethodName := ⟨RX3, "readText", "()Z"⟩
abbrev cX3_readLine : ByteArray := prog_5_method_7_code
def yX3_readLine : MethodName := ⟨RX3, "readLine", "()Z"⟩
abbrev cX3_readRung : ByteArray := prog_5_method_8_code
def yX3_readRung : MethodName := ⟨RX3, "readRung", "(II)Z"⟩
abbrev cX3_rungOf : ByteArray := prog_5_method_9_code
def yX3_rungOf : MethodName := ⟨RX3, "rungOf", "(I)I"⟩
abbrev cX3_readOperand : ByteArray := prog_5_method_10_code
def yX3_readOperand : MethodName := ⟨RX3, "readOperand", "(I)Z"⟩
abbrev cX3_nameOf : ByteArray := prog_5_method_11_code
def yX3_nameOf : MethodName := ⟨RX3, "nameOf", "(I)I"⟩
abbrev cX3_isDigit : ByteArray := prog_5_method_12_code
def yX3_isDigit : MethodName := ⟨RX3, "isDigit", "(I)Z"⟩
abbrev cX3_readNumber : ByteArray := prog_5_method_13_code
def yX3_readNumber : MethodName := ⟨RX3, "readNumber", "()V"⟩
def RX4 : String := "PassBill$Reckoner"
def TX4 : u_T := fun k => match k with
  | 0 => ("PassBill$Reckoner", "text", "LPassBill$Text;", true)
  | 1 => ("PassBill$Reckoner", "names", "[I", true)
  | 2 => ("PassBill$Reckoner", "weights", "[I", true)
  | 3 => ("PassBill$Reckoner", "assessed", "[I", true)
  | 4 => ("PassBill$Reckoner", "shares", "[I", true)
  | 5 => ("PassBill$Reckoner", "sayers", "I", false)
  | 6 => ("PassBill$Reckoner", "goers", "I", false)
  | 7 => ("PassBill$Reckoner", "whole", "I", false)
  | 8 => ("PassBill$Reckoner", "total", "I", false)
  | 9 => ("PassBill$Reckoner", "paid", "I", false)
  | _ => ("PassBill$Reckoner", "lacking", "I", false)
def tyX4 : Nat → FieldType := fun k => match k with
  | 0 => .object "PassBill$Text"
  | 1 => .array .int
  | 2 => .array .int
  | 3 => .array .int
  | 4 => .array .int
  | 5 => .int
  | 6 => .int
  | 7 => .int
  | 8 => .int
  | 9 => .int
  | _ => .int
abbrev wsX40 : List Cond := u_ws RX4 TX4 11
theorem nmX4 : ∀ a, a < 11 → ∀ b, b < 11 → a ≠ b → (TX4 a).2.1 ≠ (TX4 b).2.1 := by decide +kernel
theorem tyX4_ok : ∀ k, k < 11 → parseFieldDescriptor (TX4 k).2.2.1 = some (tyX4 k) := by decide +kernel
abbrev cX4_init : ByteArray := prog_6_method_1_code
def yX4_init : MethodName := ⟨RX4, "<init>", "()V"⟩
abbrev cX4_isSaid : ByteArray := prog_6_method_2_code
def yX4_isSaid : MethodName := ⟨RX4, "isSaid", "(I)Z"⟩
abbrev cX4_isGone : ByteArray := prog_6_method_3_code
def yX4_isGone : MethodName := ⟨RX4, "isGone", "(I)Z"⟩
abbrev cX4_look : ByteArray := prog_6_method_4_code
def yX4_look : MethodName := ⟨RX4, "look", "(LPassBill$World;)V"⟩
abbrev cX4_countsOf : ByteArray := prog_6_method_5_code
def yX4_countsOf : MethodName := ⟨RX4, "countsOf", "(LPassBill$World;I)I"⟩
abbrev cX4_weigh : ByteArray := prog_6_method_6_code
def yX4_weigh : MethodName := ⟨RX4, "weigh", "(LPassBill$World;)V"⟩
abbrev cX4_shareOut : ByteArray := prog_6_method_7_code
def yX4_shareOut : MethodName := ⟨RX4, "shareOut", "(LPassBill$World;I)V"⟩
abbrev cX4_reckon : ByteArray := prog_6_method_8_code
def yX4_reckon : MethodName := ⟨RX4, "reckon", "(LPassBill$World;)V"⟩
abbrev cX4_shareOf : ByteArray := prog_6_method_9_code
def yX4_shareOf : MethodName := ⟨RX4, "shareOf", "(I)I"⟩
abbrev cX4_worthOf : ByteArray := prog_6_method_10_code
def yX4_worthOf : MethodName := ⟨RX4, "worthOf", "(LPassBill$World;I)I"⟩
abbrev cX4_gainOf : ByteArray := prog_6_method_11_code
def yX4_gainOf : MethodName := ⟨RX4, "gainOf", "(LPassBill$World;II)I"⟩
abbrev cX4_endYear : ByteArray := prog_6_method_12_code
def yX4_endYear : MethodName := ⟨RX4, "endYear", "(LPassBill$World;)V"⟩
def RX5 : String := "PassBill$Shelf"
def TX5 : u_T := fun k => match k with
  | 0 => ("PassBill$Shelf", "sort", "I", false)
  | 1 => ("PassBill$Shelf", "body", "I", false)
  | 2 => ("PassBill$Shelf", "size", "I", false)
  | _ => ("PassBill$Shelf", "elements", "[J", true)
def tyX5 : Nat → FieldType := fun k => match k with
  | 0 => .int
  | 1 => .int
  | 2 => .int
  | _ => .array .long
abbrev wsX50 : List Cond := u_ws RX5 TX5 4
theorem nmX5 : ∀ a, a < 4 → ∀ b, b < 4 → a ≠ b → (TX5 a).2.1 ≠ (TX5 b).2.1 := by decide +kernel
theorem tyX5_ok : ∀ k, k < 4 → parseFieldDescriptor (TX5 k).2.2.1 = some (tyX5 k) := by decide +kernel
abbrev cX5_init : ByteArray := prog_7_method_1_code
def yX5_init : MethodName := ⟨RX5, "<init>", "()V"⟩
abbrev cX5_holdRow : ByteArray := prog_7_method_2_code
def yX5_holdRow : MethodName := ⟨RX5, "holdRow", "(II)V"⟩
abbrev cX5_refusalAt : ByteArray := prog_7_method_3_code
def yX5_refusalAt : MethodName := ⟨RX5, "refusalAt", "(I)I"⟩
abbrev cX5_hasPlaces : ByteArray := prog_7_method_4_code
def yX5_hasPlaces : MethodName := ⟨RX5, "hasPlaces", "(II)Z"⟩
abbrev cX5_get : ByteArray := prog_7_method_5_code
def yX5_get : MethodName := ⟨RX5, "get", "(I)J"⟩
abbrev cX5_set : ByteArray := prog_7_method_6_code
def yX5_set : MethodName := ⟨RX5, "set", "(IJ)V"⟩
abbrev cX5_lowest : ByteArray := prog_7_method_7_code
def yX5_lowest : MethodName := ⟨RX5, "lowest", "(J)J"⟩
def RX6 : String := "PassBill$Text"
def TX6 : u_T := fun k => match k with
  | 0 => ("PassBill$Text", "code", "[I", true)
  | 1 => ("PassBill$Text", "length", "I", false)
  | _ => ("PassBill$Text", "stack", "[I", true)
def tyX6 : Nat → FieldType := fun k => match k with
  | 0 => .array .int
  | 1 => .int
  | _ => .array .int
abbrev wsX60 : List Cond := u_ws RX6 TX6 3
theorem nmX6 : ∀ a, a < 3 → ∀ b, b < 3 → a ≠ b → (TX6 a).2.1 ≠ (TX6 b).2.1 := by decide +kernel
theorem tyX6_ok : ∀ k, k < 3 → parseFieldDescriptor (TX6 k).2.2.1 = some (tyX6 k) := by decide +kernel
abbrev cX6_init : ByteArray := prog_8_method_1_code
def yX6_init : MethodName := ⟨RX6, "<init>", "()V"⟩
abbrev cX6_isEmpty : ByteArray := prog_8_method_2_code
def yX6_isEmpty : MethodName := ⟨RX6, "isEmpty", "()Z"⟩
abbrev cX6_become : ByteArray := prog_8_method_3_code
def yX6_become : MethodName := ⟨RX6, "become", "([II)V"⟩
abbrev cX6_workOut : ByteArray := prog_8_method_4_code
def yX6_workOut : MethodName := ⟨RX6, "workOut", "([I)I"⟩
abbrev cX6_combine : ByteArray := prog_8_method_5_code
def yX6_combine : MethodName := ⟨RX6, "combine", "(III)I"⟩
def RX7 : String := "PassBill$World"
def TX7 : u_T := fun k => match k with
  | 0 => ("PassBill$World", "cells", "[I", true)
  | _ => ("PassBill$World", "people", "I", false)
def tyX7 : Nat → FieldType := fun k => match k with
  | 0 => .array .int
  | _ => .int
abbrev wsX70 : List Cond := u_ws RX7 TX7 2
theorem nmX7 : ∀ a, a < 2 → ∀ b, b < 2 → a ≠ b → (TX7 a).2.1 ≠ (TX7 b).2.1 := by decide +kernel
theorem tyX7_ok : ∀ k, k < 2 → parseFieldDescriptor (TX7 k).2.2.1 = some (tyX7 k) := by decide +kernel
abbrev cX7_init : ByteArray := prog_9_method_1_code
def yX7_init : MethodName := ⟨RX7, "<init>", "()V"⟩
abbrev cX7_has : ByteArray := prog_9_method_2_code
def yX7_has : MethodName := ⟨RX7, "has", "(I)Z"⟩
abbrev cX7_cellOf : ByteArray := prog_9_method_3_code
def yX7_cellOf : MethodName := ⟨RX7, "cellOf", "(II)I"⟩
abbrev cX7_get : ByteArray := prog_9_method_4_code
def yX7_get : MethodName := ⟨RX7, "get", "(II)I"⟩
abbrev cX7_set : ByteArray := prog_9_method_5_code
def yX7_set : MethodName := ⟨RX7, "set", "(III)V"⟩
abbrev cX7_snow : ByteArray := prog_9_method_6_code
def yX7_snow : MethodName := ⟨RX7, "snow", "()I"⟩
abbrev cX7_setSnow : ByteArray := prog_9_method_7_code
def yX7_setSnow : MethodName := ⟨RX7, "setSnow", "(I)V"⟩
abbrev cX7_join : ByteArray := prog_9_method_8_code
def yX7_join : MethodName := ⟨RX7, "join", "(III)Z"⟩
abbrev cX7_copy : ByteArray := prog_9_method_9_code
def yX7_copy : MethodName := ⟨RX7, "copy", "(LPassBill$World;)V"⟩
abbrev cX7_ears : ByteArray := prog_9_method_10_code
def yX7_ears : MethodName := ⟨RX7, "ears", "()I"⟩
def RX8 : String := "PassBill"
def TX8 : u_T := fun k => match k with
  | 0 => ("PassBill", "now", "LPassBill$World;", true)
  | 1 => ("PassBill", "thought", "LPassBill$World;", true)
  | 2 => ("PassBill", "reckoner", "LPassBill$Reckoner;", true)
  | 3 => ("PassBill", "reader", "LPassBill$Reader;", true)
  | 4 => ("PassBill", "changes", "LPassBill$Changes;", true)
  | 5 => ("PassBill", "ledger", "[I", true)
  | 6 => ("PassBill", "kept", "LPassBill$World;", true)
  | 7 => ("PassBill", "keptLedger", "[I", true)
  | 8 => ("PassBill", "imageThere", "Z", false)
  | 9 => ("PassBill", "worths", "[I", true)
  | 10 => ("PassBill", "billed", "LPassBill$Billed;", true)
  | 11 => ("PassBill", "bodies", "LPassBill$Bodies;", true)
  | _ => ("PassBill", "shelves", "[LPassBill$Shelf;", true)
def tyX8 : Nat → FieldType := fun k => match k with
  | 0 => .object "PassBill$World"
  | 1 => .object "PassBill$World"
  | 2 => .object "PassBill$Reckoner"
  | 3 => .object "PassBill$Reader"
  | 4 => .object "PassBill$Changes"
  | 5 => .array .int
  | 6 => .object "PassBill$World"
  | 7 => .array .int
  | 8 => .boolean
  | 9 => .array .int
  | 10 => .object "PassBill$Billed"
  | 11 => .object "PassBill$Bodies"
  | _ => .array (.object "PassBill$Shelf")
abbrev wsX80 : List Cond := u_ws RX8 TX8 13
theorem nmX8 : ∀ a, a < 13 → ∀ b, b < 13 → a ≠ b → (TX8 a).2.1 ≠ (TX8 b).2.1 := by decide +kernel
theorem tyX8_ok : ∀ k, k < 13 → parseFieldDescriptor (TX8 k).2.2.1 = some (tyX8 k) := by decide +kernel
abbrev cX8_init : ByteArray := prog_1_method_1_code
def yX8_init : MethodName := ⟨RX8, "<init>", "()V"⟩
abbrev cX8_person : ByteArray := prog_1_method_2_code
def yX8_person : MethodName := ⟨RX8, "person", "(I)I"⟩
abbrev cX8_people : ByteArray := prog_1_method_3_code
def yX8_people : MethodName := ⟨RX8, "people", "(III)I"⟩
abbrev cX8_joinFromRow : ByteArray := prog_1_method_4_code
def yX8_joinFromRow : MethodName := ⟨RX8, "joinFromRow", "(LPassBill$Shelf;I)Z"⟩
abbrev cX8_mend : ByteArray := prog_1_method_5_code
def yX8_mend : MethodName := ⟨RX8, "mend", "(III)I"⟩
abbrev cX8_of : ByteArray := prog_1_method_6_code
def yX8_of : MethodName := ⟨RX8, "of", "(II)I"⟩
abbrev cX8_feed : ByteArray := prog_1_method_7_code
def yX8_feed : MethodName := ⟨RX8, "feed", "(I)I"⟩
abbrev cX8_law : ByteArray := prog_1_method_8_code
def yX8_law : MethodName := ⟨RX8, "law", "()I"⟩
abbrev cX8_counts : ByteArray := prog_1_method_9_code
def yX8_counts : MethodName := ⟨RX8, "counts", "(I)I"⟩
abbrev cX8_bill : ByteArray := prog_1_method_10_code
def yX8_bill : MethodName := ⟨RX8, "bill", "(I)I"⟩
abbrev cX8_share : ByteArray := prog_1_method_11_code
def yX8_share : MethodName := ⟨RX8, "share", "(I)I"⟩
abbrev cX8_worth : ByteArray := prog_1_method_12_code
def yX8_worth : MethodName := ⟨RX8, "worth", "(I)I"⟩
abbrev cX8_best : ByteArray := prog_1_method_13_code
def yX8_best : MethodName := ⟨RX8, "best", "(II)I"⟩
abbrev cX8_worthBy : ByteArray := prog_1_method_14_code
def yX8_worthBy : MethodName := ⟨RX8, "worthBy", "(II)I"⟩
abbrev cX8_atRest : ByteArray := prog_1_method_15_code
def yX8_atRest : MethodName := ⟨RX8, "atRest", "()I"⟩
abbrev cX8_rest : ByteArray := prog_1_method_16_code
def yX8_rest : MethodName := ⟨RX8, "rest", "(I)I"⟩
abbrev cX8_habitIn : ByteArray := prog_1_method_17_code
def yX8_habitIn : MethodName := ⟨RX8, "habitIn", "(II)I"⟩
abbrev cX8_placeIn : ByteArray := prog_1_method_18_code
def yX8_placeIn : MethodName := ⟨RX8, "placeIn", "(I)I"⟩
abbrev cX8_fillWorths : ByteArray := prog_1_method_19_code
def yX8_fillWorths : MethodName := ⟨RX8, "fillWorths", "(I)V"⟩
abbrev cX8_setWorthIn : ByteArray := prog_1_method_20_code
def yX8_setWorthIn : MethodName := ⟨RX8, "setWorthIn", "(III)V"⟩
abbrev cX8_worthIn : ByteArray := prog_1_method_21_code
def yX8_worthIn : MethodName := ⟨RX8, "worthIn", "(II)I"⟩
abbrev cX8_isRowAtRest : ByteArray := prog_1_method_22_code
def yX8_isRowAtRest : MethodName := ⟨RX8, "isRowAtRest", "(I)Z"⟩
abbrev cX8_freeRate : ByteArray := prog_1_method_23_code
def yX8_freeRate : MethodName := ⟨RX8, "freeRate", "()I"⟩
abbrev cX8_nobodyStaysGladly : ByteArray := prog_1_method_24_code
def yX8_nobodyStaysGladly : MethodName := ⟨RX8, "nobodyStaysGladly", "()Z"⟩
abbrev cX8_pool : ByteArray := prog_1_method_25_code
def yX8_pool : MethodName := ⟨RX8, "pool", "(II)I"⟩
abbrev cX8_pooled : ByteArray := prog_1_method_26_code
def yX8_pooled : MethodName := ⟨RX8, "pooled", "(I)I"⟩
abbrev cX8_spared : ByteArray := prog_1_method_27_code
def yX8_spared : MethodName := ⟨RX8, "spared", "()I"⟩
abbrev cX8_later : ByteArray := prog_1_method_28_code
def yX8_later : MethodName := ⟨RX8, "later", "(III)I"⟩
abbrev cX8_broke : ByteArray := prog_1_method_29_code
def yX8_broke : MethodName := ⟨RX8, "broke", "(I)I"⟩
abbrev cX8_thrift : ByteArray := prog_1_method_30_code
def yX8_thrift : MethodName := ⟨RX8, "thrift", "(III)I"⟩
abbrev cX8_purseBy : ByteArray := prog_1_method_31_code
def yX8_purseBy : MethodName := ⟨RX8, "purseBy", "(III)I"⟩
abbrev cX8_judge : ByteArray := prog_1_method_32_code
def yX8_judge : MethodName := ⟨RX8, "judge", "(I)I"⟩
abbrev cX8_readBilled : ByteArray := prog_1_method_33_code
def yX8_readBilled : MethodName := ⟨RX8, "readBilled", "(I)I"⟩
abbrev cX8_fits : ByteArray := prog_1_method_34_code
def yX8_fits : MethodName := ⟨RX8, "fits", "(III)I"⟩
abbrev cX8_isAllSo : ByteArray := prog_1_method_35_code
def yX8_isAllSo : MethodName := ⟨RX8, "isAllSo", "()Z"⟩
abbrev cX8_fittingOf : ByteArray := prog_1_method_36_code
def yX8_fittingOf : MethodName := ⟨RX8, "fittingOf", "(II)I"⟩
abbrev cX8_fittingSnows : ByteArray := prog_1_method_37_code
def yX8_fittingSnows : MethodName := ⟨RX8, "fittingSnows", "(Z)I"⟩
abbrev cX8_fittingEars : ByteArray := prog_1_method_38_code
def yX8_fittingEars : MethodName := ⟨RX8, "fittingEars", "(Z)I"⟩
abbrev cX8_said : ByteArray := prog_1_method_39_code
def yX8_said : MethodName := ⟨RX8, "said", "(I)I"⟩
abbrev cX8_leastSaid : ByteArray := prog_1_method_40_code
def yX8_leastSaid : MethodName := ⟨RX8, "leastSaid", "()I"⟩
abbrev cX8_thinkSilent : ByteArray := prog_1_method_41_code
def yX8_thinkSilent : MethodName := ⟨RX8, "thinkSilent", "(I)V"⟩
abbrev cX8_dearest : ByteArray := prog_1_method_42_code
def yX8_dearest : MethodName := ⟨RX8, "dearest", "()I"⟩
abbrev cX8_alike : ByteArray := prog_1_method_43_code
def yX8_alike : MethodName := ⟨RX8, "alike", "()I"⟩
abbrev cX8_byTurns : ByteArray := prog_1_method_44_code
def yX8_byTurns : MethodName := ⟨RX8, "byTurns", "(III)I"⟩
abbrev cX8_shareBehind : ByteArray := prog_1_method_45_code
def yX8_shareBehind : MethodName := ⟨RX8, "shareBehind", "(IIIZ)I"⟩
abbrev cX8_drawn : ByteArray := prog_1_method_46_code
def yX8_drawn : MethodName := ⟨RX8, "drawn", "(III)I"⟩
abbrev cX8_stir : ByteArray := prog_1_method_47_code
def yX8_stir : MethodName := ⟨RX8, "stir", "(II)V"⟩
abbrev cX8_takes : ByteArray := prog_1_method_48_code
def yX8_takes : MethodName := ⟨RX8, "takes", "(II)I"⟩
abbrev cX8_hears : ByteArray := prog_1_method_49_code
def yX8_hears : MethodName := ⟨RX8, "hears", "(II)I"⟩
abbrev cX8_year : ByteArray := prog_1_method_50_code
def yX8_year : MethodName := ⟨RX8, "year", "()I"⟩
abbrev cX8_gives : ByteArray := prog_1_method_51_code
def yX8_gives : MethodName := ⟨RX8, "gives", "(III)I"⟩
abbrev cX8_led : ByteArray := prog_1_method_52_code
def yX8_led : MethodName := ⟨RX8, "led", "(I)I"⟩
abbrev cX8_image : ByteArray := prog_1_method_53_code
def yX8_image : MethodName := ⟨RX8, "image", "()I"⟩
abbrev cX8_back : ByteArray := prog_1_method_54_code
def yX8_back : MethodName := ⟨RX8, "back", "()I"⟩
abbrev cX8_undo : ByteArray := prog_1_method_55_code
def yX8_undo : MethodName := ⟨RX8, "undo", "()I"⟩
abbrev cX8_redo : ByteArray := prog_1_method_56_code
def yX8_redo : MethodName := ⟨RX8, "redo", "()I"⟩
abbrev cX8_body : ByteArray := prog_1_method_57_code
def yX8_body : MethodName := ⟨RX8, "body", "(I)I"⟩
abbrev cX8_act : ByteArray := prog_1_method_58_code
def yX8_act : MethodName := ⟨RX8, "act", "(III)I"⟩
abbrev cX8_trace : ByteArray := prog_1_method_59_code
def yX8_trace : MethodName := ⟨RX8, "trace", "(I)I"⟩
abbrev cX8_keep : ByteArray := prog_1_method_60_code
def yX8_keep : MethodName := ⟨RX8, "keep", "(II)I"⟩
abbrev cX8_row : ByteArray := prog_1_method_61_code
def yX8_row : MethodName := ⟨RX8, "row", "(III)I"⟩
abbrev cX8_put : ByteArray := prog_1_method_62_code
def yX8_put : MethodName := ⟨RX8, "put", "(IIJ)I"⟩
abbrev cX8_element : ByteArray := prog_1_method_63_code
def yX8_element : MethodName := ⟨RX8, "element", "(II)J"⟩
abbrev cX8_shift : ByteArray := prog_1_method_64_code
def yX8_shift : MethodName := ⟨RX8, "shift", "(IIIII)I"⟩
abbrev cX8_taken : ByteArray := prog_1_method_65_code
def yX8_taken : MethodName := ⟨RX8, "taken", "(II)I"⟩
abbrev cX8_count : ByteArray := prog_1_method_66_code
def yX8_count : MethodName := ⟨RX8, "count", "(I)I"⟩
abbrev cX8_howManyAssessed : ByteArray := prog_1_method_67_code
def yX8_howManyAssessed : MethodName := ⟨RX8, "howManyAssessed", "()I"⟩
abbrev cX8_isWithin : ByteArray := prog_1_method_68_code
def yX8_isWithin : MethodName := ⟨RX8, "isWithin", "(II)Z"⟩
abbrev cX8_isKind : ByteArray := prog_1_method_69_code
def yX8_isKind : MethodName := ⟨RX8, "isKind", "(I)Z"⟩
abbrev cX8_shelfAt : ByteArray := prog_1_method_70_code
def yX8_shelfAt : MethodName := ⟨RX8, "shelfAt", "(I)LPassBill$Shelf;"⟩
def RX9 : String := "PassBillModel"
def TX9 : u_T := fun k => match k with
  | 0 => ("PassBillModel", "code", "I", false)
  | 1 => ("PassBillModel", "many", "I", false)
  | 2 => ("PassBillModel", "wishOf", "[I", true)
  | 3 => ("PassBillModel", "purseOf", "[I", true)
  | 4 => ("PassBillModel", "ageOf", "[I", true)
  | 5 => ("PassBillModel", "habitOf", "[I", true)
  | 6 => ("PassBillModel", "kindOf", "[I", true)
  | 7 => ("PassBillModel", "heardOf", "[I", true)
  | 8 => ("PassBillModel", "earnsOf", "[I", true)
  | 9 => ("PassBillModel", "snows", "[I", true)
  | 10 => ("PassBillModel", "pass", "[I", true)
  | 11 => ("PassBillModel", "doneMany", "I", false)
  | 12 => ("PassBillModel", "undoneMany", "I", false)
  | 13 => ("PassBillModel", "changeOf", "[I", true)
  | 14 => ("PassBillModel", "changeAt", "[I", true)
  | 15 => ("PassBillModel", "before", "[I", true)
  | 16 => ("PassBillModel", "behind", "[I", true)
  | 17 => ("PassBillModel", "tape", "[B", true)
  | 18 => ("PassBillModel", "taped", "I", false)
  | 19 => ("PassBillModel", "here", "I", false)
  | 20 => ("PassBillModel", "fault", "I", false)
  | 21 => ("PassBillModel", "open", "I", false)
  | 22 => ("PassBillModel", "laid", "I", false)
  | 23 => ("PassBillModel", "act", "[B", true)
  | 24 => ("PassBillModel", "with", "[I", true)
  | 25 => ("PassBillModel", "lineMany", "[I", true)
  | 26 => ("PassBillModel", "testEnd", "[S", true)
  | 27 => ("PassBillModel", "lineEnd", "[S", true)
  | 28 => ("PassBillModel", "facts", "[I", true)
  | 29 => ("PassBillModel", "pile", "[I", true)
  | 30 => ("PassBillModel", "hasLaw", "Z", false)
  | 31 => ("PassBillModel", "habit1", "[I", true)
  | 32 => ("PassBillModel", "heard1", "[I", true)
  | 33 => ("PassBillModel", "purse1", "[I", true)
  | 34 => ("PassBillModel", "age1", "[I", true)
  | 35 => ("PassBillModel", "assessed", "[I", true)
  | 36 => ("PassBillModel", "snow1", "I", false)
  | 37 => ("PassBillModel", "year1", "I", false)
  | 38 => ("PassBillModel", "rate1", "I", false)
  | 39 => ("PassBillModel", "assessedAll", "I", false)
  | 40 => ("PassBillModel", "firstRest", "[I", true)
  | 41 => ("PassBillModel", "rests", "I", false)
  | 42 => ("PassBillModel", "paid1", "I", false)
  | 43 => ("PassBillModel", "lacking1", "I", false)
  | 44 => ("PassBillModel", "ledOf", "[I", true)
  | 45 => ("PassBillModel", "hasImage", "Z", false)
  | 46 => ("PassBillModel", "keptMany", "I", false)
  | 47 => ("PassBillModel", "keptYear", "I", false)
  | 48 => ("PassBillModel", "keptOnes", "[I", true)
  | 49 => ("PassBillModel", "keptLed", "[I", true)
  | 50 => ("PassBillModel", "bodies", "I", false)
  | 51 => ("PassBillModel", "kind", "[I", true)
  | 52 => ("PassBillModel", "traces", "I", false)
  | 53 => ("PassBillModel", "traced", "[I", true)
  | 54 => ("PassBillModel", "holds", "[I", true)
  | 55 => ("PassBillModel", "size", "[I", true)
  | 56 => ("PassBillModel", "elements", "[J", true)
  | _ => ("PassBillModel", "shifted", "[J", true)
def tyX9 : Nat → FieldType := fun k => match k with
  | 0 => .int
  | 1 => .int
  | 2 => .array .int
  | 3 => .array .int
  | 4 => .array .int
  | 5 => .array .int
  | 6 => .array .int
  | 7 => .array .int
  | 8 => .array .int
  | 9 => .array .int
  | 10 => .array .int
  | 11 => .int
  | 12 => .int
  | 13 => .array .int
  | 14 => .array .int
  | 15 => .array .int
  | 16 => .array .int
  | 17 => .array .byte
  | 18 => .int
  | 19 => .int
  | 20 => .int
  | 21 => .int
  | 22 => .int
  | 23 => .array .byte
  | 24 => .array .int
  | 25 => .array .int
  | 26 => .array .short
  | 27 => .array .short
  | 28 => .array .int
  | 29 => .array .int
  | 30 => .boolean
  | 31 => .array .int
  | 32 => .array .int
  | 33 => .array .int
  | 34 => .array .int
  | 35 => .array .int
  | 36 => .int
  | 37 => .int
  | 38 => .int
  | 39 => .int
  | 40 => .array .int
  | 41 => .int
  | 42 => .int
  | 43 => .int
  | 44 => .array .int
  | 45 => .boolean
  | 46 => .int
  | 47 => .int
  | 48 => .array .int
  | 49 => .array .int
  | 50 => .int
  | 51 => .array .int
  | 52 => .int
  | 53 => .array .int
  | 54 => .array .int
  | 55 => .array .int
  | 56 => .array .long
  | _ => .array .long
abbrev wsX90 : List Cond := u_ws RX9 TX9 58
theorem nmX9 : ∀ a, a < 58 → ∀ b, b < 58 → a ≠ b → (TX9 a).2.1 ≠ (TX9 b).2.1 := by decide +kernel
theorem tyX9_ok : ∀ k, k < 58 → parseFieldDescriptor (TX9 k).2.2.1 = some (tyX9 k) := by decide +kernel
abbrev cX9_init : ByteArray := prog_11_method_1_code
def yX9_init : MethodName := ⟨RX9, "<init>", "()V"⟩
abbrev cX9_in : ByteArray := prog_11_method_3_code
def yX9_in : MethodName := ⟨RX9, "in", "(III)Z"⟩
abbrev cX9_has : ByteArray := prog_11_method_4_code
def yX9_has : MethodName := ⟨RX9, "has", "(II)Z"⟩
abbrev cX9_bitsOf : ByteArray := prog_11_method_5_code
def yX9_bitsOf : MethodName := ⟨RX9, "bitsOf", "(I)I"⟩
abbrev cX9_isOne : ByteArray := prog_11_method_6_code
def yX9_isOne : MethodName := ⟨RX9, "isOne", "(I)Z"⟩
abbrev cX9_addOne : ByteArray := prog_11_method_7_code
def yX9_addOne : MethodName := ⟨RX9, "addOne", "(III)I"⟩
abbrev cX9_person : ByteArray := prog_11_method_8_code
def yX9_person : MethodName := ⟨RX9, "person", "(I)I"⟩
abbrev cX9_people : ByteArray := prog_11_method_9_code
def yX9_people : MethodName := ⟨RX9, "people", "(III)I"⟩
abbrev cX9_valueAt : ByteArray := prog_11_method_10_code
def yX9_valueAt : MethodName := ⟨RX9, "valueAt", "(II)I"⟩
abbrev cX9_lays : ByteArray := prog_11_method_11_code
def yX9_lays : MethodName := ⟨RX9, "lays", "(III)V"⟩
abbrev cX9_changes : ByteArray := prog_11_method_12_code
def yX9_changes : MethodName := ⟨RX9, "changes", "(III)I"⟩
abbrev cX9_undo : ByteArray := prog_11_method_13_code
def yX9_undo : MethodName := ⟨RX9, "undo", "()I"⟩
abbrev cX9_redo : ByteArray := prog_11_method_14_code
def yX9_redo : MethodName := ⟨RX9, "redo", "()I"⟩
abbrev cX9_isPlace : ByteArray := prog_11_method_15_code
def yX9_isPlace : MethodName := ⟨RX9, "isPlace", "(II)Z"⟩
abbrev cX9_mayHave : ByteArray := prog_11_method_16_code
def yX9_mayHave : MethodName := ⟨RX9, "mayHave", "(II)Z"⟩
abbrev cX9_mend : ByteArray := prog_11_method_17_code
def yX9_mend : MethodName := ⟨RX9, "mend", "(III)I"⟩
abbrev cX9_of : ByteArray := prog_11_method_18_code
def yX9_of : MethodName := ⟨RX9, "of", "(II)I"⟩
abbrev cX9_feed : ByteArray := prog_11_method_19_code
def yX9_feed : MethodName := ⟨RX9, "feed", "(I)I"⟩
abbrev cX9_look : ByteArray := prog_11_method_20_code
def yX9_look : MethodName := ⟨RX9, "look", "()I"⟩
abbrev cX9_wrong : ByteArray := prog_11_method_21_code
def yX9_wrong : MethodName := ⟨RX9, "wrong", "()V"⟩
abbrev cX9_addStep : ByteArray := prog_11_method_22_code
def yX9_addStep : MethodName := ⟨RX9, "addStep", "(II)V"⟩
abbrev cX9_nameOf : ByteArray := prog_11_method_23_code
def yX9_nameOf : MethodName := ⟨RX9, "nameOf", "(I)I"⟩
abbrev cX9_opens : ByteArray := prog_11_method_24_code
def yX9_opens : MethodName := ⟨RX9, "opens", "()Z"⟩
abbrev cX9_figure : ByteArray := prog_11_method_25_code
def yX9_figure : MethodName := ⟨RX9, "figure", "()V"⟩
abbrev cX9_operand : ByteArray := prog_11_method_26_code
def yX9_operand : MethodName := ⟨RX9, "operand", "()V"⟩
abbrev cX9_product : ByteArray := prog_11_method_27_code
def yX9_product : MethodName := ⟨RX9, "product", "()V"⟩
abbrev cX9_sum : ByteArray := prog_11_method_28_code
def yX9_sum : MethodName := ⟨RX9, "sum", "()V"⟩
abbrev cX9_compared : ByteArray := prog_11_method_29_code
def yX9_compared : MethodName := ⟨RX9, "compared", "()V"⟩
abbrev cX9_both : ByteArray := prog_11_method_30_code
def yX9_both : MethodName := ⟨RX9, "both", "()V"⟩
abbrev cX9_either : ByteArray := prog_11_method_31_code
def yX9_either : MethodName := ⟨RX9, "either", "()V"⟩
abbrev cX9_line : ByteArray := prog_11_method_32_code
def yX9_line : MethodName := ⟨RX9, "line", "()V"⟩
abbrev cX9_readText : ByteArray := prog_11_method_33_code
def yX9_readText : MethodName := ⟨RX9, "readText", "(I)I"⟩
abbrev cX9_twoOf : ByteArray := prog_11_method_34_code
def yX9_twoOf : MethodName := ⟨RX9, "twoOf", "(III)I"⟩
abbrev cX9_worked : ByteArray := prog_11_method_35_code
def yX9_worked : MethodName := ⟨RX9, "worked", "(III)I"⟩
abbrev cX9_givesText : ByteArray := prog_11_method_36_code
def yX9_givesText : MethodName := ⟨RX9, "givesText", "(I)I"⟩
abbrev cX9_law : ByteArray := prog_11_method_37_code
def yX9_law : MethodName := ⟨RX9, "law", "()I"⟩
abbrev cX9_laySnow : ByteArray := prog_11_method_38_code
def yX9_laySnow : MethodName := ⟨RX9, "laySnow", "()V"⟩
abbrev cX9_layNow : ByteArray := prog_11_method_39_code
def yX9_layNow : MethodName := ⟨RX9, "layNow", "()V"⟩
abbrev cX9_says : ByteArray := prog_11_method_40_code
def yX9_says : MethodName := ⟨RX9, "says", "(I)Z"⟩
abbrev cX9_leaves : ByteArray := prog_11_method_41_code
def yX9_leaves : MethodName := ⟨RX9, "leaves", "(I)Z"⟩
abbrev cX9_othersSay : ByteArray := prog_11_method_42_code
def yX9_othersSay : MethodName := ⟨RX9, "othersSay", "(I)I"⟩
abbrev cX9_leaving : ByteArray := prog_11_method_43_code
def yX9_leaving : MethodName := ⟨RX9, "leaving", "()I"⟩
abbrev cX9_countsBy : ByteArray := prog_11_method_44_code
def yX9_countsBy : MethodName := ⟨RX9, "countsBy", "(I)I"⟩
abbrev cX9_counts : ByteArray := prog_11_method_45_code
def yX9_counts : MethodName := ⟨RX9, "counts", "(I)I"⟩
abbrev cX9_assess : ByteArray := prog_11_method_46_code
def yX9_assess : MethodName := ⟨RX9, "assess", "()V"⟩
abbrev cX9_theBill : ByteArray := prog_11_method_47_code
def yX9_theBill : MethodName := ⟨RX9, "theBill", "()I"⟩
abbrev cX9_shareOf : ByteArray := prog_11_method_48_code
def yX9_shareOf : MethodName := ⟨RX9, "shareOf", "(I)I"⟩
abbrev cX9_sharesOf : ByteArray := prog_11_method_49_code
def yX9_sharesOf : MethodName := ⟨RX9, "sharesOf", "(I)I"⟩
abbrev cX9_everybody : ByteArray := prog_11_method_50_code
def yX9_everybody : MethodName := ⟨RX9, "everybody", "()I"⟩
abbrev cX9_bill : ByteArray := prog_11_method_51_code
def yX9_bill : MethodName := ⟨RX9, "bill", "(I)I"⟩
abbrev cX9_shareNow : ByteArray := prog_11_method_52_code
def yX9_shareNow : MethodName := ⟨RX9, "shareNow", "(I)I"⟩
abbrev cX9_share : ByteArray := prog_11_method_53_code
def yX9_share : MethodName := ⟨RX9, "share", "(I)I"⟩
abbrev cX9_worthBy : ByteArray := prog_11_method_54_code
def yX9_worthBy : MethodName := ⟨RX9, "worthBy", "(I)I"⟩
abbrev cX9_worth : ByteArray := prog_11_method_55_code
def yX9_worth : MethodName := ⟨RX9, "worth", "(I)I"⟩
abbrev cX9_worthWith : ByteArray := prog_11_method_56_code
def yX9_worthWith : MethodName := ⟨RX9, "worthWith", "(II)I"⟩
abbrev cX9_bestHabit : ByteArray := prog_11_method_57_code
def yX9_bestHabit : MethodName := ⟨RX9, "bestHabit", "(I)I"⟩
abbrev cX9_best : ByteArray := prog_11_method_58_code
def yX9_best : MethodName := ⟨RX9, "best", "(II)I"⟩
abbrev cX9_areAtRest : ByteArray := prog_11_method_59_code
def yX9_areAtRest : MethodName := ⟨RX9, "areAtRest", "()Z"⟩
abbrev cX9_atRest : ByteArray := prog_11_method_60_code
def yX9_atRest : MethodName := ⟨RX9, "atRest", "()I"⟩
abbrev cX9_goRest : ByteArray := prog_11_method_61_code
def yX9_goRest : MethodName := ⟨RX9, "goRest", "(I)V"⟩
abbrev cX9_rest : ByteArray := prog_11_method_62_code
def yX9_rest : MethodName := ⟨RX9, "rest", "(I)I"⟩
abbrev cX9_isFree : ByteArray := prog_11_method_63_code
def yX9_isFree : MethodName := ⟨RX9, "isFree", "()Z"⟩
abbrev cX9_freeRate : ByteArray := prog_11_method_64_code
def yX9_freeRate : MethodName := ⟨RX9, "freeRate", "()I"⟩
abbrev cX9_pooledBy : ByteArray := prog_11_method_65_code
def yX9_pooledBy : MethodName := ⟨RX9, "pooledBy", "(I)I"⟩
abbrev cX9_pool : ByteArray := prog_11_method_66_code
def yX9_pool : MethodName := ⟨RX9, "pool", "(II)I"⟩
abbrev cX9_assessedBits : ByteArray := prog_11_method_67_code
def yX9_assessedBits : MethodName := ⟨RX9, "assessedBits", "()I"⟩
abbrev cX9_spared : ByteArray := prog_11_method_68_code
def yX9_spared : MethodName := ⟨RX9, "spared", "()I"⟩
abbrev cX9_goYear : ByteArray := prog_11_method_69_code
def yX9_goYear : MethodName := ⟨RX9, "goYear", "()V"⟩
abbrev cX9_goYears : ByteArray := prog_11_method_70_code
def yX9_goYears : MethodName := ⟨RX9, "goYears", "(I)V"⟩
abbrev cX9_later : ByteArray := prog_11_method_71_code
def yX9_later : MethodName := ⟨RX9, "later", "(III)I"⟩
abbrev cX9_broke : ByteArray := prog_11_method_72_code
def yX9_broke : MethodName := ⟨RX9, "broke", "(I)I"⟩
abbrev cX9_purseWith : ByteArray := prog_11_method_73_code
def yX9_purseWith : MethodName := ⟨RX9, "purseWith", "(III)I"⟩
abbrev cX9_thrift : ByteArray := prog_11_method_74_code
def yX9_thrift : MethodName := ⟨RX9, "thrift", "(III)I"⟩
abbrev cX9_rowFault : ByteArray := prog_11_method_75_code
def yX9_rowFault : MethodName := ⟨RX9, "rowFault", "(I)I"⟩
abbrev cX9_at : ByteArray := prog_11_method_76_code
def yX9_at : MethodName := ⟨RX9, "at", "(II)I"⟩
abbrev cX9_isTwo : ByteArray := prog_11_method_77_code
def yX9_isTwo : MethodName := ⟨RX9, "isTwo", "(II)Z"⟩
abbrev cX9_wrongTwo : ByteArray := prog_11_method_78_code
def yX9_wrongTwo : MethodName := ⟨RX9, "wrongTwo", "(I)I"⟩
abbrev cX9_judge : ByteArray := prog_11_method_79_code
def yX9_judge : MethodName := ⟨RX9, "judge", "(I)I"⟩
abbrev cX9_habitBits : ByteArray := prog_11_method_80_code
def yX9_habitBits : MethodName := ⟨RX9, "habitBits", "(II)I"⟩
abbrev cX9_kindBits : ByteArray := prog_11_method_81_code
def yX9_kindBits : MethodName := ⟨RX9, "kindBits", "(II)I"⟩
abbrev cX9_snowsOf : ByteArray := prog_11_method_82_code
def yX9_snowsOf : MethodName := ⟨RX9, "snowsOf", "(IZ)I"⟩
abbrev cX9_earsOf : ByteArray := prog_11_method_83_code
def yX9_earsOf : MethodName := ⟨RX9, "earsOf", "(IZ)I"⟩
abbrev cX9_fits : ByteArray := prog_11_method_84_code
def yX9_fits : MethodName := ⟨RX9, "fits", "(III)I"⟩
abbrev cX9_leastSaid : ByteArray := prog_11_method_85_code
def yX9_leastSaid : MethodName := ⟨RX9, "leastSaid", "()I"⟩
abbrev cX9_dearest : ByteArray := prog_11_method_86_code
def yX9_dearest : MethodName := ⟨RX9, "dearest", "()I"⟩
abbrev cX9_alike : ByteArray := prog_11_method_87_code
def yX9_alike : MethodName := ⟨RX9, "alike", "()I"⟩
abbrev cX9_said : ByteArray := prog_11_method_88_code
def yX9_said : MethodName := ⟨RX9, "said", "(I)I"⟩
abbrev cX9_byPick : ByteArray := prog_11_method_89_code
def yX9_byPick : MethodName := ⟨RX9, "byPick", "(IIIZ)I"⟩
abbrev cX9_bestOf : ByteArray := prog_11_method_90_code
def yX9_bestOf : MethodName := ⟨RX9, "bestOf", "(IIZ)I"⟩
abbrev cX9_byTurns : ByteArray := prog_11_method_91_code
def yX9_byTurns : MethodName := ⟨RX9, "byTurns", "(III)I"⟩
abbrev cX9_drawn : ByteArray := prog_11_method_92_code
def yX9_drawn : MethodName := ⟨RX9, "drawn", "(III)I"⟩
abbrev cX9_takes : ByteArray := prog_11_method_93_code
def yX9_takes : MethodName := ⟨RX9, "takes", "(II)I"⟩
abbrev cX9_hears : ByteArray := prog_11_method_94_code
def yX9_hears : MethodName := ⟨RX9, "hears", "(II)I"⟩
abbrev cX9_year : ByteArray := prog_11_method_95_code
def yX9_year : MethodName := ⟨RX9, "year", "()I"⟩
abbrev cX9_gives : ByteArray := prog_11_method_96_code
def yX9_gives : MethodName := ⟨RX9, "gives", "(III)I"⟩
abbrev cX9_led : ByteArray := prog_11_method_97_code
def yX9_led : MethodName := ⟨RX9, "led", "(I)I"⟩
abbrev cX9_image : ByteArray := prog_11_method_98_code
def yX9_image : MethodName := ⟨RX9, "image", "()I"⟩
abbrev cX9_back : ByteArray := prog_11_method_99_code
def yX9_back : MethodName := ⟨RX9, "back", "()I"⟩
abbrev cX9_assessedMany : ByteArray := prog_11_method_100_code
def yX9_assessedMany : MethodName := ⟨RX9, "assessedMany", "()I"⟩
abbrev cX9_isBody : ByteArray := prog_11_method_101_code
def yX9_isBody : MethodName := ⟨RX9, "isBody", "(I)Z"⟩
abbrev cX9_ran : ByteArray := prog_11_method_102_code
def yX9_ran : MethodName := ⟨RX9, "ran", "(I)V"⟩
abbrev cX9_trace : ByteArray := prog_11_method_103_code
def yX9_trace : MethodName := ⟨RX9, "trace", "(I)I"⟩
abbrev cX9_body : ByteArray := prog_11_method_104_code
def yX9_body : MethodName := ⟨RX9, "body", "(I)I"⟩
abbrev cX9_isUnder : ByteArray := prog_11_method_105_code
def yX9_isUnder : MethodName := ⟨RX9, "isUnder", "(II)Z"⟩
abbrev cX9_plainSays : ByteArray := prog_11_method_106_code
def yX9_plainSays : MethodName := ⟨RX9, "plainSays", "(II)I"⟩
abbrev cX9_nightSays : ByteArray := prog_11_method_107_code
def yX9_nightSays : MethodName := ⟨RX9, "nightSays", "(II)I"⟩
abbrev cX9_saying : ByteArray := prog_11_method_108_code
def yX9_saying : MethodName := ⟨RX9, "saying", "(II)I"⟩
abbrev cX9_plainCounts : ByteArray := prog_11_method_109_code
def yX9_plainCounts : MethodName := ⟨RX9, "plainCounts", "(II)I"⟩
abbrev cX9_sighCounts : ByteArray := prog_11_method_110_code
def yX9_sighCounts : MethodName := ⟨RX9, "sighCounts", "(II)I"⟩
abbrev cX9_counting : ByteArray := prog_11_method_111_code
def yX9_counting : MethodName := ⟨RX9, "counting", "(II)I"⟩
abbrev cX9_plainGoes : ByteArray := prog_11_method_112_code
def yX9_plainGoes : MethodName := ⟨RX9, "plainGoes", "(II)I"⟩
abbrev cX9_sleepGoes : ByteArray := prog_11_method_113_code
def yX9_sleepGoes : MethodName := ⟨RX9, "sleepGoes", "(II)I"⟩
abbrev cX9_going : ByteArray := prog_11_method_114_code
def yX9_going : MethodName := ⟨RX9, "going", "(II)I"⟩
abbrev cX9_plainTells : ByteArray := prog_11_method_115_code
def yX9_plainTells : MethodName := ⟨RX9, "plainTells", "(II)I"⟩
abbrev cX9_telling : ByteArray := prog_11_method_116_code
def yX9_telling : MethodName := ⟨RX9, "telling", "(II)I"⟩
abbrev cX9_act : ByteArray := prog_11_method_117_code
def yX9_act : MethodName := ⟨RX9, "act", "(III)I"⟩
abbrev cX9_count : ByteArray := prog_11_method_118_code
def yX9_count : MethodName := ⟨RX9, "count", "(I)I"⟩
abbrev cX9_isShelf : ByteArray := prog_11_method_119_code
def yX9_isShelf : MethodName := ⟨RX9, "isShelf", "(I)Z"⟩
abbrev cX9_keep : ByteArray := prog_11_method_120_code
def yX9_keep : MethodName := ⟨RX9, "keep", "(II)I"⟩
abbrev cX9_row : ByteArray := prog_11_method_121_code
def yX9_row : MethodName := ⟨RX9, "row", "(III)I"⟩
abbrev cX9_whyNoPlace : ByteArray := prog_11_method_122_code
def yX9_whyNoPlace : MethodName := ⟨RX9, "whyNoPlace", "(II)I"⟩
abbrev cX9_put : ByteArray := prog_11_method_123_code
def yX9_put : MethodName := ⟨RX9, "put", "(IIJ)I"⟩
abbrev cX9_element : ByteArray := prog_11_method_124_code
def yX9_element : MethodName := ⟨RX9, "element", "(II)J"⟩
abbrev cX9_shift : ByteArray := prog_11_method_125_code
def yX9_shift : MethodName := ⟨RX9, "shift", "(IIIII)I"⟩
abbrev cX9_taken : ByteArray := prog_11_method_126_code
def yX9_taken : MethodName := ⟨RX9, "taken", "(II)I"⟩
def RJ6 : String := "java/lang/Integer"
def TJ6 : u_T := fun k => match k with
  | _ => ("", "", "", false)
def tyJ6 : Nat → FieldType := fun k => match k with
  | _ => .int
abbrev wsJ60 : List Cond := u_ws RJ6 TJ6 0
theorem nmJ6 : ∀ a, a < 0 → ∀ b, b < 0 → a ≠ b → (TJ6 a).2.1 ≠ (TJ6 b).2.1 := by decide +kernel
theorem tyJ6_ok : ∀ k, k < 0 → parseFieldDescriptor (TJ6 k).2.2.1 = some (tyJ6 k) := by decide +kernel
abbrev cJ6_bitCount_0f7a4 : ByteArray := prog_12_method_49_code
def yJ6_bitCount_0f7a4 : MethodName := ⟨RJ6, "bitCount", "(I)I"⟩
def RJ9 : String := "java/lang/Math"
def TJ9 : u_T := fun k => match k with
  | _ => ("", "", "", false)
def tyJ9 : Nat → FieldType := fun k => match k with
  | _ => .int
abbrev wsJ90 : List Cond := u_ws RJ9 TJ9 0
theorem nmJ9 : ∀ a, a < 0 → ∀ b, b < 0 → a ≠ b → (TJ9 a).2.1 ≠ (TJ9 b).2.1 := by decide +kernel
theorem tyJ9_ok : ∀ k, k < 0 → parseFieldDescriptor (TJ9 k).2.2.1 = some (tyJ9 k) := by decide +kernel
abbrev cJ9_floorMod_7cf53 : ByteArray := prog_13_method_50_code
def yJ9_floorMod_7cf53 : MethodName := ⟨RJ9, "floorMod", "(II)I"⟩
abbrev cJ9_max_7cf53 : ByteArray := prog_13_method_65_code
def yJ9_max_7cf53 : MethodName := ⟨RJ9, "max", "(II)I"⟩
abbrev cJ9_min_7cf53 : ByteArray := prog_13_method_69_code
def yJ9_min_7cf53 : MethodName := ⟨RJ9, "min", "(II)I"⟩
def RJ10 : String := "java/lang/System"
def TJ10 : u_T := fun k => match k with
  | _ => ("", "", "", false)
def tyJ10 : Nat → FieldType := fun k => match k with
  | _ => .int
abbrev wsJ100 : List Cond := u_ws RJ10 TJ10 0
theorem nmJ10 : ∀ a, a < 0 → ∀ b, b < 0 → a ≠ b → (TJ10 a).2.1 ≠ (TJ10 b).2.1 := by decide +kernel
theorem tyJ10_ok : ∀ k, k < 0 → parseFieldDescriptor (TJ10 k).2.2.1 = some (tyJ10 k) := by decide +kernel
def RL : String := "PassBillLaw"
abbrev cL_law : ByteArray := code
def yL_law : MethodName := ⟨RL, "law", "([I)Z"⟩
abbrev vwCl : List vw_C := [(RX0, TX0, 3), (RX1, TX1, 5), (RX2, TX2, 5), (RX3, TX3, 5), (RX4, TX4, 11), (RX5, TX5, 4), (RX6, TX6, 3), (RX7, TX7, 2), (RX8, TX8, 13), (RX9, TX9, 58)]
set_option maxRecDepth 100000 in
theorem xm_in0 : ∀ w ∈ wsX00, w ∈ lw_tbl := by decide +kernel
set_option maxRecDepth 100000 in
theorem xm_in1 : ∀ w ∈ wsX10, w ∈ lw_tbl := by decide +kernel
set_option maxRecDepth 100000 in
theorem xm_in2 : ∀ w ∈ wsX20, w ∈ lw_tbl := by decide +kernel
set_option maxRecDepth 100000 in
theorem xm_in3 : ∀ w ∈ wsX30, w ∈ lw_tbl := by decide +kernel
set_option maxRecDepth 100000 in
theorem xm_in4 : ∀ w ∈ wsX40, w ∈ lw_tbl := by decide +kernel
set_option maxRecDepth 100000 in
theorem xm_in5 : ∀ w ∈ wsX50, w ∈ lw_tbl := by decide +kernel
set_option maxRecDepth 100000 in
theorem xm_in6 : ∀ w ∈ wsX60, w ∈ lw_tbl := by decide +kernel
set_option maxRecDepth 100000 in
theorem xm_in7 : ∀ w ∈ wsX70, w ∈ lw_tbl := by decide +kernel
set_option maxRecDepth 100000 in
theorem xm_in8 : ∀ w ∈ wsX80, w ∈ lw_tbl := by decide +kernel
set_option maxRecDepth 100000 in
theorem xm_in9 : ∀ w ∈ wsX90, w ∈ lw_tbl := by decide +kernel
end
section
/-! THE ABSTRACT STATE: cells in a list, a reference is a place in it (from 1000 on: an array outside that is only read) -/
abbrev xm_E : Type := (Nat × vp_A) ⊕ (Nat × List Value)
abbrev xm_H : Type := List xm_E
/-- a method: its name, code, locals, what it returns, the cells and slots that it makes -/
abbrev xm_S : Type := MethodName × ByteArray × Nat × Option FieldType × Nat × Nat
abbrev xm_X : Type := Nat × Nat × List Nat × Int32 × Int64 × List (Int32 × Nat) × xm_S
/-- a row of a method's table: pc, instruction, length, whether walks stop ahead of it, what it is resolved to -/
abbrev xm_I : Type := Nat × Instr × Nat × Option (List Nat) × xm_X
abbrev xm_O : Type := Nat → Option (Nat × (Nat → Int32))
def xm_v (r : Nat → Nat) (v : Value) : Value := match v with
  | .ref k => .ref (r k)
  | .int x => .int x
  | .long x => .long x
  | .float x => .float x
  | .double x => .double x
  | .null => .null
  | .retAddr x => .retAddr x
def xm_a (r : Nat → Nat) (a : vp_A) : vp_A := match a with
  | (n, .inl f) => (n, .inl f)
  | (n, .inr (.inl f)) => (n, .inr (.inl f))
  | (n, .inr (.inr (.inl f))) => (n, .inr (.inr (.inl f)))
  | (n, .inr (.inr (.inr (.inl f)))) => (n, .inr (.inr (.inr (.inl f))))
  | (n, .inr (.inr (.inr (.inr f)))) => (n, .inr (.inr (.inr (.inr (fun j => if j < n then (f j).map r else none)))))
def xm_e (cA : Nat → ClassId) (r : Nat → Nat) (e : xm_E) : va_E := match e with
  | .inl (t, a) => .inl (cA t, xm_a r a)
  | .inr (ci, fs) => .inr (ci, fs.map (xm_v r))
def xm_w (cA : Nat → ClassId) (r : Nat → Nat) (h : xm_H) : va_W := h.mapIdx (fun i e => (r i, xm_e cA r e))
theorem xm_w_get (cA : Nat → ClassId) (r : Nat → Nat) (h : xm_H) (i : Nat) : (xm_w cA r h)[i]? = (h[i]?).map (fun e => (r i, xm_e cA r e)) := by
  unfold xm_w; rw [List.getElem?_mapIdx]
theorem xm_w_at {cA : Nat → ClassId} {r : Nat → Nat} {h : xm_H} {i : Nat} {e : xm_E} (he : h[i]? = some e) : (xm_w cA r h)[i]? = some (r i, xm_e cA r e) := by
  rw [xm_w_get, he]; rfl
theorem xm_w_len (cA : Nat → ClassId) (r : Nat → Nat) (h : xm_H) : (xm_w cA r h).length = h.length := by simp [xm_w]
theorem xm_w_set (cA : Nat → ClassId) (r : Nat → Nat) (h : xm_H) (i : Nat) (e : xm_E) : xm_w cA r (h.set i e) = (xm_w cA r h).set i (r i, xm_e cA r e) := by
  apply List.ext_getElem?
  intro j
  rw [xm_w_get, List.getElem?_set, List.getElem?_set, xm_w_get, xm_w_len]
  by_cases hj : i = j
  · subst hj
    by_cases hl : i < h.length
    · simp [hl]
    · simp [hl]
  · simp [hj]
theorem xm_w_app (cA : Nat → ClassId) (r : Nat → Nat) (h : xm_H) (e : xm_E) : xm_w cA r (h ++ [e]) = xm_w cA r h ++ [(r h.length, xm_e cA r e)] := by
  unfold xm_w; rw [List.mapIdx_append]; simp
theorem xm_v_cat (r : Nat → Nat) (v : Value) : (xm_v r v).category = v.category := by cases v <;> rfl
/-! fields -/
def xm_fld (h : xm_H) (o ci k : Nat) : Option Value := match h[o]? with
  | some (.inr (c, fs)) => if c = ci then fs[k]? else none
  | _ => none
def xm_put (h : xm_H) (o ci k : Nat) (v : Value) : Option xm_H := match h[o]? with
  | some (.inr (c, fs)) => if c = ci ∧ k < fs.length then some (h.set o (.inr (c, fs.set k v))) else none
  | _ => none
theorem xm_fld_e {h : xm_H} {o ci k : Nat} {v : Value} (H : xm_fld h o ci k = some v) : ∃ fs, h[o]? = some (.inr (ci, fs)) ∧ fs[k]? = some v := by
  unfold xm_fld at H
  split at H
  · next c fs he =>
    split at H
    · next hc => subst hc; exact ⟨fs, he, H⟩
    · cases H
  · cases H
theorem xm_put_e {h h1 : xm_H} {o ci k : Nat} {v : Value} (H : xm_put h o ci k v = some h1) : ∃ fs, h[o]? = some (.inr (ci, fs)) ∧ k < fs.length ∧ h1 = h.set o (.inr (ci, fs.set k v)) := by
  unfold xm_put at H
  split at H
  · next c fs he =>
    split at H
    · next hc => obtain ⟨rfl, hk⟩ := hc; cases H; exact ⟨fs, he, hk, rfl⟩
    · cases H
  · cases H
/-! arrays: 0 ints, 1 bytes, 2 shorts, 3 longs, 4 references -/
def xm_ar (O : xm_O) (h : xm_H) (t a : Nat) : Option (Nat × (Nat → Int32)) := match h[a]? with
  | some (.inl (t', n, .inl f)) => if t' = t then some (n, f) else none
  | some _ => none
  | none => if t = 0 ∧ 1000 ≤ a then O (a - 1000) else none
theorem xm_ar_e {O : xm_O} {h : xm_H} {t a n : Nat} {f : Nat → Int32} (H : xm_ar O h t a = some (n, f)) : h[a]? = some (.inl (t, n, .inl f)) ∨ (t = 0 ∧ ∃ j, a = 1000 + j ∧ O j = some (n, f)) := by
  unfold xm_ar at H
  split at H
  · next t' n' f' he =>
    split at H
    · next hc => subst hc; cases H; exact Or.inl he
    · cases H
  · cases H
  · split at H
    · next hc => exact Or.inr ⟨hc.1, a - 1000, by omega, H⟩
    · cases H
def xm_ld (O : xm_O) (h : xm_H) (t a : Nat) (i : Int32) : Option Int32 := match xm_ar O h t a with
  | some (n, f) => if ¬ i < 0 ∧ i.toNatClampNeg < n then some (f i.toNatClampNeg) else none
  | none => none
theorem xm_ld_e {O : xm_O} {h : xm_H} {t a : Nat} {i x : Int32} (H : xm_ld O h t a i = some x) : ∃ n f, xm_ar O h t a = some (n, f) ∧ vp_in i n ∧ f i.toNatClampNeg = x := by
  unfold xm_ld at H
  split at H
  · next n f he =>
    split at H
    · next hc => cases H; exact ⟨n, f, he, fun q => q.elim (fun q => hc.1 q) (fun q => by omega), rfl⟩
    · cases H
  · cases H
def xm_nar (t : Nat) (x : Int32) : Int32 := match t with
  | 1 => vp_nar .byte x
  | 2 => vp_nar .short x
  | _ => x
def xm_sto (h : xm_H) (t a : Nat) (i x : Int32) : Option xm_H := match h[a]? with
  | some (.inl (t', n, .inl f)) => if t' = t ∧ ¬ i < 0 ∧ i.toNatClampNeg < n then some (h.set a (.inl (t', n, .inl (upd f i.toNatClampNeg (xm_nar t x))))) else none
  | _ => none
theorem xm_sto_e {h h1 : xm_H} {t a : Nat} {i x : Int32} (H : xm_sto h t a i x = some h1) : ∃ n f, h[a]? = some (.inl (t, n, .inl f)) ∧ vp_in i n ∧ h1 = h.set a (.inl (t, n, .inl (upd f i.toNatClampNeg (xm_nar t x)))) := by
  unfold xm_sto at H
  split at H
  · next t' n f he =>
    split at H
    · next hc => obtain ⟨rfl, hc1, hc2⟩ := hc; cases H; exact ⟨n, f, he, fun q => q.elim (fun q => hc1 q) (fun q => by omega), rfl⟩
    · cases H
  · cases H
def xm_ldL (h : xm_H) (a : Nat) (i : Int32) : Option Int64 := match h[a]? with
  | some (.inl (3, n, .inr (.inl f))) => if ¬ i < 0 ∧ i.toNatClampNeg < n then some (f i.toNatClampNeg) else none
  | _ => none
theorem xm_ldL_e {h : xm_H} {a : Nat} {i : Int32} {x : Int64} (H : xm_ldL h a i = some x) : ∃ n f, h[a]? = some (.inl (3, n, .inr (.inl f))) ∧ vp_in i n ∧ f i.toNatClampNeg = x := by
  unfold xm_ldL at H
  split at H
  · next n f he =>
    split at H
    · next hc => cases H; exact ⟨n, f, he, fun q => q.elim (fun q => hc.1 q) (fun q => by omega), rfl⟩
    · cases H
  · cases H
def xm_stoL (h : xm_H) (a : Nat) (i : Int32) (x : Int64) : Option xm_H := match h[a]? with
  | some (.inl (3, n, .inr (.inl f))) => if ¬ i < 0 ∧ i.toNatClampNeg < n then some (h.set a (.inl (3, n, .inr (.inl (vp_updL f i.toNatClampNeg x))))) else none
  | _ => none
theorem xm_stoL_e {h h1 : xm_H} {a : Nat} {i : Int32} {x : Int64} (H : xm_stoL h a i x = some h1) : ∃ n f, h[a]? = some (.inl (3, n, .inr (.inl f))) ∧ vp_in i n ∧ h1 = h.set a (.inl (3, n, .inr (.inl (vp_updL f i.toNatClampNeg x)))) := by
  unfold xm_stoL at H
  split at H
  · next n f he =>
    split at H
    · next hc => cases H; exact ⟨n, f, he, fun q => q.elim (fun q => hc.1 q) (fun q => by omega), rfl⟩
    · cases H
  · cases H
def xm_ldR (h : xm_H) (a : Nat) (i : Int32) : Option Nat := match h[a]? with
  | some (.inl (4, n, .inr (.inr (.inr (.inr f))))) => if ¬ i < 0 ∧ i.toNatClampNeg < n then f i.toNatClampNeg else none
  | _ => none
theorem xm_ldR_e {h : xm_H} {a : Nat} {i : Int32} {x : Nat} (H : xm_ldR h a i = some x) : ∃ n f, h[a]? = some (.inl (4, n, .inr (.inr (.inr (.inr f))))) ∧ vp_in i n ∧ f i.toNatClampNeg = some x := by
  unfold xm_ldR at H
  split at H
  · next n f he =>
    split at H
    · next hc => exact ⟨n, f, he, fun q => q.elim (fun q => hc.1 q) (fun q => by omega), H⟩
    · cases H
  · cases H
def xm_stoR (h : xm_H) (a : Nat) (i : Int32) (b : Nat) : Option xm_H := match h[a]?, h[b]? with
  | some (.inl (4, n, .inr (.inr (.inr (.inr f))))), some (.inr (5, _)) => if ¬ i < 0 ∧ i.toNatClampNeg < n then some (h.set a (.inl (4, n, .inr (.inr (.inr (.inr (va_up f i.toNatClampNeg (some b)))))))) else none
  | _, _ => none
theorem xm_stoR_e {h h1 : xm_H} {a b : Nat} {i : Int32} (H : xm_stoR h a i b = some h1) : ∃ n f fs, h[a]? = some (.inl (4, n, .inr (.inr (.inr (.inr f))))) ∧ h[b]? = some (.inr (5, fs)) ∧ vp_in i n ∧ h1 = h.set a (.inl (4, n, .inr (.inr (.inr (.inr (va_up f i.toNatClampNeg (some b))))))) := by
  unfold xm_stoR at H
  split at H
  · next n f fs he hb =>
    split at H
    · next hc => cases H; exact ⟨n, f, fs, he, hb, fun q => q.elim (fun q => hc.1 q) (fun q => by omega), rfl⟩
    · cases H
  · cases H
def xm_len (O : xm_O) (h : xm_H) (a : Nat) : Option Int32 := match h[a]? with
  | some (.inl (t, n, _)) => if t < 5 then some (Int32.ofNat n) else none
  | some _ => none
  | none => if 1000 ≤ a then (O (a - 1000)).map (fun q => Int32.ofNat q.1) else none
theorem xm_len_e {O : xm_O} {h : xm_H} {a : Nat} {x : Int32} (H : xm_len O h a = some x) : (∃ t n f, t < 5 ∧ h[a]? = some (.inl (t, n, f)) ∧ Int32.ofNat n = x) ∨ ∃ j n f, a = 1000 + j ∧ O j = some (n, f) ∧ Int32.ofNat n = x := by
  unfold xm_len at H
  split at H
  · next t n f he =>
    split at H
    · next ht => cases H; exact Or.inl ⟨t, n, f, ht, he, rfl⟩
    · cases H
  · cases H
  · split at H
    · next hc =>
      cases ho : O (a - 1000) with
      | none => rw [ho] at H; cases H
      | some q => rw [ho] at H; cases H; exact Or.inr ⟨a - 1000, q.1, q.2, by omega, ho, rfl⟩
    · cases H
/-- arraycopy of ints (t = 0) -/
def xm_cpI (h : xm_H) (a0 : Nat) (sp : Int32) (a1 : Nat) (dp n : Int32) : Option xm_H := match h[a0]?, h[a1]? with
  | some (.inl (0, n0, .inl f)), some (.inl (0, n1, .inl g)) => if (¬ sp < 0 ∧ ¬ dp < 0 ∧ ¬ n < 0) ∧ sp.toNatClampNeg + n.toNatClampNeg ≤ n0 ∧ dp.toNatClampNeg + n.toNatClampNeg ≤ n1 then some (h.set a1 (.inl (0, n1, .inl (va_cpy f g sp.toNatClampNeg dp.toNatClampNeg n.toNatClampNeg)))) else none
  | _, _ => none
theorem xm_cpI_e {h h1 : xm_H} {a0 a1 : Nat} {sp dp n : Int32} (H : xm_cpI h a0 sp a1 dp n = some h1) : ∃ n0 f n1 g, h[a0]? = some (.inl (0, n0, .inl f)) ∧ h[a1]? = some (.inl (0, n1, .inl g)) ∧ (¬ sp < 0 ∧ ¬ dp < 0 ∧ ¬ n < 0) ∧ sp.toNatClampNeg + n.toNatClampNeg ≤ n0 ∧ dp.toNatClampNeg + n.toNatClampNeg ≤ n1 ∧ h1 = h.set a1 (.inl (0, n1, .inl (va_cpy f g sp.toNatClampNeg dp.toNatClampNeg n.toNatClampNeg))) := by
  unfold xm_cpI at H
  split at H
  · next n0 f n1 g he hb =>
    split at H
    · next hc => cases H; exact ⟨n0, f, n1, g, he, hb, hc.1, hc.2.1, hc.2.2, rfl⟩
    · cases H
  · cases H
def xm_cpL (h : xm_H) (a0 : Nat) (sp : Int32) (a1 : Nat) (dp n : Int32) : Option xm_H := match h[a0]?, h[a1]? with
  | some (.inl (3, n0, .inr (.inl f))), some (.inl (3, n1, .inr (.inl g))) => if (¬ sp < 0 ∧ ¬ dp < 0 ∧ ¬ n < 0) ∧ sp.toNatClampNeg + n.toNatClampNeg ≤ n0 ∧ dp.toNatClampNeg + n.toNatClampNeg ≤ n1 then some (h.set a1 (.inl (3, n1, .inr (.inl (va_cpy f g sp.toNatClampNeg dp.toNatClampNeg n.toNatClampNeg))))) else none
  | _, _ => none
theorem xm_cpL_e {h h1 : xm_H} {a0 a1 : Nat} {sp dp n : Int32} (H : xm_cpL h a0 sp a1 dp n = some h1) : ∃ n0 f n1 g, h[a0]? = some (.inl (3, n0, .inr (.inl f))) ∧ h[a1]? = some (.inl (3, n1, .inr (.inl g))) ∧ (¬ sp < 0 ∧ ¬ dp < 0 ∧ ¬ n < 0) ∧ sp.toNatClampNeg + n.toNatClampNeg ≤ n0 ∧ dp.toNatClampNeg + n.toNatClampNeg ≤ n1 ∧ h1 = h.set a1 (.inl (3, n1, .inr (.inl (va_cpy f g sp.toNatClampNeg dp.toNatClampNeg n.toNatClampNeg)))) := by
  unfold xm_cpL at H
  split at H
  · next n0 f n1 g he hb =>
    split at H
    · next hc => cases H; exact ⟨n0, f, n1, g, he, hb, hc.1, hc.2.1, hc.2.2, rfl⟩
    · cases H
  · cases H
end
section
/-! locals by their places; what a store leaves -/
def xm_st1 (ls : List (Option Value)) (n : Nat) (v : Value) : List (Option Value) := match n with
  | 0 => ls.set 0 (some v)
  | m + 1 => (match ls[m]? with
    | some (some (.long _)) => ls.set m none
    | some (some (.double _)) => ls.set m none
    | _ => ls).set (m + 1) (some v)
def xm_st2 (ls : List (Option Value)) (n : Nat) (v : Value) : List (Option Value) := (xm_st1 ls n v).set (n + 1) none
def xm_lh (r : Nat → Nat) (arr : Array Slot) (nL : Nat) (ls : List (Option Value)) : Prop :=
  ls.length = nL ∧ arr.size = nL ∧ lv_wf arr ∧ ∀ (i : Nat) (v : Value), ls[i]? = some (some v) → arr[i]? = some (.val (xm_v r v))
def xm_pr (r : Nat → Nat) (ls : List (Option Value)) : List (Nat × Value) := (List.range ls.length).filterMap (fun i => match ls[i]? with
  | some (some v) => some (i, xm_v r v)
  | _ => none)
theorem xm_pr_mem {r : Nat → Nat} {ls : List (Option Value)} {i : Nat} {w : Value} : (i, w) ∈ xm_pr r ls ↔ ∃ v, ls[i]? = some (some v) ∧ w = xm_v r v := by
  unfold xm_pr
  rw [List.mem_filterMap]
  constructor
  · rintro ⟨j, -, hj⟩
    split at hj
    · next v hv => cases hj; exact ⟨v, hv, rfl⟩
    · cases hj
  · rintro ⟨v, hv, rfl⟩
    refine ⟨i, ?_, by rw [hv]⟩
    rw [List.mem_range]
    exact (List.getElem?_eq_some_iff.mp hv).1
theorem xm_lh_has {r : Nat → Nat} {arr : Array Slot} {nL : Nat} {ls : List (Option Value)} (h : xm_lh r arr nL ls) : lv_has arr nL (xm_pr r ls) := by
  refine ⟨h.2.1, h.2.2.1, fun q hq => ?_⟩
  obtain ⟨i, w⟩ := q
  obtain ⟨v, hv, rfl⟩ := xm_pr_mem.mp hq
  exact h.2.2.2 i v hv
theorem xm_st1_len (ls : List (Option Value)) (n : Nat) (v : Value) : (xm_st1 ls n v).length = ls.length := by
  unfold xm_st1
  split
  · simp
  · split <;> simp
theorem xm_st1_get {ls : List (Option Value)} {n : Nat} {v : Value} {j : Nat} {w : Value} (h : (xm_st1 ls n v)[j]? = some (some w)) : (j = n ∧ w = v) ∨ (j ≠ n ∧ ls[j]? = some (some w) ∧ ¬ (j + 1 = n ∧ w.category = 2)) := by
  unfold xm_st1 at h
  cases n with
  | zero =>
    simp only [List.getElem?_set] at h
    by_cases hj : 0 = j
    · subst hj
      simp only [if_true] at h
      split at h
      · cases h; exact Or.inl ⟨rfl, rfl⟩
      · cases h
    · rw [if_neg hj] at h
      exact Or.inr ⟨fun e => hj e.symm, h, fun e => by omega⟩
  | succ m =>
    simp only [] at h
    rw [List.getElem?_set] at h
    by_cases hj : m + 1 = j
    · subst hj
      rw [if_pos rfl] at h
      by_cases hl : m + 1 < (match ls[m]? with
        | some (some (.long _)) => ls.set m none
        | some (some (.double _)) => ls.set m none
        | _ => ls).length
      · rw [if_pos hl] at h
        cases h
        exact Or.inl ⟨rfl, rfl⟩
      · rw [if_neg hl] at h
        cases h
    · rw [if_neg hj] at h
      refine Or.inr ⟨fun e => hj e.symm, ?_⟩
      split at h
      · next x hx =>
        rw [List.getElem?_set] at h
        by_cases hm : m = j
        · subst hm
          simp only [if_true] at h
          split at h <;> cases h
        · rw [if_neg hm] at h
          exact ⟨h, fun e => hm (by omega)⟩
      · next x hx =>
        rw [List.getElem?_set] at h
        by_cases hm : m = j
        · subst hm
          simp only [if_true] at h
          split at h <;> cases h
        · rw [if_neg hm] at h
          exact ⟨h, fun e => hm (by omega)⟩
      · next h1 h2 =>
        refine ⟨h, fun e => ?_⟩
        have hm : m = j := by omega
        subst hm
        cases w with
        | long x => exact h1 x h
        | double x => exact h2 x h
        | int x => cases e.2
        | float x => cases e.2
        | null => cases e.2
        | ref x => cases e.2
        | retAddr x => cases e.2
theorem xm_lh_st1 {r : Nat → Nat} {arr' : Array Slot} {nL : Nat} {ls : List (Option Value)} {n : Nat} {v : Value} (hlen : ls.length = nL) (h : lv_has arr' nL ((n, xm_v r v) :: (xm_pr r ls).filter (fun q => !(q.1 == n) && !(q.1 + 1 == n && q.2.category == 2)))) : xm_lh r arr' nL (xm_st1 ls n v) := by
  refine ⟨by rw [xm_st1_len, hlen], h.1, h.2.1, fun j w hj => ?_⟩
  rcases xm_st1_get hj with ⟨rfl, rfl⟩ | ⟨hne, hg, hc⟩
  · exact h.2.2 _ List.mem_cons_self
  · refine h.2.2 (j, xm_v r w) (List.mem_cons_of_mem _ (List.mem_filter.mpr ⟨xm_pr_mem.mpr ⟨w, hg, rfl⟩, ?_⟩))
    simp only [Bool.and_eq_true, Bool.not_eq_true', beq_eq_false_iff_ne, ne_eq, Bool.and_eq_false_iff, xm_v_cat]
    refine ⟨hne, ?_⟩
    by_cases h1 : j + 1 = n
    · exact Or.inr (fun e => hc ⟨h1, e⟩)
    · exact Or.inl h1
theorem xm_lh_st2 {r : Nat → Nat} {arr' : Array Slot} {nL : Nat} {ls : List (Option Value)} {n : Nat} {v : Value} (hlen : ls.length = nL) (h : lv_has arr' nL ((n, xm_v r v) :: (xm_pr r ls).filter (fun q => !(q.1 == n) && (!(q.1 == n + 1) && !(q.1 + 1 == n && q.2.category == 2))))) : xm_lh r arr' nL (xm_st2 ls n v) := by
  refine ⟨by unfold xm_st2; rw [List.length_set, xm_st1_len, hlen], h.1, h.2.1, fun j w hj => ?_⟩
  unfold xm_st2 at hj
  rw [List.getElem?_set] at hj
  by_cases hn1 : n + 1 = j
  · rw [if_pos hn1] at hj
    split at hj <;> cases hj
  · rw [if_neg hn1] at hj
    rcases xm_st1_get hj with ⟨rfl, rfl⟩ | ⟨hne, hg, hc⟩
    · exact h.2.2 _ List.mem_cons_self
    · refine h.2.2 (j, xm_v r w) (List.mem_cons_of_mem _ (List.mem_filter.mpr ⟨xm_pr_mem.mpr ⟨w, hg, rfl⟩, ?_⟩))
      simp only [Bool.and_eq_true, Bool.not_eq_true', beq_eq_false_iff_ne, ne_eq, Bool.and_eq_false_iff, xm_v_cat]
      refine ⟨hne, fun e => hn1 e.symm, ?_⟩
      by_cases h1 : j + 1 = n
      · exact Or.inr (fun e => hc ⟨h1, e⟩)
      · exact Or.inl h1
/-! words of the tables that a call may take along; the nest's words -/
def xm_isN (w : Cond) : Bool := match w with
  | .fieldLinkNest .. => true
  | .methodLinkNest .. => true
  | _ => false
def xm_tb : List Cond := lw_tbl.filter goodWord
theorem xm_good_tb : GoodIn xm_tb xm_tb := fun w hw => ⟨hw, good_of_word (List.mem_filter.mp hw).2⟩
def xm_sn (j : Nat) : Option String := match j with
  | 0 => some "LEAST"
  | 1 => some "MOST"
  | 2 => some "FIRST"
  | 3 => some "ABOVE"
  | 4 => some "OWN"
  | _ => none
def xm_ls (l : List Int32) : Nat → Int32 := fun j => l.getD j 0
/-- the class's own static arrays -/
def xm_st : xm_O := fun j => match j with
  | 0 => some (11, xm_ls [0, 0, 0, 0, 0, 0, 0, 0, 0, 1, 0])
  | 1 => some (11, xm_ls [9, 9999, 99, 3, 4, 1, 99, 99, 199, 99, 99])
  | 2 => some (11, xm_ls [5, 100, 30, 0, 0, 1, 10, 20, 0, 10, 10])
  | 3 => some (8, xm_ls [-1, 0, 0, 2, 1, 3, 0, 6])
  | 4 => some (32, xm_ls [1, 10, 11, 2, 20, 0, 0, 0, 0, 30, 0, 0, 0, 41, 40, 0, 0, 0, 0, 50, 0, 0, 60, 61, 70, 0, 0, 0, 81, 80, 0, 0])
  | _ => none
def xm_ty (cA : Nat → ClassId) : List (ClassId × FieldType) := [(cA 0, .int), (cA 1, .byte), (cA 2, .short), (cA 3, .long), (cA 4, .object RX5)]
/-- what stays as it was at a method's start: classes, arrays outside, statics, nest words -/
def xm_out (O : xm_O) (r : Nat → Nat) (A : Nat → Prop) (U : State) (H : Heap) : Prop :=
  (∀ (j L : Nat) (f : Nat → Int32), O j = some (L, f) → va_X (r (1000 + j)) L f U H ∧ r (1000 + j) < H.size ∧ ¬ A (r (1000 + j))) ∧
  (∀ (j : Nat) (n : String), xm_sn j = some n → va_Z RX8 n "[I" (.ref (r (1000 + j))) A U H) ∧ (∀ w ∈ lw_tbl, xm_isN w = true → va_Nw w U) ∧ va_AO RX5 U
def xm_ag (r r' : Nat → Nat) (n n' : Nat) : Prop := ∀ i, i < n ∨ n' ≤ i → r' i = r i
def xm_Pre (D : va_G) (cA : Nat → ClassId) (r : Nat → Nat) (sz : Nat) (h : xm_H) (U : State) : Prop :=
  U.heap.size = sz ∧ va_P D vwCl (xm_w cA r h) U.heap ∧ va_K D vwCl (xm_ty cA) U ∧ va_D (fun _ => True) (xm_w cA r h) ∧ xm_out xm_st r (va_A (xm_w cA r h) sz) U U.heap
def xm_Post (D : va_G) (cA : Nat → ClassId) (r : Nat → Nat) (sz mc : Nat) (h : xm_H) (P : Option Value → xm_H → Prop) (st : State) (oc : Outcome) (t : State) : Prop :=
  (∃ (r' : Nat → Nat) (v : Option Value) (h' : xm_H), oc = .returned (v.map (xm_v r')) ∧ P v h' ∧ xm_ag r r' h.length h'.length ∧ h.length ≤ h'.length ∧ h'.length ≤ h.length + mc ∧ va_P D vwCl (xm_w cA r' h') t.heap ∧ va_D (va_A (xm_w cA r h) sz) (xm_w cA r' h')) ∧ va_F (va_A (xm_w cA r h) sz) st t
def xm_ws (S : xm_S) : List Cond := .code S.1 S.2.1 S.2.2.1 S.2.2.2.1 :: xm_tb
def xm_rm (k : Nat) (S : xm_S) : Room := { frames := k + 1, cells := S.2.2.2.2.1, slots := S.2.2.2.2.2, locals := 64 * (k + 1) }
/-- THE CONTRACT: from the cells h the method S comes, within k frames, to its end with P of answer and cells -/
def xm_Cw (k : Nat) (S : xm_S) (av : List Value) (h : xm_H) (P : Option Value → xm_H → Prop) : Prop :=
  ∀ (l : Launch) (D : va_G) (cA : Nat → ClassId) (r : Nat → Nat) (sz : Nat), Met l S.1 (xm_ws S) (xm_rm k S) (va_Pc (av.map (xm_v r)) (xm_Pre D cA r sz h)) (fun _ st oc t => xm_Post D cA r sz S.2.2.2.2.1 h P st oc t) S.2.2.2.2.1 S.2.2.2.2.2 (va_A (xm_w cA r h) sz)
def xm_Call (K : Nat) (S : xm_S) (ro : Nat) (av : List Value) (h : xm_H) (P : Option Value → xm_H → Prop) : Prop :=
  (ro = 99 ∨ ∃ (b : Nat) (fs : List Value), av.head? = some (.ref b) ∧ h[b]? = some (.inr (ro, fs))) ∧ ∃ k, k < K ∧ xm_Cw k S av h P
/-! what comes behind a call -/
def xm_pi (g : Int32 → xm_H → Prop) (v : Option Value) (h : xm_H) : Prop := ∃ x, v = some (.int x) ∧ g x h
def xm_pl (g : Int64 → xm_H → Prop) (v : Option Value) (h : xm_H) : Prop := ∃ x, v = some (.long x) ∧ g x h
def xm_pv (g : xm_H → Prop) (v : Option Value) (h : xm_H) : Prop := v = none ∧ g h
def xm_pq (g0 : xm_H → Prop) (g : Nat → xm_H → Prop) (v : Option Value) (h : xm_H) : Prop := (v = some .null ∧ g0 h) ∨ ∃ x, v = some (.ref x) ∧ g x h
/-! reading stack and locals -/
def xm_1i (st : List Value) (f : Int32 → List Value → Prop) : Prop := match st with
  | .int x :: q => f x q
  | _ => False
def xm_2i (st : List Value) (f : Int32 → Int32 → List Value → Prop) : Prop := match st with
  | .int y :: .int x :: q => f x y q
  | _ => False
def xm_1l (st : List Value) (f : Int64 → List Value → Prop) : Prop := match st with
  | .long x :: q => f x q
  | _ => False
def xm_2l (st : List Value) (f : Int64 → Int64 → List Value → Prop) : Prop := match st with
  | .long y :: .long x :: q => f x y q
  | _ => False
def xm_1r (st : List Value) (f : Nat → List Value → Prop) : Prop := match st with
  | .ref x :: q => f x q
  | _ => False
def xm_1c (st : List Value) (f : Value → List Value → Prop) : Prop := match st with
  | .int x :: q => f (.int x) q
  | .ref x :: q => f (.ref x) q
  | .null :: q => f .null q
  | _ => False
def xm_li (ls : List (Option Value)) (n : Nat) (f : Int32 → Prop) : Prop := match ls[n]? with
  | some (some (.int x)) => f x
  | _ => False
def xm_ll (ls : List (Option Value)) (n : Nat) (f : Int64 → Prop) : Prop := match ls[n]? with
  | some (some (.long x)) => f x
  | _ => False
def xm_lr (ls : List (Option Value)) (n : Nat) (f : Value → Prop) : Prop := match ls[n]? with
  | some (some (.ref x)) => f (.ref x)
  | some (some .null) => f .null
  | _ => False
theorem xm_1i_e {st : List Value} {f : Int32 → List Value → Prop} (H : xm_1i st f) : ∃ x q, st = .int x :: q ∧ f x q := by
  unfold xm_1i at H; split at H
  · exact ⟨_, _, rfl, H⟩
  · exact H.elim
theorem xm_2i_e {st : List Value} {f : Int32 → Int32 → List Value → Prop} (H : xm_2i st f) : ∃ x y q, st = .int y :: .int x :: q ∧ f x y q := by
  unfold xm_2i at H; split at H
  · exact ⟨_, _, _, rfl, H⟩
  · exact H.elim
theorem xm_1l_e {st : List Value} {f : Int64 → List Value → Prop} (H : xm_1l st f) : ∃ x q, st = .long x :: q ∧ f x q := by
  unfold xm_1l at H; split at H
  · exact ⟨_, _, rfl, H⟩
  · exact H.elim
theorem xm_2l_e {st : List Value} {f : Int64 → Int64 → List Value → Prop} (H : xm_2l st f) : ∃ x y q, st = .long y :: .long x :: q ∧ f x y q := by
  unfold xm_2l at H; split at H
  · exact ⟨_, _, _, rfl, H⟩
  · exact H.elim
theorem xm_1r_e {st : List Value} {f : Nat → List Value → Prop} (H : xm_1r st f) : ∃ x q, st = .ref x :: q ∧ f x q := by
  unfold xm_1r at H; split at H
  · exact ⟨_, _, rfl, H⟩
  · exact H.elim
theorem xm_1c_e {st : List Value} {f : Value → List Value → Prop} (H : xm_1c st f) : ∃ v q, st = v :: q ∧ ((∃ x, v = .int x) ∨ (∃ x, v = .ref x) ∨ v = .null) ∧ f v q := by
  unfold xm_1c at H; split at H
  · exact ⟨_, _, rfl, Or.inl ⟨_, rfl⟩, H⟩
  · exact ⟨_, _, rfl, Or.inr (Or.inl ⟨_, rfl⟩), H⟩
  · exact ⟨_, _, rfl, Or.inr (Or.inr rfl), H⟩
  · exact H.elim
theorem xm_li_e {ls : List (Option Value)} {n : Nat} {f : Int32 → Prop} (H : xm_li ls n f) : ∃ x, ls[n]? = some (some (.int x)) ∧ f x := by
  unfold xm_li at H; split at H
  · next x hx => exact ⟨_, hx, H⟩
  · exact H.elim
theorem xm_ll_e {ls : List (Option Value)} {n : Nat} {f : Int64 → Prop} (H : xm_ll ls n f) : ∃ x, ls[n]? = some (some (.long x)) ∧ f x := by
  unfold xm_ll at H; split at H
  · next x hx => exact ⟨_, hx, H⟩
  · exact H.elim
theorem xm_lr_e {ls : List (Option Value)} {n : Nat} {f : Value → Prop} (H : xm_lr ls n f) : ∃ v, ls[n]? = some (some v) ∧ ((∃ x, v = .ref x) ∨ v = .null) ∧ f v := by
  unfold xm_lr at H; split at H
  · next x hx => exact ⟨_, hx, Or.inl ⟨_, rfl⟩, H⟩
  · next hx => exact ⟨_, hx, Or.inr rfl, H⟩
  · exact H.elim
end
section
def xm_1q (st : List Value) (f : Value → List Value → Prop) : Prop := match st with
  | .ref x :: q => f (.ref x) q
  | .null :: q => f .null q
  | _ => False
theorem xm_1q_e {st : List Value} {f : Value → List Value → Prop} (H : xm_1q st f) : ∃ v q, st = v :: q ∧ ((∃ x, v = .ref x) ∨ v = .null) ∧ f v q := by
  unfold xm_1q at H; split at H
  · exact ⟨_, _, rfl, Or.inl ⟨_, rfl⟩, H⟩
  · exact ⟨_, _, rfl, Or.inr rfl, H⟩
  · exact H.elim
def xm_vv (n : Nat) (v : Value) : Bool := match v with
  | .ref k => decide (k < n) || decide (1000 ≤ k)
  | _ => true
def xm_ve (n : Nat) (e : xm_E) : Bool := match e with
  | .inr (_, fs) => fs.all (xm_vv n)
  | .inl (_, m, .inr (.inr (.inr (.inr f)))) => (List.range m).all (fun j => match f j with
    | some k => decide (k < n)
    | none => true)
  | _ => true
def xm_vo (n : Nat) (q : Option Value) : Bool := match q with
  | some v => xm_vv n v
  | none => true
/-- every reference is one to a cell that is there, and m more cells fit -/
def xm_va (h : xm_H) (ls : List (Option Value)) (st : List Value) (m : Nat) : Prop := h.all (xm_ve h.length) = true ∧ ls.all (xm_vo h.length) = true ∧ st.all (xm_vv h.length) = true ∧ h.length + m ≤ 1000
abbrev xm_K : Type := Nat → Nat → Nat → List (Option Value) → List Value → xm_H → Prop
def xm_cl (st : List Value) (m : Nat) (f : List Value → List Value → Prop) : Prop := if m ≤ st.length ∧ ((st.drop m).map (fun v => v.category)).sum ≤ 8 then f (st.take m).reverse (st.drop m) else False
def xm_af (rt : Option FieldType) (rest : List Value) (g : List Value → xm_H → Prop) : Option Value → xm_H → Prop := match rt with
  | none => xm_pv (fun h1 => g rest h1)
  | some .int => xm_pi (fun x h1 => g (.int x :: rest) h1)
  | some .boolean => xm_pi (fun x h1 => g (.int x :: rest) h1)
  | some .long => xm_pl (fun x h1 => g (.long x :: rest) h1)
  | some (.object _) => xm_pq (fun h1 => g (.null :: rest) h1) (fun x h1 => g (.ref x :: rest) h1)
  | _ => fun _ _ => False
def xm_sw (x : Int32) (sw : List (Int32 × Nat)) (d : Nat) (f : Nat → Prop) : Prop := match sw with
  | [] => f d
  | q :: r => if x = q.1 then f q.2 else xm_sw x r d f
def xm_call (K : Nat) (S T : xm_S) (m ro k uc us : Nat) (ls : List (Option Value)) (st : List Value) (h : xm_H) (g : xm_K) : Prop :=
  xm_cl st m (fun av rest => if T.2.2.2.2.1 = 0 then (if T.2.2.2.2.2 = 0 ∧ T.2.2.1 ≤ 45 then xm_Call K T ro av h (xm_af T.2.2.2.1 rest (fun st1 h1 => g (k + 1) uc us ls st1 h1)) else False)
    else (uc + T.2.2.2.2.1 ≤ S.2.2.2.2.1 ∧ us + T.2.2.2.2.2 ≤ S.2.2.2.2.2 ∧ T.2.2.1 ≤ 45) ∧ xm_va h ls rest T.2.2.2.2.1 ∧ xm_Call K T ro av h (xm_af T.2.2.2.1 rest (fun st1 h1 => g (k + 1) (uc + T.2.2.2.2.1) (us + T.2.2.2.2.2) ls st1 h1)))
/-- the fields of a new object -/
def xm_df (a : Nat) : List Value := match a with
  | 0 => (List.range 3).map (fun j => defaultValue (tyX0 j))
  | 1 => (List.range 5).map (fun j => defaultValue (tyX1 j))
  | 2 => (List.range 5).map (fun j => defaultValue (tyX2 j))
  | 3 => (List.range 5).map (fun j => defaultValue (tyX3 j))
  | 4 => (List.range 11).map (fun j => defaultValue (tyX4 j))
  | 5 => (List.range 4).map (fun j => defaultValue (tyX5 j))
  | 6 => (List.range 3).map (fun j => defaultValue (tyX6 j))
  | 7 => (List.range 2).map (fun j => defaultValue (tyX7 j))
  | 8 => (List.range 13).map (fun j => defaultValue (tyX8 j))
  | 9 => (List.range 58).map (fun j => defaultValue (tyX9 j))
  | _ => []
def xm_za (t n : Nat) : xm_E := match t with
  | 3 => .inl (3, n, .inr (.inl (fun _ => 0)))
  | t => .inl (t, n, .inl (fun _ => 0))
def xm_cpy (l : Nat) (h : xm_H) (st : List Value) (f : List Value → xm_H → Prop) : Prop := match st with
  | .int n :: .int dp :: .ref a1 :: .int sp :: .ref a0 :: q => if (q.map (fun v => v.category)).sum ≤ 8 then ∃ h1, (if l = 0 then xm_cpI h a0 sp a1 dp n else xm_cpL h a0 sp a1 dp n) = some h1 ∧ f q h1 else False
  | _ => False
def xm_gf (h : xm_H) (o a b : Nat) (v : Int32) (f : Value → Prop) : Prop := if v = 0 then ∃ x, xm_fld h o a b = some (.int x) ∧ f (.int x) else ∃ x, xm_fld h o a b = some (.ref x) ∧ f (.ref x)
def xm_e1 (st : List Value) (f : Value → Prop) : Prop := match st with
  | [y] => f y
  | _ => False
theorem xm_e1_e {st : List Value} {f : Value → Prop} (H : xm_e1 st f) : ∃ y, st = [y] ∧ f y := by
  unfold xm_e1 at H; split at H
  · exact ⟨_, rfl, H⟩
  · exact H.elim
/-- what must hold ahead of an instruction -/
def xm_wp (O : xm_O) (K : Nat) (S : xm_S) (i : Instr) (x : xm_X) (k uc us : Nat) (ls : List (Option Value)) (st : List Value) (h : xm_H) (P : Option Value → xm_H → Prop) (g : xm_K) : Prop := match x with
  | (a, b, _, v, w, sw, T) => match i with
    | .iconst _ => g (k + 1) uc us ls (.int v :: st) h
    | .bipush _ => g (k + 1) uc us ls (.int v :: st) h
    | .sipush _ => g (k + 1) uc us ls (.int v :: st) h
    | .ldc _ => g (k + 1) uc us ls (.int v :: st) h
    | .ldc_w _ => g (k + 1) uc us ls (.int v :: st) h
    | .lconst _ => g (k + 1) uc us ls (.long w :: st) h
    | .ldc2_w _ => g (k + 1) uc us ls (.long w :: st) h
    | .aconst_null => g (k + 1) uc us ls (.null :: st) h
    | .iload_n n => xm_li ls n (fun y => g (k + 1) uc us ls (.int y :: st) h)
    | .iload n => xm_li ls n (fun y => g (k + 1) uc us ls (.int y :: st) h)
    | .lload_n n => xm_ll ls n (fun y => g (k + 1) uc us ls (.long y :: st) h)
    | .lload n => xm_ll ls n (fun y => g (k + 1) uc us ls (.long y :: st) h)
    | .aload_n n => xm_lr ls n (fun y => g (k + 1) uc us ls (y :: st) h)
    | .aload n => xm_lr ls n (fun y => g (k + 1) uc us ls (y :: st) h)
    | .istore_n n => xm_1i st (fun y q => if (n : Nat) < ls.length then g (k + 1) uc us (xm_st1 ls n (.int y)) q h else False)
    | .istore n => xm_1i st (fun y q => if n < ls.length then g (k + 1) uc us (xm_st1 ls n (.int y)) q h else False)
    | .lstore n => xm_1l st (fun y q => if n + 1 < ls.length then g (k + 1) uc us (xm_st2 ls n (.long y)) q h else False)
    | .astore_n n => xm_1q st (fun y q => if (n : Nat) < ls.length then g (k + 1) uc us (xm_st1 ls n y) q h else False)
    | .astore n => xm_1q st (fun y q => if n < ls.length then g (k + 1) uc us (xm_st1 ls n y) q h else False)
    | .iinc n _ => xm_li ls n (fun y => g (k + 1) uc us (xm_st1 ls n (.int (y + v))) st h)
    | .iadd => xm_2i st (fun x y q => g (k + 1) uc us ls (.int (x + y) :: q) h)
    | .isub => xm_2i st (fun x y q => g (k + 1) uc us ls (.int (x - y) :: q) h)
    | .imul => xm_2i st (fun x y q => g (k + 1) uc us ls (.int (x * y) :: q) h)
    | .iand => xm_2i st (fun x y q => g (k + 1) uc us ls (.int (x &&& y) :: q) h)
    | .ior => xm_2i st (fun x y q => g (k + 1) uc us ls (.int (x ||| y) :: q) h)
    | .ixor => xm_2i st (fun x y q => g (k + 1) uc us ls (.int (x ^^^ y) :: q) h)
    | .ishl => xm_2i st (fun x y q => g (k + 1) uc us ls (.int (x <<< (y &&& 31)) :: q) h)
    | .ishr => xm_2i st (fun x y q => g (k + 1) uc us ls (.int (x >>> (y &&& 31)) :: q) h)
    | .iushr => xm_2i st (fun x y q => g (k + 1) uc us ls (.int ((x.toUInt32 >>> (y.toUInt32 &&& Int32.toUInt32 31)).toInt32) :: q) h)
    | .idiv => xm_2i st (fun x y q => ¬ y = 0 ∧ g (k + 1) uc us ls (.int (x / y) :: q) h)
    | .irem => xm_2i st (fun x y q => ¬ y = 0 ∧ g (k + 1) uc us ls (.int (x - x / y * y) :: q) h)
    | .ineg => xm_1i st (fun x q => g (k + 1) uc us ls (.int (-x) :: q) h)
    | .ladd => xm_2l st (fun x y q => g (k + 1) uc us ls (.long (x + y) :: q) h)
    | .land => xm_2l st (fun x y q => g (k + 1) uc us ls (.long (x &&& y) :: q) h)
    | .lor => xm_2l st (fun x y q => g (k + 1) uc us ls (.long (x ||| y) :: q) h)
    | .lshl => xm_1i st (fun y q => xm_1l q (fun x q => g (k + 1) uc us ls (.long (x <<< (y.toInt64 &&& 63)) :: q) h))
    | .lcmp => xm_2l st (fun x y q => g (k + 1) uc us ls (.int (lg_cmp x y) :: q) h)
    | .i2l => xm_1i st (fun x q => g (k + 1) uc us ls (.long x.toInt64 :: q) h)
    | .l2i => xm_1l st (fun x q => g (k + 1) uc us ls (.int x.toInt32 :: q) h)
    | .i2b => xm_1i st (fun x q => g (k + 1) uc us ls (.int x.toInt8.toInt32 :: q) h)
    | .i2s => xm_1i st (fun x q => g (k + 1) uc us ls (.int x.toInt16.toInt32 :: q) h)
    | .dup => xm_1c st (fun y q => g (k + 1) uc us ls (y :: y :: q) h)
    | .dup2 => xm_1c st (fun y q => xm_1c q (fun z q => g (k + 1) uc us ls (y :: z :: y :: z :: q) h))
    | .pop => xm_1c st (fun _ q => g (k + 1) uc us ls q h)
    | .ifCond .eq _ => xm_1i st (fun x q => if x = 0 then g a uc us ls q h else g (k + 1) uc us ls q h)
    | .ifCond .ne _ => xm_1i st (fun x q => if x = 0 then g (k + 1) uc us ls q h else g a uc us ls q h)
    | .ifCond .lt _ => xm_1i st (fun x q => if x < 0 then g a uc us ls q h else g (k + 1) uc us ls q h)
    | .ifCond .ge _ => xm_1i st (fun x q => if x < 0 then g (k + 1) uc us ls q h else g a uc us ls q h)
    | .ifCond .gt _ => xm_1i st (fun x q => if 0 < x then g a uc us ls q h else g (k + 1) uc us ls q h)
    | .ifCond .le _ => xm_1i st (fun x q => if 0 < x then g (k + 1) uc us ls q h else g a uc us ls q h)
    | .if_icmp .eq _ => xm_2i st (fun x y q => if x = y then g a uc us ls q h else g (k + 1) uc us ls q h)
    | .if_icmp .ne _ => xm_2i st (fun x y q => if x = y then g (k + 1) uc us ls q h else g a uc us ls q h)
    | .if_icmp .lt _ => xm_2i st (fun x y q => if x < y then g a uc us ls q h else g (k + 1) uc us ls q h)
    | .if_icmp .ge _ => xm_2i st (fun x y q => if x < y then g (k + 1) uc us ls q h else g a uc us ls q h)
    | .if_icmp .gt _ => xm_2i st (fun x y q => if y < x then g a uc us ls q h else g (k + 1) uc us ls q h)
    | .if_icmp .le _ => xm_2i st (fun x y q => if y < x then g (k + 1) uc us ls q h else g a uc us ls q h)
    | .ifnull _ => xm_1c st (fun y q => match y with
      | .null => g a uc us ls q h
      | .ref _ => g (k + 1) uc us ls q h
      | _ => False)
    | .ifnonnull _ => xm_1c st (fun y q => match y with
      | .null => g (k + 1) uc us ls q h
      | .ref _ => g a uc us ls q h
      | _ => False)
    | .goto _ => g a uc us ls st h
    | .tableswitch .. => xm_1i st (fun x q => xm_sw x sw a (fun t => g t uc us ls q h))
    | .lookupswitch .. => xm_1i st (fun x q => xm_sw x sw a (fun t => g t uc us ls q h))
    | .getfield _ => xm_1r st (fun o q => xm_gf h o a b v (fun y => g (k + 1) uc us ls (y :: q) h))
    | .putfield _ => if v = 0 then xm_1i st (fun y q => xm_1r q (fun o q => ∃ h1, xm_put h o a b (.int y) = some h1 ∧ g (k + 1) uc us ls q h1)) else if v = 2 then xm_1i st (fun y q => if y = 0 ∨ y = 1 then xm_1r q (fun o q => ∃ h1, xm_put h o a b (.int y) = some h1 ∧ g (k + 1) uc us ls q h1) else False) else xm_1r st (fun y q => xm_1r q (fun o q => ∃ h1, xm_put h o a b (.ref y) = some h1 ∧ g (k + 1) uc us ls q h1))
    | .getstatic _ => g (k + 1) uc us ls (.ref (1000 + a) :: st) h
    | .iaload => xm_1i st (fun j q => xm_1r q (fun o q => ∃ y, xm_ld O h 0 o j = some y ∧ g (k + 1) uc us ls (.int y :: q) h))
    | .baload => xm_1i st (fun j q => xm_1r q (fun o q => ∃ y, xm_ld O h 1 o j = some y ∧ g (k + 1) uc us ls (.int y :: q) h))
    | .saload => xm_1i st (fun j q => xm_1r q (fun o q => ∃ y, xm_ld O h 2 o j = some y ∧ g (k + 1) uc us ls (.int y :: q) h))
    | .laload => xm_1i st (fun j q => xm_1r q (fun o q => ∃ y, xm_ldL h o j = some y ∧ g (k + 1) uc us ls (.long y :: q) h))
    | .aaload => xm_1i st (fun j q => xm_1r q (fun o q => ∃ y, xm_ldR h o j = some y ∧ g (k + 1) uc us ls (.ref y :: q) h))
    | .iastore => xm_2i st (fun j y q => xm_1r q (fun o q => ∃ h1, xm_sto h 0 o j y = some h1 ∧ g (k + 1) uc us ls q h1))
    | .bastore => xm_2i st (fun j y q => xm_1r q (fun o q => ∃ h1, xm_sto h 1 o j y = some h1 ∧ g (k + 1) uc us ls q h1))
    | .sastore => xm_2i st (fun j y q => xm_1r q (fun o q => ∃ h1, xm_sto h 2 o j y = some h1 ∧ g (k + 1) uc us ls q h1))
    | .lastore => xm_1l st (fun y q => xm_1i q (fun j q => xm_1r q (fun o q => ∃ h1, xm_stoL h o j y = some h1 ∧ g (k + 1) uc us ls q h1)))
    | .aastore => xm_1r st (fun y q => xm_1i q (fun j q => xm_1r q (fun o q => ∃ h1, xm_stoR h o j y = some h1 ∧ g (k + 1) uc us ls q h1)))
    | .arraylength => xm_1r st (fun o q => ∃ y, xm_len O h o = some y ∧ g (k + 1) uc us ls (.int y :: q) h)
    | .new _ => (uc + 1 ≤ S.2.2.2.2.1 ∧ us + b ≤ S.2.2.2.2.2) ∧ xm_va h ls st 1 ∧ g (k + 1) (uc + 1) (us + b) ls (.ref h.length :: st) (h ++ [.inr (a, xm_df a)])
    | .newarray _ => xm_1i st (fun n q => if n = v then (uc + 1 ≤ S.2.2.2.2.1 ∧ us + b ≤ S.2.2.2.2.2) ∧ xm_va h ls q 1 ∧ g (k + 1) (uc + 1) (us + b) ls (.ref h.length :: q) (h ++ [xm_za a b]) else False)
    | .anewarray _ => xm_1i st (fun n q => if n = v then (uc + 1 ≤ S.2.2.2.2.1 ∧ us + b ≤ S.2.2.2.2.2) ∧ xm_va h ls q 1 ∧ g (k + 1) (uc + 1) (us + b) ls (.ref h.length :: q) (h ++ [.inl (4, b, .inr (.inr (.inr (.inr (fun _ => none)))))]) else False)
    | .invokestatic _ => if v = 3 then xm_cpy b h st (fun q h1 => g (k + 1) uc us ls q h1) else xm_call K S T a 99 k uc us ls st h g
    | .invokevirtual _ => xm_call K S T (a + 1) b k uc us ls st h g
    | .invokespecial _ => if v = 2 then xm_1r st (fun _ q => if (q.map (fun v => v.category)).sum ≤ 8 then g (k + 1) uc us ls q h else False) else xm_call K S T (a + 1) b k uc us ls st h g
    | .ireturn => match S.2.2.2.1 with
      | some .int => xm_e1 st (fun y => match y with
        | .int x => P (some (.int x)) h
        | _ => False)
      | some .boolean => xm_e1 st (fun y => match y with
        | .int x => if x = 0 ∨ x = 1 then P (some (.int x)) h else False
        | _ => False)
      | _ => False
    | .lreturn => match S.2.2.2.1 with
      | some .long => xm_e1 st (fun y => match y with
        | .long x => P (some (.long x)) h
        | _ => False)
      | _ => False
    | .areturn => match S.2.2.2.1 with
      | some (.object _) => xm_e1 st (fun y => match y with
        | .ref x => P (some (.ref x)) h
        | .null => P (some .null) h
        | _ => False)
      | _ => False
    | .return_ => match S.2.2.2.1 with
      | none => (match st with
        | [] => P none h
        | _ => False)
      | _ => False
    | _ => False

def xm_pc (C : List xm_I) (k : Nat) : Nat := match C[k]? with
  | some q => q.1
  | none => 0
def xm_w1 (pl : List Nat) (n : Nat) (w : Cond) : Bool := decide (lw_tbl[pl.getD n 0]? = some w) && goodWord w
def xm_w2 (pl : List Nat) (n : Nat) (w : Cond) : Bool := decide (lw_tbl[pl.getD n 0]? = some w) && xm_isN w
theorem xm_w1_e {pl : List Nat} {n : Nat} {w : Cond} (h : xm_w1 pl n w = true) : w ∈ xm_tb := by
  unfold xm_w1 at h
  rw [Bool.and_eq_true, decide_eq_true_eq] at h
  exact List.mem_filter.mpr ⟨List.mem_of_getElem? h.1, h.2⟩
theorem xm_w2_e {pl : List Nat} {n : Nat} {w : Cond} (h : xm_w2 pl n w = true) : w ∈ lw_tbl ∧ xm_isN w = true := by
  unfold xm_w2 at h
  rw [Bool.and_eq_true, decide_eq_true_eq] at h
  exact ⟨List.mem_of_getElem? h.1, h.2⟩
def xm_end (i : Instr) : Bool := match i with
  | .goto _ => true
  | .ireturn => true
  | .lreturn => true
  | .areturn => true
  | .return_ => true
  | .tableswitch .. => true
  | .lookupswitch .. => true
  | _ => false
def xm_fl (a b : Nat) : Option (String × String × String × Bool) := match vwCl[a]? with
  | some (_, T, N) => if b < N then some (T b) else none
  | none => none
def xm_md (T : xm_S) (n : Nat) : Bool := decide (T.1.cls ≠ "java/lang/invoke/MethodHandle") && decide (T.1.cls ≠ "java/lang/invoke/VarHandle") && decide ((parseMethodDescriptor T.1.desc).map (fun d => d.parameters.length) = some n)
def xm_cw (T : xm_S) : Cond := .code T.1 T.2.1 T.2.2.1 T.2.2.2.1
def xm_ptO (ty : Option FieldType) : Bool := match ty with
  | some (.object _) => true
  | some (.array _) => true
  | _ => false
/-- are the row's numbers right -/
def xm_lk (S : xm_S) (own : String) (C : List xm_I) (pc : Nat) (i : Instr) (x : xm_X) : Bool := match x with
  | (a, b, pl, v, w, sw, T) => match i with
    | .iconst n => decide (Int32.ofInt n = v)
    | .bipush n => decide ((Int8.ofInt n).toInt32 = v)
    | .sipush n => decide ((Int16.ofInt n).toInt32 = v)
    | .ldc j => xm_w1 pl 0 (.constant own j v)
    | .ldc_w j => xm_w1 pl 0 (.constant own j v)
    | .lconst n => decide (Int64.ofNat (n : Nat) = w)
    | .ldc2_w j => xm_w1 pl 0 (.constantLong own j w)
    | .iinc _ n => decide (Int32.ofInt n = v)
    | .ifCond _ off => decide ((pc : Int) + off = (xm_pc C a : Int))
    | .if_icmp _ off => decide ((pc : Int) + off = (xm_pc C a : Int))
    | .ifnull off => decide ((pc : Int) + off = (xm_pc C a : Int))
    | .ifnonnull off => decide ((pc : Int) + off = (xm_pc C a : Int))
    | .goto off => decide ((pc : Int) + off = (xm_pc C a : Int))
    | .tableswitch d lo hi offs => decide ((pc : Int) + d = (xm_pc C a : Int)) && decide (hi = lo + offs.size - 1) && decide (sw.map (fun q => (q.1.toInt, (xm_pc C q.2 : Int))) = offs.toList.mapIdx (fun j o => (lo + (j : Int), (pc : Int) + o)))
    | .lookupswitch d ps => decide ((pc : Int) + d = (xm_pc C a : Int)) && (ps.toList.zip (ps.toList.drop 1)).all (fun (a, next) => a.1 < next.1) && decide (sw.map (fun q => (q.1.toInt, (xm_pc C q.2 : Int))) = ps.toList.map (fun q => (q.1, (pc : Int) + q.2)))
    | .getfield j => match xm_fl a b with
      | some f => xm_w1 pl 0 (.fieldLink own j f.1 f.2.1 f.2.2.1)
      | none => false
    | .putfield j => match xm_fl a b with
      | some f => xm_w1 pl 0 (.fieldLink own j f.1 f.2.1 f.2.2.1) && (!f.2.2.2 || (decide (S.1.name = "<init>") && decide (f.1 = own))) && (if v = 0 then decide (parseFieldDescriptor f.2.2.1 = some .int) else if v = 2 then decide (parseFieldDescriptor f.2.2.1 = some .boolean) else xm_ptO (parseFieldDescriptor f.2.2.1))
      | none => false
    | .getstatic j => match xm_sn a with
      | some n => if v = 0 then xm_w1 pl 0 (.fieldLink own j RX8 n "[I") else xm_w2 pl 0 (.fieldLinkNest own j RX8 n "[I" RX8)
      | none => false
    | .new j => match vwCl[a]? with
      | some (Cn, _, N) => decide (N = b) && xm_w1 pl 0 (.classLink own j Cn) && xm_w1 pl 1 (.instantiable Cn N) && xm_w1 pl 2 (.initialized Cn)
      | none => false
    | .newarray t => decide (v.toNatClampNeg = b) && decide (¬ v < 0) && decide (b ≤ 100000) && (match t with
      | .int => decide (a = 0) && xm_w1 pl 0 (.arrayClass .int)
      | .byte => decide (a = 1) && xm_w1 pl 0 (.arrayClass .byte)
      | .short => decide (a = 2) && xm_w1 pl 0 (.arrayClass .short)
      | .long => decide (a = 3) && xm_w1 pl 0 (.arrayClass .long)
      | _ => false)
    | .anewarray j => decide (v.toNatClampNeg = b) && decide (¬ v < 0) && decide (b ≤ 100000) && xm_w1 pl 0 (.classLink own j RX5)
    | .invokestatic j => if v = 3 then xm_w1 pl 0 (.methodLink own j arraycopyName) && xm_w1 pl 1 (.native arraycopyName) && xm_w1 pl 2 (.static arraycopyName) && xm_w1 pl 3 (.initialized "java/lang/System")
      else (if v = 0 then xm_w1 pl 0 (.methodLink own j T.1) else xm_w2 pl 0 (.methodLinkNest own j T.1 RX8)) && xm_w1 pl 1 (.static T.1) && xm_w1 pl 2 (.initialized T.1.cls) && xm_w1 pl 3 (xm_cw T) && xm_md T a
    | .invokevirtual j => xm_w1 pl 0 (.methodLink own j T.1) && xm_w1 pl 1 (.instanceMethod T.1) && xm_w1 pl 2 (.selects T.1.cls T.1 T.1) && xm_w1 pl 3 (.initialized T.1.cls) && xm_w1 pl 4 (xm_cw T) && xm_md T a && decide ((vwCl[b]?).map (fun q => q.1) = some T.1.cls)
    | .invokespecial j => if v = 2 then xm_w1 pl 0 (.methodLink own j objectInit) && xm_w1 pl 1 (.instanceMethod objectInit) && xm_w1 pl 2 (.code objectInit ⟨#[0xb1]⟩ 1 none)
      else (if v = 0 then xm_w1 pl 0 (.methodLink own j T.1) else xm_w2 pl 0 (.methodLinkNest own j T.1 RX8)) && xm_w1 pl 1 (.instanceMethod T.1) && xm_w1 pl 2 (.initialized T.1.cls) && xm_w1 pl 3 (xm_cw T) && xm_md T a && decide (T.1.name = "<init>") && decide (T.2.2.2.1 = none) && decide ((vwCl[b]?).map (fun q => q.1) = some T.1.cls)
    | _ => true
def xm_il (i : Instr) (len : Nat) : Nat := match i with
  | .aconst_null => 1
  | .iload_n _ => 1
  | .lload_n _ => 1
  | .aload_n _ => 1
  | .istore_n _ => 1
  | .astore_n _ => 1
  | .iconst _ => 1
  | .lconst _ => 1
  | .iadd => 1
  | .isub => 1
  | .imul => 1
  | .iand => 1
  | .ior => 1
  | .ixor => 1
  | .ishl => 1
  | .ishr => 1
  | .iushr => 1
  | .idiv => 1
  | .irem => 1
  | .ineg => 1
  | .ladd => 1
  | .land => 1
  | .lor => 1
  | .lshl => 1
  | .lcmp => 1
  | .i2l => 1
  | .l2i => 1
  | .i2b => 1
  | .i2s => 1
  | .dup => 1
  | .dup2 => 1
  | .pop => 1
  | .iaload => 1
  | .baload => 1
  | .saload => 1
  | .laload => 1
  | .aaload => 1
  | .iastore => 1
  | .bastore => 1
  | .sastore => 1
  | .lastore => 1
  | .aastore => 1
  | .arraylength => 1
  | .ireturn => 1
  | .lreturn => 1
  | .areturn => 1
  | .return_ => 1
  | .bipush _ => 2
  | .ldc _ => 2
  | .iload _ => 2
  | .lload _ => 2
  | .aload _ => 2
  | .istore _ => 2
  | .lstore _ => 2
  | .astore _ => 2
  | .newarray _ => 2
  | .sipush _ => 3
  | .ldc_w _ => 3
  | .ldc2_w _ => 3
  | .iinc _ _ => 3
  | .ifCond _ _ => 3
  | .if_icmp _ _ => 3
  | .ifnull _ => 3
  | .ifnonnull _ => 3
  | .goto _ => 3
  | .getfield _ => 3
  | .putfield _ => 3
  | .getstatic _ => 3
  | .new _ => 3
  | .anewarray _ => 3
  | .invokestatic _ => 3
  | .invokevirtual _ => 3
  | .invokespecial _ => 3
  | .tableswitch .. => len
  | .lookupswitch .. => len
  | _ => len + 1
def xm_ck (S : xm_S) (own : String) (C : List xm_I) (k : Nat) (e : xm_I) : Bool := match e with
  | (pc, i, len, _, x) => decide (decode S.2.1 pc = .ok (i, len)) && decide (xm_il i len = len) && (xm_end i || (match C[k + 1]? with
    | some q => decide (q.1 = pc + len)
    | none => false)) && xm_lk S own C pc i x
def xm_ok (S : xm_S) (own : String) (C : List xm_I) : Bool := (List.range C.length).all (fun k => match C[k]? with
  | some e => xm_ck S own C k e
  | none => true)
theorem xm_ok_e {S : xm_S} {own : String} {C : List xm_I} (h : xm_ok S own C = true) {k : Nat} {e : xm_I} (he : C[k]? = some e) : xm_ck S own C k e = true := by
  unfold xm_ok at h
  have h1 := List.all_eq_true.mp h k (List.mem_range.mpr (List.getElem?_eq_some_iff.mp he).1)
  rw [he] at h1
  exact h1
end
section
theorem xm_df_at (n : Nat) (ty : Nat → FieldType) (j : Nat) (hj : j < n) : defaultValue (ty j) = vp_V ((List.range n).map (fun j => defaultValue (ty j))) j := by
  unfold vp_V
  rw [List.getD_eq_getElem?_getD, List.getElem?_map, List.getElem?_range hj]
  rfl
def xm_ClsOk (a : Nat) (q : vw_C) : Prop := ∃ ty : Nat → FieldType, (∀ w ∈ u_ws q.1 q.2.1 q.2.2, w ∈ xm_tb) ∧ (∀ k, k < q.2.2 → parseFieldDescriptor (q.2.1 k).2.2.1 = some (ty k)) ∧ (∀ x, x < q.2.2 → ∀ y, y < q.2.2 → x ≠ y → (q.2.1 x).2.1 ≠ (q.2.1 y).2.1) ∧ (∀ j, j < q.2.2 → defaultValue (ty j) = vp_V (xm_df a) j)
theorem xm_cls_of {C : String} {T : u_T} {N : Nat} (ha : (u_ws C T N).all goodWord = true) (hi : ∀ w ∈ u_ws C T N, w ∈ lw_tbl) : ∀ w ∈ u_ws C T N, w ∈ xm_tb := fun w hw => List.mem_filter.mpr ⟨hi w hw, List.all_eq_true.mp ha w hw⟩
set_option maxRecDepth 100000 in
theorem xm_cls {a : Nat} {q : vw_C} (h : vwCl[a]? = some q) : xm_ClsOk a q := by
  match a, h with
  | 0, h => cases h; exact ⟨tyX0, xm_cls_of (by decide +kernel) xm_in0, tyX0_ok, nmX0, xm_df_at 3 tyX0⟩
  | 1, h => cases h; exact ⟨tyX1, xm_cls_of (by decide +kernel) xm_in1, tyX1_ok, nmX1, xm_df_at 5 tyX1⟩
  | 2, h => cases h; exact ⟨tyX2, xm_cls_of (by decide +kernel) xm_in2, tyX2_ok, nmX2, xm_df_at 5 tyX2⟩
  | 3, h => cases h; exact ⟨tyX3, xm_cls_of (by decide +kernel) xm_in3, tyX3_ok, nmX3, xm_df_at 5 tyX3⟩
  | 4, h => cases h; exact ⟨tyX4, xm_cls_of (by decide +kernel) xm_in4, tyX4_ok, nmX4, xm_df_at 11 tyX4⟩
  | 5, h => cases h; exact ⟨tyX5, xm_cls_of (by decide +kernel) xm_in5, tyX5_ok, nmX5, xm_df_at 4 tyX5⟩
  | 6, h => cases h; exact ⟨tyX6, xm_cls_of (by decide +kernel) xm_in6, tyX6_ok, nmX6, xm_df_at 3 tyX6⟩
  | 7, h => cases h; exact ⟨tyX7, xm_cls_of (by decide +kernel) xm_in7, tyX7_ok, nmX7, xm_df_at 2 tyX7⟩
  | 8, h => cases h; exact ⟨tyX8, xm_cls_of (by decide +kernel) xm_in8, tyX8_ok, nmX8, xm_df_at 13 tyX8⟩
  | 9, h => cases h; exact ⟨tyX9, xm_cls_of (by decide +kernel) xm_in9, tyX9_ok, nmX9, xm_df_at 58 tyX9⟩
  | n + 10, h => cases h
/-- the method's own surroundings -/
def xm_En (K : Nat) (S : xm_S) (own : String) (p : Program) (R : Room) (s : State) (m : MethodId) (args : Array Value) (meth : Method) (c : Code) : Prop :=
  p.tables.exec = Jvm.exec ∧ c.code = S.2.1 ∧ meth.sig.returnType = S.2.2.2.1 ∧ c.maxLocals = S.2.2.1 ∧ s.vm.findClass own = some m.cls ∧ (∀ w ∈ xm_tb, w.before args s = true) ∧ meth.locks = false ∧ (S.1.name = "<init>" → meth.name = "<init>") ∧ K + 1 ≤ R.frames ∧ 64 * (K + 1) ≤ R.locals ∧ S.2.2.2.2.1 ≤ R.cells ∧ S.2.2.2.2.2 ≤ R.slots
/-- pc is a return with this value -/
def xm_rt (S : xm_S) (pc : Nat) (v : Option Value) : Prop :=
  (∃ x, v = some (.int x) ∧ decode S.2.1 pc = .ok (.ireturn, 1) ∧ (S.2.2.2.1 = some .int ∨ (S.2.2.2.1 = some .boolean ∧ (x = 0 ∨ x = 1)))) ∨
  (∃ x, v = some (.long x) ∧ decode S.2.1 pc = .ok (.lreturn, 1) ∧ S.2.2.2.1 = some .long) ∨
  (v = none ∧ decode S.2.1 pc = .ok (.return_, 1) ∧ S.2.2.2.1 = none) ∨
  (∃ (n : String), S.2.2.2.1 = some (.object n) ∧ decode S.2.1 pc = .ok (.areturn, 1) ∧ (v = some .null ∨ ∃ a, v = some (.ref a)))
def xm_Fin (S : xm_S) (p : Program) (l : Launch) (e : Env) (R : Room) (s : State) (m : MethodId) (args : Array Value) (below : List Frame) (meth : Method) (c : Code) (Q : State → Prop) (D : va_G) (cA : Nat → ClassId) (r : Nat → Nat) (A : Nat → Prop) (uc n : Nat) (P : Option Value → xm_H → Prop) : Prop :=
  ∀ (pc' : Nat) (arr' : Array Slot) (H' : Heap) (locs' : List Loc) (uc' us' : Nat) (r' : Nat → Nat) (v : Option Value) (h' : xm_H), P v h' → xm_rt S pc' v → xm_ag r r' n h'.length → n ≤ h'.length → h'.length + uc ≤ n + uc' → uc' ≤ S.2.2.2.2.1 → us' ≤ S.2.2.2.2.2 → va_P D vwCl (xm_w cA r' h') H' → va_D A (xm_w cA r' h') → va_S A s.heap H' locs' → W p l e R s m args below meth c H' locs' uc' us' Q (F0 m pc' arr' (v.toList.map (xm_v r')))
/-- from row k of the method's table, with these locals, stack and cells, the method comes to its end with P -/
def xm_At (O : xm_O) (K : Nat) (S : xm_S) (own : String) (C : List xm_I) (k uc us : Nat) (ls : List (Option Value)) (st : List Value) (h : xm_H) (P : Option Value → xm_H → Prop) : Prop :=
  ∀ (p : Program) (l : Launch) (e : Env) (R : Room) (s : State) (m : MethodId) (args : Array Value) (below : List Frame) (meth : Method) (c : Code) (H : Heap) (locs : List Loc) (Q : State → Prop) (D : va_G) (cA : Nat → ClassId) (r : Nat → Nat) (A : Nat → Prop) (arr : Array Slot),
    xm_En K S own p R s m args meth c → va_K D vwCl (xm_ty cA) s → (∀ q, s.heap.size ≤ q → A q) → xm_out O r A s s.heap → va_P D vwCl (xm_w cA r h) H → va_D A (xm_w cA r h) → va_S A s.heap H locs → xm_lh r arr S.2.2.1 ls →
    xm_Fin S p l e R s m args below meth c Q D cA r A uc h.length P → uc ≤ S.2.2.2.2.1 → us ≤ S.2.2.2.2.2 →
    W p l e R s m args below meth c H locs uc us Q (F0 m (xm_pc C k) arr (st.map (xm_v r)))
theorem xm_A1 {cA : Nat → ClassId} {r : Nat → Nat} {h : xm_H} {A : Nat → Prop} {s : State} {H : Heap} {locs : List Loc} (hA : ∀ q, s.heap.size ≤ q → A q) (hD : va_D A (xm_w cA r h)) (hS : va_S A s.heap H locs) : ∀ q, va_A (xm_w cA r h) H.size q → A q := by
  intro q hq
  rcases hq with ⟨k, e, hk⟩ | hq
  · exact hD.2 k _ hk
  · exact hA q (Nat.le_trans hS.1 hq)
theorem xm_out_to {O : xm_O} (hO : ∀ j q, xm_st j = some q → O j = some q) {r : Nat → Nat} {A A1 : Nat → Prop} {s U : State} {H : Heap} {locs : List Loc} (ho : xm_out O r A s s.heap) (hS : va_S A s.heap H locs) (hW : s.WarmedH U.vm) (hU : U.heap = H) (hA : ∀ q, A1 q → A q) : xm_out xm_st r A1 U U.heap := by
  obtain ⟨h1, h2, h3, h4⟩ := ho
  rw [hU]
  refine ⟨fun j L f hj => ?_, fun j n hj => ?_, fun w hw hn => ?_, va_AO.moved hW.alike h4⟩
  · obtain ⟨a1, a2, a3⟩ := h1 j L f (hO j _ hj)
    exact ⟨(a1.kept (hS.2.1 _ a2 a3)).moved hW.alike, Nat.lt_of_lt_of_le a2 hS.1, fun q => a3 (hA _ q)⟩
  · exact (((h2 j n hj).kept (fun a ha hn => hS.2.1 a ha hn)).moved hW.alike).narrow hA
  · have hz := h3 w hw hn
    cases w <;> first | exact va_Nw.warmF hW hz | exact va_Nw.warmM hW hz | (cases hn)
theorem xm_blind (D : va_G) (cA : Nat → ClassId) (r : Nat → Nat) (sz : Nat) (h : xm_H) (av : List Value) : FrameBlind (va_Pc av (xm_Pre D cA r sz h)) := by
  intro a U g mk q
  obtain ⟨q0, q1, qP, qK, qD, o1, o2, o3, o4⟩ := q
  refine ⟨q0, q1, qP, va_K.moved (u := U) (U := U.calling g mk a) (Vm.Alike.refl U.vm) qK, qD, fun j L f hj => ?_, fun j n hj => ?_, fun w hw hn => ?_, ?_⟩
  · obtain ⟨a1, a2, a3⟩ := o1 j L f hj
    exact ⟨va_X.moved (u := U) (U := U.calling g mk a) (Vm.Alike.refl U.vm) a1, a2, a3⟩
  · exact va_Z.moved (u := U) (U := U.calling g mk a) (Vm.Alike.refl U.vm) (o2 j n hj)
  · exact va_Nw.same (by cases w <;> first | rfl | (cases hn)) (show U.vm = (U.calling g mk a).vm from rfl) (o3 w hw hn)
  · exact va_AO.moved (u := U) (U := U.calling g mk a) (Vm.Alike.refl U.vm) o4
theorem xm_pre_of {O : xm_O} (hO : ∀ j q, xm_st j = some q → O j = some q) {D : va_G} {cA : Nat → ClassId} {r : Nat → Nat} {h : xm_H} {A : Nat → Prop} {s : State} {H : Heap} {locs : List Loc} (hK : va_K D vwCl (xm_ty cA) s) (hA : ∀ q, s.heap.size ≤ q → A q) (ho : xm_out O r A s s.heap) (hP : va_P D vwCl (xm_w cA r h) H) (hD : va_D A (xm_w cA r h)) (hS : va_S A s.heap H locs) (av : List Value) (U : State) (hU : U.heap = H) (hW : s.WarmedH U.vm) : va_Pc av (xm_Pre D cA r H.size h) av.toArray U :=
  ⟨rfl, by rw [hU], by rw [hU]; exact hP, hK.moved hW.alike, hD.weaken (fun _ _ _ _ => trivial), xm_out_to hO ho hS hW hU (xm_A1 hA hD hS)⟩
section XMC
variable {p : Program} {l : Launch} {e : Env} {R : Room} {s : State} {m : MethodId} {args : Array Value} {below : List Frame} {meth : Method} {c : Code} {H : Heap} {locs : List Loc} {cells slots : Nat} {Q : State → Prop}
variable {pc : Nat} {ls : Array Slot} {rest st0 : List Value} {A0 A1 : Nat → Prop} {H0 : Heap} {mc ms : Nat} {free : Addr → Prop} {Qa : State → Outcome → State → Prop}
theorem xm_callGo (hr : va_Run p l e R s m args below meth c H locs cells slots mc ms (F0 m pc ls st0) rest Qa free) (hS : va_S A0 H0 H locs) (hA : ∀ q, q < H.size → A1 q → A0 q) (hf : ∀ q, free q → A0 q) (hQ : ∀ st oc t, Qa st oc t → va_F A1 st t)
    (kk : ∀ (v : Option Value) (st₀ t : State) (H1 : Heap) (locs1 : List Loc), st₀.heap = H → Qa st₀ (.returned v) t → t.heap = H1 → va_S A0 H0 H1 locs1 → W p l e R s m args below meth c H1 locs1 (cells + mc) (slots + ms) Q (F0 m (pc + 3) ls (v.toList ++ rest))) : W p l e R s m args below meth c H locs cells slots Q (F0 m pc ls st0) := by
  intro T hT X
  obtain ⟨v, st₀, t, T', L, h0, X', hL, e1, e2, hq, st⟩ := hr T hT X
  have hq0 := hq
  obtain ⟨hz, hk⟩ := hQ _ _ _ hq
  rw [h0] at hz hk
  obtain ⟨t2, a1, b1⟩ := kk v st₀ t T'.heap (locs ++ L) h0 hq0 e1.symm
    ⟨Nat.le_trans hS.1 (by rw [e1]; exact hz), fun q h1 h2 => by rw [e1, hk q (Nat.lt_of_lt_of_le h1 hS.1) (fun z => h2 (hA q (Nat.lt_of_lt_of_le h1 hS.1) z))]; exact hS.2.1 q h1 h2, fun q hq => by
      rcases List.mem_append.mp hq with h | h
      · exact hS.2.2 q h
      · exact hf _ (hL q h)⟩ T' rfl X'
  exact ⟨t2, st t2 a1, b1⟩
end XMC
end
section
theorem xm_vv_ag {n : Nat} {r r' : Nat → Nat} (ha : ∀ i, i < n ∨ 1000 ≤ i → r' i = r i) {v : Value} (hv : xm_vv n v = true) : xm_v r' v = xm_v r v := by
  cases v with
  | ref k =>
    simp only [xm_vv, Bool.or_eq_true, decide_eq_true_eq] at hv
    show Value.ref (r' k) = Value.ref (r k)
    rw [ha k hv]
  | _ => rfl
theorem xm_ve_ag {cA : Nat → ClassId} {n : Nat} {r r' : Nat → Nat} (ha : ∀ i, i < n ∨ 1000 ≤ i → r' i = r i) {e : xm_E} (hv : xm_ve n e = true) : xm_e cA r' e = xm_e cA r e := by
  rcases e with ⟨t, m, f | f | f | f | f⟩ | ⟨ci, fs⟩
  · rfl
  · rfl
  · rfl
  · rfl
  · have hv' : (List.range m).all (fun j => match f j with
      | some k => decide (k < n)
      | none => true) = true := hv
    have h1 : (fun j => if j < m then (f j).map r' else none) = (fun j => if j < m then (f j).map r else none) := by
      funext j
      by_cases hj : j < m
      · rw [if_pos hj, if_pos hj]
        have h2 := List.all_eq_true.mp hv' j (List.mem_range.mpr hj)
        cases hf : f j with
        | none => rfl
        | some k =>
          rw [hf] at h2
          have hk : k < n := by simpa using h2
          show some (r' k) = some (r k)
          rw [ha k (Or.inl hk)]
      · rw [if_neg hj, if_neg hj]
    show Sum.inl (cA t, m, _) = Sum.inl (cA t, m, _)
    rw [h1]
  · have hv' : fs.all (xm_vv n) = true := hv
    show Sum.inr (ci, fs.map (xm_v r')) = Sum.inr (ci, fs.map (xm_v r))
    rw [List.map_congr_left (fun v hm => xm_vv_ag ha (List.all_eq_true.mp hv' v hm))]
theorem xm_w_ag {cA : Nat → ClassId} {r r' : Nat → Nat} {h : xm_H} (ha : ∀ i, i < h.length ∨ 1000 ≤ i → r' i = r i) (hv : h.all (xm_ve h.length) = true) : xm_w cA r' h = xm_w cA r h := by
  apply List.ext_getElem?
  intro i
  rw [xm_w_get, xm_w_get]
  cases he : h[i]? with
  | none => rfl
  | some e =>
    show some (r' i, xm_e cA r' e) = some (r i, xm_e cA r e)
    rw [ha i (Or.inl (List.getElem?_eq_some_iff.mp he).1), xm_ve_ag ha (List.all_eq_true.mp hv e (List.mem_of_getElem? he))]
theorem xm_lh_ag {r r' : Nat → Nat} {n : Nat} {arr : Array Slot} {nL : Nat} {ls : List (Option Value)} (ha : ∀ i, i < n ∨ 1000 ≤ i → r' i = r i) (hv : ls.all (xm_vo n) = true) (h : xm_lh r arr nL ls) : xm_lh r' arr nL ls := by
  refine ⟨h.1, h.2.1, h.2.2.1, fun i v hi => ?_⟩
  have h1 : xm_vv n v = true := List.all_eq_true.mp hv (some v) (List.mem_of_getElem? hi)
  rw [xm_vv_ag ha h1]
  exact h.2.2.2 i v hi
theorem xm_st_ag {r r' : Nat → Nat} {n : Nat} {st : List Value} (ha : ∀ i, i < n ∨ 1000 ≤ i → r' i = r i) (hv : st.all (xm_vv n) = true) : st.map (xm_v r') = st.map (xm_v r) := List.map_congr_left (fun v hm => xm_vv_ag ha (List.all_eq_true.mp hv v hm))
theorem xm_out_ag {O : xm_O} {r r' : Nat → Nat} {n : Nat} {A : Nat → Prop} {U : State} {H : Heap} (ha : ∀ i, i < n ∨ 1000 ≤ i → r' i = r i) (h : xm_out O r A U H) : xm_out O r' A U H := by
  have h1 : ∀ j, r' (1000 + j) = r (1000 + j) := fun j => ha _ (Or.inr (by omega))
  exact ⟨fun j L f hj => by rw [h1]; exact h.1 j L f hj, fun j n hj => by rw [h1]; exact h.2.1 j n hj, h.2.2.1, h.2.2.2⟩
theorem xm_fin_to {S : xm_S} {p : Program} {l : Launch} {e : Env} {R : Room} {s : State} {m : MethodId} {args : Array Value} {below : List Frame} {meth : Method} {c : Code} {Q : State → Prop} {D : va_G} {cA : Nat → ClassId} {r r1 : Nat → Nat} {A : Nat → Prop} {uc uc1 n n1 : Nat} {P : Option Value → xm_H → Prop} (fin : xm_Fin S p l e R s m args below meth c Q D cA r A uc n P) (ha : xm_ag r r1 n n1) (hn : n ≤ n1) (hu : n1 + uc ≤ n + uc1) : xm_Fin S p l e R s m args below meth c Q D cA r1 A uc1 n1 P := by
  intro pc' arr' H' locs' uc' us' r' v h' hp hrt hag hle hcu h1 h2 h3 h4 h5
  refine fin pc' arr' H' locs' uc' us' r' v h' hp hrt (fun i hi => ?_) (by omega) (by omega) h1 h2 h3 h4 h5
  rw [hag i (by omega), ha i (by omega)]
theorem xm_dv (r : Nat → Nat) (ty : FieldType) : xm_v r (defaultValue ty) = defaultValue ty := by cases ty <;> rfl
theorem xm_df_id (r : Nat → Nat) (a : Nat) : (xm_df a).map (xm_v r) = xm_df a := by
  unfold xm_df
  split <;> first | rfl | (rw [List.map_map]; exact List.map_congr_left (fun j _ => xm_dv r _))
theorem xm_take {st : List Value} {m : Nat} (hm : m ≤ st.length) : st = (st.take m).reverse.reverse ++ st.drop m := by rw [List.reverse_reverse, List.take_append_drop]
theorem xm_newid {U : State} {cA cB : ClassId} {ty : FieldType} (hty : ∀ C, ty ≠ .object C) (h1 : va_RA U cA ty) (h2 : va_RA U cB ty) : cA = cB := by
  cases ty <;> first | exact absurd rfl (hty _) | exact Option.some.inj (Eq.trans (Eq.symm h1) h2)
theorem xm_newidO {U : State} {cA cB : ClassId} {C : String} (h1 : va_RA U cA (.object C)) (h2 : va_RA U cB (.object C)) : cA = cB := by
  obtain ⟨_, _, _, _, _, a⟩ := h1
  obtain ⟨_, _, _, _, _, b⟩ := h2
  exact Option.some.inj (a.symm.trans b)
theorem xm_cut_at {cA : Nat → ClassId} {r : Nat → Nat} {h : xm_H} {i t : Nat} {x : vp_A} (he : h[i]? = some (.inl (t, x))) : (xm_w cA r h)[i]? = some (r i, .inl (cA t, xm_a r x)) := xm_w_at he
theorem xm_obj_at {cA : Nat → ClassId} {r : Nat → Nat} {h : xm_H} {i ci : Nat} {fs : List Value} (he : h[i]? = some (.inr (ci, fs))) : (xm_w cA r h)[i]? = some (r i, .inr (ci, fs.map (xm_v r))) := xm_w_at he
theorem xm_len_set (h : xm_H) (i : Nat) (e : xm_E) : (h.set i e).length = h.length := List.length_set ..
theorem xm_fl_e {a b : Nat} {f : String × String × String × Bool} (h : xm_fl a b = some f) : ∃ q : vw_C, vwCl[a]? = some q ∧ b < q.2.2 ∧ f = q.2.1 b := by
  unfold xm_fl at h
  split at h
  · next C T N he =>
    split at h
    · next hb => cases h; exact ⟨_, he, hb, rfl⟩
    · cases h
  · cases h
end
section
theorem xm_if {c : Prop} [Decidable c] {X : Prop} (H : if c then X else False) : c ∧ X := by
  by_cases hc : c
  · rw [if_pos hc] at H; exact ⟨hc, H⟩
  · rw [if_neg hc] at H; exact H.elim
theorem xm_ift {c : Prop} [Decidable c] {X Y : Prop} (H : if c then X else Y) (hc : c) : X := by rw [if_pos hc] at H; exact H
theorem xm_iff {c : Prop} [Decidable c] {X Y : Prop} (H : if c then X else Y) (hc : ¬ c) : Y := by rw [if_neg hc] at H; exact H
theorem xm_gf_e {h : xm_H} {o a b : Nat} {v : Int32} {f : Value → Prop} (H : xm_gf h o a b v f) : ∃ y, xm_fld h o a b = some y ∧ f y := by
  unfold xm_gf at H
  split at H
  · obtain ⟨x, h1, h2⟩ := H; exact ⟨_, h1, h2⟩
  · obtain ⟨x, h1, h2⟩ := H; exact ⟨_, h1, h2⟩
theorem xm_sw_tab {x : Int32} {d : Nat} {f : Nat → Prop} : ∀ (sw : List (Int32 × Nat)), xm_sw x sw d f → (∃ (j t : Nat), sw[j]? = some (x, t) ∧ f t) ∨ ((∀ q ∈ sw, q.1 ≠ x) ∧ f d)
  | [], H => Or.inr ⟨fun _ h => absurd h List.not_mem_nil, H⟩
  | q :: sw, H => by
    by_cases hq : x = q.1
    · exact Or.inl ⟨0, q.2, by rw [hq]; rfl, xm_ift H hq⟩
    · rcases xm_sw_tab sw (xm_iff H hq) with ⟨j, t, h1, h2⟩ | ⟨h1, h2⟩
      · exact Or.inl ⟨j + 1, t, h1, h2⟩
      · refine Or.inr ⟨fun y hy => ?_, h2⟩
        rcases List.mem_cons.mp hy with rfl | hy
        · exact fun e => hq e.symm
        · exact h1 y hy
theorem xm_sw_look {C : List xm_I} {x : Int32} {pc d : Nat} {dflt : Int} {f : Nat → Prop} (hd : (pc : Int) + dflt = (xm_pc C d : Int)) : ∀ (sw : List (Int32 × Nat)) (ps : List (Int × Int)), sw.map (fun q => (q.1.toInt, (xm_pc C q.2 : Int))) = ps.map (fun q => (q.1, (pc : Int) + q.2)) → xm_sw x sw d f → ∃ t, (pc : Int) + Op.lookupswitch.offset ps dflt x.toInt = (xm_pc C t : Int) ∧ f t
  | [], [], _, H => ⟨d, hd, H⟩
  | [], _ :: _, h, _ => by cases h
  | _ :: _, [], h, _ => by cases h
  | q :: sw, p :: ps, h, H => by
    simp only [List.map_cons, List.cons.injEq, Prod.mk.injEq] at h
    obtain ⟨⟨h1, h2⟩, h3⟩ := h
    show ∃ t, (pc : Int) + (if p.1 = x.toInt then p.2 else Op.lookupswitch.offset ps dflt x.toInt) = (xm_pc C t : Int) ∧ f t
    by_cases hq : x = q.1
    · refine ⟨q.2, ?_, xm_ift H hq⟩
      rw [if_pos (by rw [← h1, hq]), h2]
    · rw [if_neg (fun e => hq (Int32.toInt_inj.mp (by rw [h1, e])))]
      exact xm_sw_look hd sw ps h3 (xm_iff H hq)
theorem xm_nfw : nativeFrameWords "java/lang/System" "arraycopy" 5 ≤ 40 := by decide +kernel
theorem xm_nb {x : Int32} (h : x = 0 ∨ x = 1) : narrow .boolean (.int x) = .int x := by
  rcases h with rfl | rfl <;> decide
theorem xm_fb {x : Int32} (h : x = 0 ∨ x = 1) : fits .boolean (.int x) = true := by
  rcases h with rfl | rfl <;> decide
theorem xm_nr {ty : FieldType} (h : xm_ptO (some ty) = true) (x : Nat) : narrow ty (.ref x) = .ref x ∧ fits ty (.ref x) = true := by
  cases ty <;> first | (cases h; done) | exact ⟨rfl, rfl⟩
theorem xm_goodCall {T : xm_S} (h : xm_cw T ∈ xm_tb) : GoodIn xm_tb (xm_ws T) := by
  intro w hw
  rcases List.mem_cons.mp hw with rfl | hw
  · exact ⟨h, good_of_word (List.mem_filter.mp h).2⟩
  · exact xm_good_tb w hw
theorem xm_md_e {T : xm_S} {n : Nat} (h : xm_md T n = true) : T.1.cls ≠ "java/lang/invoke/MethodHandle" ∧ T.1.cls ≠ "java/lang/invoke/VarHandle" ∧ (parseMethodDescriptor T.1.desc).map (fun d => d.parameters.length) = some n := by
  unfold xm_md at h
  simp only [Bool.and_eq_true, decide_eq_true_eq] at h
  exact ⟨h.1.1, h.1.2, h.2⟩
/-- what a call brings back -/
theorem xm_af_e {rt : Option FieldType} {rest : List Value} {g : List Value → xm_H → Prop} {v : Option Value} {h : xm_H} (H : xm_af rt rest g v h) : g (v.toList ++ rest) h := by
  unfold xm_af at H
  split at H
  · obtain ⟨rfl, H⟩ := H; exact H
  · obtain ⟨x, rfl, H⟩ := H; exact H
  · obtain ⟨x, rfl, H⟩ := H; exact H
  · obtain ⟨x, rfl, H⟩ := H; exact H
  · rcases H with ⟨rfl, H⟩ | ⟨x, rfl, H⟩
    · exact H
    · exact H
  · exact H.elim
set_option maxHeartbeats 4000000 in
set_option maxRecDepth 100000 in
theorem xm_step {O : xm_O} (hO : ∀ j q, xm_st j = some q → O j = some q) {K : Nat} {S : xm_S} {own : String} {C : List xm_I} (hok : xm_ok S own C = true) {k pc : Nat} {i : Instr} {len : Nat} {b0 : Option (List Nat)} {x : xm_X} (he : C[k]? = some (pc, i, len, b0, x)) {uc us : Nat} {ls : List (Option Value)} {st : List Value} {h : xm_H} {P : Option Value → xm_H → Prop} {g : xm_K} (H0 : xm_wp O K S i x k uc us ls st h P g) (hg : ∀ k' uc' us' ls' st' h', g k' uc' us' ls' st' h' → xm_At O K S own C k' uc' us' ls' st' h' P) : xm_At O K S own C k uc us ls st h P := by
  have hck := xm_ok_e hok he
  have hpc : xm_pc C k = pc := by unfold xm_pc; rw [he]
  obtain ⟨a, b, pl, v, w, sw, T⟩ := x
  have hck : (((decide (decode S.2.1 pc = .ok (i, len)) && decide (xm_il i len = len)) && (xm_end i || (match C[k + 1]? with
    | some q => decide (q.1 = pc + len)
    | none => false))) && xm_lk S own C pc i (a, b, pl, v, w, sw, T)) = true := hck
  rw [Bool.and_eq_true, Bool.and_eq_true, Bool.and_eq_true, decide_eq_true_eq, decide_eq_true_eq] at hck
  obtain ⟨⟨⟨hdec, hlen⟩, hnx⟩, hlk⟩ := hck
  intro p l e R s m args below meth c H locs Q D cA r A arr hE hK hA ho hP hD hS hl fin huc hus
  have hE0 := hE
  obtain ⟨hx, hb, hr, hml, hown, hts, hlocks, hin, hfr, hlo, hcl, hsl⟩ := hE
  rw [hpc]
  have hnp : xm_end i = false → xm_pc C (k + 1) = pc + len := by
    intro h0
    rw [h0, Bool.false_or] at hnx
    unfold xm_pc
    split at hnx
    · next q hq => rw [hq]; simpa using hnx
    · cases hnx
  have go : ∀ (k' pc' : Nat) (ls' : List (Option Value)) (st' : List Value) (h' : xm_H) (H' : Heap) (locs' : List Loc) (arr' : Array Slot), g k' uc us ls' st' h' → xm_pc C k' = pc' → h'.length = h.length → va_P D vwCl (xm_w cA r h') H' → va_D A (xm_w cA r h') → va_S A s.heap H' locs' → xm_lh r arr' S.2.2.1 ls' → W p l e R s m args below meth c H' locs' uc us Q (F0 m pc' arr' (st'.map (xm_v r))) := by
    intro k' pc' ls' st' h' H' locs' arr' hg' hpc' hlen' hP' hD' hS' hl'
    subst hpc'
    refine hg _ _ _ _ _ _ hg' p l e R s m args below meth c H' locs' Q D cA r A arr' hE0 hK hA ho hP' hD' hS' hl' ?_ huc hus
    rw [hlen']
    exact fin
  have nx : xm_end i = false → ∀ (ls' : List (Option Value)) (st' : List Value) (arr' : Array Slot), g (k + 1) uc us ls' st' h → xm_lh r arr' S.2.2.1 ls' → W p l e R s m args below meth c H locs uc us Q (F0 m (pc + len) arr' (st'.map (xm_v r))) :=
    fun h0 ls' st' arr' hg' hl' => go (k + 1) (pc + len) ls' st' h H locs arr' hg' (hnp h0) rfl hP hD hS hl'
  have nh : xm_end i = false → ∀ (st' : List Value) (a1 : Nat) (e1 : xm_E) (H' : Heap) (locs' : List Loc), g (k + 1) uc us ls st' (h.set a1 e1) → va_P D vwCl ((xm_w cA r h).set a1 (r a1, xm_e cA r e1)) H' → va_D A ((xm_w cA r h).set a1 (r a1, xm_e cA r e1)) → va_S A s.heap H' locs' → W p l e R s m args below meth c H' locs' uc us Q (F0 m (pc + len) arr (st'.map (xm_v r))) := by
    intro h0 st' a1 e1 H' locs' hg' hP' hD' hS'
    rw [← xm_w_set] at hP' hD'
    exact go (k + 1) (pc + len) ls st' _ H' locs' arr hg' (hnp h0) (xm_len_set _ _ _) hP' hD' hS' hl
  have al : xm_end i = false → ∀ (q : Nat) (ls' : List (Option Value)) (st' : List Value) (e1 : xm_E) (us1 : Nat) (H' : Heap), uc + 1 ≤ S.2.2.2.2.1 → us1 ≤ S.2.2.2.2.2 → xm_va h ls st' 1 → (∀ r', xm_e cA r' e1 = xm_e cA r e1) → g (k + 1) (uc + 1) us1 ls (.ref h.length :: st') (h ++ [e1]) → va_P D vwCl (xm_w cA r h ++ [(q, xm_e cA r e1)]) H' → va_D A (xm_w cA r h ++ [(q, xm_e cA r e1)]) → va_S A s.heap H' locs → W p l e R s m args below meth c H' locs (uc + 1) us1 Q (F0 m (pc + len) arr (.ref q :: st'.map (xm_v r))) := by
    intro h0 q ls' st' e1 us1 H' hu1 hu2 hva hee hg' hP' hD' hS'
    obtain ⟨v1, v2, v3, v4⟩ := hva
    have ha : ∀ i, i < h.length ∨ 1000 ≤ i → (fun i => if i = h.length then q else r i) i = r i := by
      intro i hi
      exact if_neg (by omega)
    generalize hr' : (fun i => if i = h.length then q else r i) = r' at ha
    have hrq : r' h.length = q := by rw [← hr']; exact if_pos rfl
    have hw : xm_w cA r' (h ++ [e1]) = xm_w cA r h ++ [(q, xm_e cA r e1)] := by rw [xm_w_app, xm_w_ag ha v1, hrq, hee]
    have hst : (.ref q :: st'.map (xm_v r)) = (Value.ref h.length :: st').map (xm_v r') := by
      show _ = Value.ref (r' h.length) :: st'.map (xm_v r')
      rw [hrq, xm_st_ag ha v3]
    rw [hst, ← hnp h0]
    refine hg _ _ _ _ _ _ hg' p l e R s m args below meth c H' locs Q D cA r' A arr hE0 hK hA (xm_out_ag ha ho) (by rw [hw]; exact hP') (by rw [hw]; exact hD') hS' (xm_lh_ag ha v2 hl) ?_ hu1 hu2
    rw [show (h ++ [e1]).length = h.length + 1 by simp]
    exact xm_fin_to fin (fun i hi => by rw [← hr']; exact if_neg (by omega)) (by omega) (by omega)
  have cll : ∀ (m0 ro : Nat) (av rest : List Value), xm_end i = false → len = 3 → st = av.reverse ++ rest → xm_cl st m0 (fun _ _ => True) → av = (st.take m0).reverse → rest = st.drop m0 →
      (if T.2.2.2.2.1 = 0 then (if T.2.2.2.2.2 = 0 ∧ T.2.2.1 ≤ 45 then xm_Call K T ro av h (xm_af T.2.2.2.1 rest (fun st1 h1 => g (k + 1) uc us ls st1 h1)) else False)
        else (uc + T.2.2.2.2.1 ≤ S.2.2.2.2.1 ∧ us + T.2.2.2.2.2 ≤ S.2.2.2.2.2 ∧ T.2.2.1 ≤ 45) ∧ xm_va h ls rest T.2.2.2.2.1 ∧ xm_Call K T ro av h (xm_af T.2.2.2.1 rest (fun st1 h1 => g (k + 1) (uc + T.2.2.2.2.1) (us + T.2.2.2.2.2) ls st1 h1))) →
      (∀ (k0 : Nat) (P0 : Option Value → xm_H → Prop), k0 < K → T.2.2.1 ≤ 45 → uc + T.2.2.2.2.1 ≤ S.2.2.2.2.1 → us + T.2.2.2.2.2 ≤ S.2.2.2.2.2 → xm_Cw k0 T av h P0 → (ro = 99 ∨ ∃ (b : Nat) (fs : List Value), av.head? = some (.ref b) ∧ h[b]? = some (.inr (ro, fs))) → va_Run p l e R s m args below meth c H locs uc us T.2.2.2.2.1 T.2.2.2.2.2 (F0 m pc arr (st.map (xm_v r))) (rest.map (xm_v r)) (fun st oc t => xm_Post D cA r H.size T.2.2.2.2.1 h P0 st oc t) (va_A (xm_w cA r h) H.size)) →
      W p l e R s m args below meth c H locs uc us Q (F0 m pc arr (st.map (xm_v r))) := by
    intro m0 ro av rest h0 hl3 hst _ _ _ H1 hrun
    have hA1 := xm_A1 (cA := cA) (r := r) hA hD hS
    by_cases hm0 : T.2.2.2.2.1 = 0
    · obtain ⟨⟨hms0, b3⟩, H2⟩ := xm_if (xm_ift H1 hm0)
      have b1 : uc + T.2.2.2.2.1 ≤ S.2.2.2.2.1 := by omega
      have b2 : us + T.2.2.2.2.2 ≤ S.2.2.2.2.2 := by omega
      obtain ⟨hro, k0, hk0, hcw⟩ := H2
      refine xm_callGo (A0 := A) (A1 := va_A (xm_w cA r h) H.size) (hrun k0 _ hk0 b3 b1 b2 hcw hro) hS (fun q _ => hA1 q) hA1 (fun _ _ _ h => h.2) ?_
      intro v0 st0 t H1' locs1 hs0 hq ht hS1
      obtain ⟨⟨r', v1, h1, e1, e2, e3, e4, e5, e6, e7⟩, -⟩ := hq
      have hv0 : v0 = v1.map (xm_v r') := by injection e1
      rw [hm0] at e5
      have hrr : r' = r := funext (fun i => e3 i (by omega))
      subst hrr
      have e2' := xm_af_e e2
      rw [hv0, hm0, hms0]
      have hstk : (v1.map (xm_v r')).toList ++ rest.map (xm_v r') = (v1.toList ++ rest).map (xm_v r') := by cases v1 <;> simp
      rw [hstk, ← hl3, ← hnp h0]
      refine hg _ _ _ _ _ _ e2' p l e R s m args below meth c H1' locs1 Q D cA r' A arr hE0 hK hA ho (by rw [← ht]; exact e6) (e7.weaken (fun _ _ _ z => hA1 _ z)) hS1 hl ?_ huc hus
      rw [show h1.length = h.length by omega]
      exact fin
    · have H2 := xm_iff H1 hm0
      obtain ⟨⟨b1, b2, b3⟩, ⟨v1', v2', v3', v4'⟩, hro, k0, hk0, hcw⟩ := H2
      refine xm_callGo (A0 := A) (A1 := va_A (xm_w cA r h) H.size) (hrun k0 _ hk0 b3 b1 b2 hcw hro) hS (fun q _ => hA1 q) hA1 (fun _ _ _ h => h.2) ?_
      intro v0 st0 t H1' locs1 hs0 hq ht hS1
      obtain ⟨⟨r', v1, h1, e1, e2, e3, e4, e5, e6, e7⟩, -⟩ := hq
      have hv0 : v0 = v1.map (xm_v r') := by injection e1
      have ha : ∀ i, i < h.length ∨ 1000 ≤ i → r' i = r i := fun i hi => e3 i (by omega)
      have e2' := xm_af_e e2
      rw [hv0]
      have hstk : (v1.map (xm_v r')).toList ++ rest.map (xm_v r) = (v1.toList ++ rest).map (xm_v r') := by rw [List.map_append, xm_st_ag ha v3']; cases v1 <;> simp
      rw [hstk, ← hl3, ← hnp h0]
      refine hg _ _ _ _ _ _ e2' p l e R s m args below meth c H1' locs1 Q D cA r' A arr hE0 hK hA (xm_out_ag ha ho) (by rw [← ht]; exact e6) (e7.weaken (fun _ _ _ z => hA1 _ z)) hS1 (xm_lh_ag ha v2' hl) ?_ b1 b2
      exact xm_fin_to fin e3 e4 (by omega)
  cases i
  case iconst n =>
    have h1 : 1 = len := hlen
    subst h1
    exact lv_iconst hx hb hdec (of_decide_eq_true hlk) (nx rfl ls (.int v :: st) arr H0 hl)
  case bipush n =>
    have h1 : 2 = len := hlen
    subst h1
    exact lv_bipush hx hb hdec (of_decide_eq_true hlk) (nx rfl ls (.int v :: st) arr H0 hl)
  case sipush n =>
    have h1 : 3 = len := hlen
    subst h1
    exact lv_sipush hx hb hdec (of_decide_eq_true hlk) (nx rfl ls (.int v :: st) arr H0 hl)
  case ldc j =>
    have h1 : 2 = len := hlen
    subst h1
    exact lv_ldc hx hb hown (hts _ (xm_w1_e (w := .constant own j v) hlk)) hdec (nx rfl ls (.int v :: st) arr H0 hl)
  case ldc_w j =>
    have h1 : 3 = len := hlen
    subst h1
    exact lv_ldcw hx hb hown (hts _ (xm_w1_e (w := .constant own j v) hlk)) hdec (nx rfl ls (.int v :: st) arr H0 hl)
  case ldc2_w j =>
    have h1 : 3 = len := hlen
    subst h1
    exact lv_ldc2 hx hb hown (hts _ (xm_w1_e (w := .constantLong own j w) hlk)) hdec (nx rfl ls (.long w :: st) arr H0 hl)
  case lconst n =>
    have h1 : 1 = len := hlen
    subst h1
    exact lv_lconst hx hb hdec (of_decide_eq_true hlk) (nx rfl ls (.long w :: st) arr H0 hl)
  case aconst_null =>
    have h1 : 1 = len := hlen
    subst h1
    exact lv_null hx hb hdec (nx rfl ls (.null :: st) arr H0 hl)
  case iload_n n =>
    have h1 : 1 = len := hlen
    subst h1
    obtain ⟨y, hy, HA1⟩ := xm_li_e H0
    exact lv_iload_n hx hb hdec rfl (hl.2.2.2 _ _ hy) (nx rfl ls (.int y :: st) arr HA1 hl)
  case iload n =>
    have h1 : 2 = len := hlen
    subst h1
    obtain ⟨y, hy, HA1⟩ := xm_li_e H0
    exact lv_iload hx hb hdec (hl.2.2.2 _ _ hy) (nx rfl ls (.int y :: st) arr HA1 hl)
  case lload_n n =>
    have h1 : 1 = len := hlen
    subst h1
    obtain ⟨y, hy, HA1⟩ := xm_ll_e H0
    exact lv_lload_n hx hb hdec rfl (hl.2.2.2 _ _ hy) (nx rfl ls (.long y :: st) arr HA1 hl)
  case lload n =>
    have h1 : 2 = len := hlen
    subst h1
    obtain ⟨y, hy, HA1⟩ := xm_ll_e H0
    exact lv_lload hx hb hdec (hl.2.2.2 _ _ hy) (nx rfl ls (.long y :: st) arr HA1 hl)
  case aload_n n =>
    have h1 : 1 = len := hlen
    subst h1
    simp only [xm_wp] at H0
    obtain ⟨y, hy, hk, HA1⟩ := xm_lr_e H0
    rcases hk with ⟨z, rfl⟩ | rfl
    · exact lv_aload_n hx hb hdec rfl (hl.2.2.2 _ _ hy) (nx rfl ls (.ref z :: st) arr HA1 hl)
    · exact lv_aload_nN hx hb hdec rfl (hl.2.2.2 _ _ hy) (nx rfl ls (.null :: st) arr HA1 hl)
  case aload n =>
    have h1 : 2 = len := hlen
    subst h1
    simp only [xm_wp] at H0
    obtain ⟨y, hy, hk, HA1⟩ := xm_lr_e H0
    rcases hk with ⟨z, rfl⟩ | rfl
    · exact lv_aload hx hb hdec (hl.2.2.2 _ _ hy) (nx rfl ls (.ref z :: st) arr HA1 hl)
    · exact lv_aloadN hx hb hdec (hl.2.2.2 _ _ hy) (nx rfl ls (.null :: st) arr HA1 hl)
  case istore_n n =>
    have h1 : 1 = len := hlen
    subst h1
    obtain ⟨y, q, rfl, HA1⟩ := xm_1i_e H0
    obtain ⟨hn, HA2⟩ := xm_if HA1
    exact lv_istore_n (x := y) (lv := xm_pr r ls) hx hb hdec rfl (xm_lh_has hl) (by rw [← hl.1]; exact hn) rfl (fun arr' hl' => nx rfl _ q arr' HA2 (xm_lh_st1 (v := .int y) hl.1 hl'))
  case istore n =>
    have h1 : 2 = len := hlen
    subst h1
    obtain ⟨y, q, rfl, HA1⟩ := xm_1i_e H0
    obtain ⟨hn, HA2⟩ := xm_if HA1
    exact lv_istore (x := y) (lv := xm_pr r ls) hx hb hdec (xm_lh_has hl) (by rw [← hl.1]; exact hn) rfl (fun arr' hl' => nx rfl _ q arr' HA2 (xm_lh_st1 (v := .int y) hl.1 hl'))
  case lstore n =>
    have h1 : 2 = len := hlen
    subst h1
    obtain ⟨y, q, rfl, HA1⟩ := xm_1l_e H0
    obtain ⟨hn, HA2⟩ := xm_if HA1
    exact lv_lstore (x := y) (lv := xm_pr r ls) hx hb hdec (xm_lh_has hl) (by rw [← hl.1]; exact hn) rfl (fun arr' hl' => nx rfl _ q arr' HA2 (xm_lh_st2 (v := .long y) hl.1 hl'))
  case astore_n n =>
    have h1 : 1 = len := hlen
    subst h1
    simp only [xm_wp] at H0
    obtain ⟨y, q, rfl, hk, HA1⟩ := xm_1q_e H0
    obtain ⟨hn, HA2⟩ := xm_if HA1
    rcases hk with ⟨z, rfl⟩ | rfl
    · exact lv_astore_n (x := r z) (lv := xm_pr r ls) hx hb hdec rfl (xm_lh_has hl) (by rw [← hl.1]; exact hn) rfl (fun arr' hl' => nx rfl _ q arr' HA2 (xm_lh_st1 (v := .ref z) hl.1 hl'))
    · exact lv_astore_nN (lv := xm_pr r ls) hx hb hdec rfl (xm_lh_has hl) (by rw [← hl.1]; exact hn) rfl (fun arr' hl' => nx rfl _ q arr' HA2 (xm_lh_st1 (v := .null) hl.1 hl'))
  case astore n =>
    have h1 : 2 = len := hlen
    subst h1
    simp only [xm_wp] at H0
    obtain ⟨y, q, rfl, hk, HA1⟩ := xm_1q_e H0
    obtain ⟨hn, HA2⟩ := xm_if HA1
    rcases hk with ⟨z, rfl⟩ | rfl
    · exact lv_astore (x := r z) (lv := xm_pr r ls) hx hb hdec (xm_lh_has hl) (by rw [← hl.1]; exact hn) rfl (fun arr' hl' => nx rfl _ q arr' HA2 (xm_lh_st1 (v := .ref z) hl.1 hl'))
    · exact lv_astoreN (lv := xm_pr r ls) hx hb hdec (xm_lh_has hl) (by rw [← hl.1]; exact hn) rfl (fun arr' hl' => nx rfl _ q arr' HA2 (xm_lh_st1 (v := .null) hl.1 hl'))
  case iinc n n2 =>
    have h1 : 3 = len := hlen
    subst h1
    obtain ⟨y, hy, HA1⟩ := xm_li_e H0
    have hv : Int32.ofInt n2 = v := of_decide_eq_true hlk
    obtain ⟨kk, hkk⟩ := List.mem_iff_getElem?.mp (xm_pr_mem.mpr ⟨.int y, hy, rfl⟩ : (n, xm_v r (.int y)) ∈ xm_pr r ls)
    exact lv_iinc (x := y) (v := y + v) (lv := xm_pr r ls) hx hb hdec (xm_lh_has hl) hkk (by rw [hv]) (by rw [← hl.1]; exact (List.getElem?_eq_some_iff.mp hy).1) rfl (fun arr' hl' => nx rfl _ st arr' HA1 (xm_lh_st1 (v := .int (y + v)) hl.1 hl'))
  case iadd =>
    have h1 : 1 = len := hlen
    subst h1
    obtain ⟨x, y, q, rfl, HA1⟩ := xm_2i_e H0
    exact lv_iadd hx hb hdec (nx rfl ls (_ :: q) arr HA1 hl)
  case isub =>
    have h1 : 1 = len := hlen
    subst h1
    obtain ⟨x, y, q, rfl, HA1⟩ := xm_2i_e H0
    exact lv_isub hx hb hdec (nx rfl ls (_ :: q) arr HA1 hl)
  case imul =>
    have h1 : 1 = len := hlen
    subst h1
    obtain ⟨x, y, q, rfl, HA1⟩ := xm_2i_e H0
    exact lv_imul hx hb hdec (nx rfl ls (_ :: q) arr HA1 hl)
  case iand =>
    have h1 : 1 = len := hlen
    subst h1
    obtain ⟨x, y, q, rfl, HA1⟩ := xm_2i_e H0
    exact lv_iand hx hb hdec (nx rfl ls (_ :: q) arr HA1 hl)
  case ior =>
    have h1 : 1 = len := hlen
    subst h1
    obtain ⟨x, y, q, rfl, HA1⟩ := xm_2i_e H0
    exact lv_ior hx hb hdec (nx rfl ls (_ :: q) arr HA1 hl)
  case ixor =>
    have h1 : 1 = len := hlen
    subst h1
    obtain ⟨x, y, q, rfl, HA1⟩ := xm_2i_e H0
    exact lv_ixor hx hb hdec (nx rfl ls (_ :: q) arr HA1 hl)
  case ishl =>
    have h1 : 1 = len := hlen
    subst h1
    obtain ⟨x, y, q, rfl, HA1⟩ := xm_2i_e H0
    exact lv_ishl hx hb hdec (nx rfl ls (_ :: q) arr HA1 hl)
  case ishr =>
    have h1 : 1 = len := hlen
    subst h1
    obtain ⟨x, y, q, rfl, HA1⟩ := xm_2i_e H0
    exact lv_ishr hx hb hdec (nx rfl ls (_ :: q) arr HA1 hl)
  case iushr =>
    have h1 : 1 = len := hlen
    subst h1
    obtain ⟨x, y, q, rfl, HA1⟩ := xm_2i_e H0
    exact lv_iushr hx hb hdec rfl (nx rfl ls (_ :: q) arr HA1 hl)
  case idiv =>
    have h1 : 1 = len := hlen
    subst h1
    obtain ⟨x, y, q, rfl, hne, HA1⟩ := xm_2i_e H0
    exact lv_idiv hx hb hdec hne (nx rfl ls (_ :: q) arr HA1 hl)
  case irem =>
    have h1 : 1 = len := hlen
    subst h1
    obtain ⟨x, y, q, rfl, hne, HA1⟩ := xm_2i_e H0
    exact lv_irem hx hb hdec hne (nx rfl ls (_ :: q) arr HA1 hl)
  case ineg =>
    have h1 : 1 = len := hlen
    subst h1
    obtain ⟨x, q, rfl, HA1⟩ := xm_1i_e H0
    exact lv_ineg hx hb hdec (nx rfl ls (_ :: q) arr HA1 hl)
  case ladd =>
    have h1 : 1 = len := hlen
    subst h1
    obtain ⟨x, y, q, rfl, HA1⟩ := xm_2l_e H0
    exact lv_ladd hx hb hdec (nx rfl ls (_ :: q) arr HA1 hl)
  case land =>
    have h1 : 1 = len := hlen
    subst h1
    obtain ⟨x, y, q, rfl, HA1⟩ := xm_2l_e H0
    exact lv_land hx hb hdec (nx rfl ls (_ :: q) arr HA1 hl)
  case lor =>
    have h1 : 1 = len := hlen
    subst h1
    obtain ⟨x, y, q, rfl, HA1⟩ := xm_2l_e H0
    exact lv_lor hx hb hdec (nx rfl ls (_ :: q) arr HA1 hl)
  case lshl =>
    have h1 : 1 = len := hlen
    subst h1
    obtain ⟨y, q, rfl, HA1⟩ := xm_1i_e H0
    obtain ⟨x, q, rfl, HA2⟩ := xm_1l_e HA1
    exact lv_lshl hx hb hdec rfl (nx rfl ls (_ :: q) arr HA2 hl)
  case lcmp =>
    have h1 : 1 = len := hlen
    subst h1
    obtain ⟨x, y, q, rfl, HA1⟩ := xm_2l_e H0
    exact W.lcmp hx hb hdec (nx rfl ls (_ :: q) arr HA1 hl)
  case i2l =>
    have h1 : 1 = len := hlen
    subst h1
    obtain ⟨x, q, rfl, HA1⟩ := xm_1i_e H0
    exact lv_i2l hx hb hdec rfl (nx rfl ls (_ :: q) arr HA1 hl)
  case l2i =>
    have h1 : 1 = len := hlen
    subst h1
    obtain ⟨x, q, rfl, HA1⟩ := xm_1l_e H0
    exact lv_l2i hx hb hdec rfl (nx rfl ls (_ :: q) arr HA1 hl)
  case i2b =>
    have h1 : 1 = len := hlen
    subst h1
    obtain ⟨x, q, rfl, HA1⟩ := xm_1i_e H0
    exact lv_i2b hx hb hdec rfl (nx rfl ls (_ :: q) arr HA1 hl)
  case i2s =>
    have h1 : 1 = len := hlen
    subst h1
    obtain ⟨x, q, rfl, HA1⟩ := xm_1i_e H0
    exact lv_i2s hx hb hdec rfl (nx rfl ls (_ :: q) arr HA1 hl)
  case dup =>
    have h1 : 1 = len := hlen
    subst h1
    simp only [xm_wp] at H0
    obtain ⟨y, q, rfl, hk, HA1⟩ := xm_1c_e H0
    exact lv_dup hx hb hdec (by rw [xm_v_cat]; rcases hk with ⟨z, rfl⟩ | ⟨z, rfl⟩ | rfl <;> rfl) (nx rfl ls (y :: y :: q) arr HA1 hl)
  case pop =>
    have h1 : 1 = len := hlen
    subst h1
    simp only [xm_wp] at H0
    obtain ⟨y, q, rfl, hk, HA1⟩ := xm_1c_e H0
    exact lv_pop hx hb hdec (by rw [xm_v_cat]; rcases hk with ⟨z, rfl⟩ | ⟨z, rfl⟩ | rfl <;> rfl) (nx rfl ls q arr HA1 hl)
  case dup2 =>
    have h1 : 1 = len := hlen
    subst h1
    simp only [xm_wp] at H0
    obtain ⟨y, q, rfl, hk, HA1⟩ := xm_1c_e H0
    obtain ⟨z, q, rfl, hk2, HA2⟩ := xm_1c_e HA1
    exact lv_dup2_11 hx hb hdec (by rw [xm_v_cat]; rcases hk with ⟨z, rfl⟩ | ⟨z, rfl⟩ | rfl <;> rfl) (by rw [xm_v_cat]; rcases hk2 with ⟨z, rfl⟩ | ⟨z, rfl⟩ | rfl <;> rfl) (nx rfl ls (y :: z :: y :: z :: q) arr HA2 hl)
  case ifCond cc off =>
    have h1 : 3 = len := hlen
    subst h1
    cases cc
    case eq =>
      obtain ⟨x, q, rfl, H0⟩ := xm_1i_e H0
      exact lv_if_eq hx hb hdec (of_decide_eq_true hlk) (fun hc => go a _ ls q h H locs arr (xm_ift H0 hc) rfl rfl hP hD hS hl) (fun hc => nx rfl ls q arr (xm_iff H0 hc) hl)
    case ne =>
      obtain ⟨x, q, rfl, H0⟩ := xm_1i_e H0
      exact lv_if_ne hx hb hdec (of_decide_eq_true hlk) (fun hc => go a _ ls q h H locs arr (xm_iff H0 hc) rfl rfl hP hD hS hl) (fun hc => nx rfl ls q arr (xm_ift H0 hc) hl)
    case lt =>
      obtain ⟨x, q, rfl, H0⟩ := xm_1i_e H0
      exact lv_if_lt hx hb hdec (of_decide_eq_true hlk) (fun hc => go a _ ls q h H locs arr (xm_ift H0 hc) rfl rfl hP hD hS hl) (fun hc => nx rfl ls q arr (xm_iff H0 hc) hl)
    case ge =>
      obtain ⟨x, q, rfl, H0⟩ := xm_1i_e H0
      exact lv_if_ge hx hb hdec (of_decide_eq_true hlk) (fun hc => go a _ ls q h H locs arr (xm_iff H0 (Int32.not_lt.mpr hc)) rfl rfl hP hD hS hl) (fun hc => nx rfl ls q arr (xm_ift H0 (Int32.not_le.mp hc)) hl)
    case gt =>
      obtain ⟨x, q, rfl, H0⟩ := xm_1i_e H0
      exact lv_if_gt hx hb hdec (of_decide_eq_true hlk) (fun hc => go a _ ls q h H locs arr (xm_ift H0 hc) rfl rfl hP hD hS hl) (fun hc => nx rfl ls q arr (xm_iff H0 hc) hl)
    case le =>
      obtain ⟨x, q, rfl, H0⟩ := xm_1i_e H0
      exact lv_if_le hx hb hdec (of_decide_eq_true hlk) (fun hc => go a _ ls q h H locs arr (xm_iff H0 (Int32.not_lt.mpr hc)) rfl rfl hP hD hS hl) (fun hc => nx rfl ls q arr (xm_ift H0 (Int32.not_le.mp hc)) hl)
  case if_icmp cc off =>
    have h1 : 3 = len := hlen
    subst h1
    cases cc
    case eq =>
      obtain ⟨x, y, q, rfl, H0⟩ := xm_2i_e H0
      exact lv_icmp_eq hx hb hdec (of_decide_eq_true hlk) (fun hc => go a _ ls q h H locs arr (xm_ift H0 hc) rfl rfl hP hD hS hl) (fun hc => nx rfl ls q arr (xm_iff H0 hc) hl)
    case ne =>
      obtain ⟨x, y, q, rfl, H0⟩ := xm_2i_e H0
      exact lv_icmp_ne hx hb hdec (of_decide_eq_true hlk) (fun hc => go a _ ls q h H locs arr (xm_iff H0 hc) rfl rfl hP hD hS hl) (fun hc => nx rfl ls q arr (xm_ift H0 hc) hl)
    case lt =>
      obtain ⟨x, y, q, rfl, H0⟩ := xm_2i_e H0
      exact lv_icmp_lt hx hb hdec (of_decide_eq_true hlk) (fun hc => go a _ ls q h H locs arr (xm_ift H0 hc) rfl rfl hP hD hS hl) (fun hc => nx rfl ls q arr (xm_iff H0 hc) hl)
    case ge =>
      obtain ⟨x, y, q, rfl, H0⟩ := xm_2i_e H0
      exact lv_icmp_ge hx hb hdec (of_decide_eq_true hlk) (fun hc => go a _ ls q h H locs arr (xm_iff H0 (Int32.not_lt.mpr hc)) rfl rfl hP hD hS hl) (fun hc => nx rfl ls q arr (xm_ift H0 (Int32.not_le.mp hc)) hl)
    case gt =>
      obtain ⟨x, y, q, rfl, H0⟩ := xm_2i_e H0
      exact lv_icmp_gt hx hb hdec (of_decide_eq_true hlk) (fun hc => go a _ ls q h H locs arr (xm_ift H0 hc) rfl rfl hP hD hS hl) (fun hc => nx rfl ls q arr (xm_iff H0 hc) hl)
    case le =>
      obtain ⟨x, y, q, rfl, H0⟩ := xm_2i_e H0
      exact lv_icmp_le hx hb hdec (of_decide_eq_true hlk) (fun hc => go a _ ls q h H locs arr (xm_iff H0 (Int32.not_lt.mpr hc)) rfl rfl hP hD hS hl) (fun hc => nx rfl ls q arr (xm_ift H0 (Int32.not_le.mp hc)) hl)
  case ifnull off =>
    have h1 : 3 = len := hlen
    subst h1
    simp only [xm_wp] at H0
    obtain ⟨y, q, rfl, hk, HA1⟩ := xm_1c_e H0
    rcases hk with ⟨z, rfl⟩ | ⟨z, rfl⟩ | rfl
    · exact HA1.elim
    · exact lv_ifnull hx hb hdec (nx rfl ls q arr HA1 hl)
    · exact lv_ifnullN hx hb hdec (of_decide_eq_true hlk) (go a _ ls q h H locs arr HA1 rfl rfl hP hD hS hl)
  case ifnonnull off =>
    have h1 : 3 = len := hlen
    subst h1
    simp only [xm_wp] at H0
    obtain ⟨y, q, rfl, hk, HA1⟩ := xm_1c_e H0
    rcases hk with ⟨z, rfl⟩ | ⟨z, rfl⟩ | rfl
    · exact HA1.elim
    · exact lv_ifnonnull hx hb hdec (of_decide_eq_true hlk) (go a _ ls q h H locs arr HA1 rfl rfl hP hD hS hl)
    · exact lv_ifnonnullN hx hb hdec (nx rfl ls q arr HA1 hl)
  case goto off =>
    have h1 : 3 = len := hlen
    subst h1
    exact lv_goto hx hb hdec (of_decide_eq_true hlk) (go a _ ls st h H locs arr H0 rfl rfl hP hD hS hl)
  case tableswitch d lo hi offs =>
    obtain ⟨y, q, rfl, HA1⟩ := xm_1i_e H0
    have hlk : ((decide ((pc : Int) + d = (xm_pc C a : Int)) && decide (hi = lo + offs.size - 1)) && decide (sw.map (fun q => (q.1.toInt, (xm_pc C q.2 : Int))) = offs.toList.mapIdx (fun j o => (lo + (j : Int), (pc : Int) + o)))) = true := hlk
    rw [Bool.and_eq_true, Bool.and_eq_true, decide_eq_true_eq, decide_eq_true_eq, decide_eq_true_eq] at hlk
    obtain ⟨⟨k1, k2⟩, k3⟩ := hlk
    have hat : ∀ j : Nat, (sw[j]?).map (fun q => (q.1.toInt, (xm_pc C q.2 : Int))) = (offs[j]?).map (fun o => (lo + (j : Int), (pc : Int) + o)) := by
      intro j
      have h1 := congrArg (fun l => l[j]?) k3
      simp only [List.getElem?_map, List.getElem?_mapIdx, Array.getElem?_toList] at h1
      exact h1
    rcases xm_sw_tab sw HA1 with ⟨j, t, h1, h2⟩ | ⟨h1, h2⟩
    · have h3 := hat j
      rw [h1] at h3
      cases ho2 : offs[j]? with
      | none => rw [ho2] at h3; cases h3
      | some o =>
        rw [ho2] at h3
        have h3 : (y.toInt, (xm_pc C t : Int)) = (lo + (j : Int), (pc : Int) + o) := Option.some.inj h3
        have h4 : y.toInt = lo + (j : Int) := congrArg Prod.fst h3
        have h5 : (xm_pc C t : Int) = (pc : Int) + o := congrArg Prod.snd h3
        have h6 : j < offs.size := (Array.getElem?_eq_some_iff.mp ho2).1
        exact lv_tableIn hx hb hdec (by omega) (by omega) (off := o) (by rw [show (y.toInt - lo).toNat = j by omega]; exact ho2) h5.symm (go t _ ls q h H locs arr h2 rfl rfl hP hD hS hl)
    · refine lv_tableOut hx hb hdec ?_ k1 (go a _ ls q h H locs arr h2 rfl rfl hP hD hS hl)
      by_cases hin1 : y.toInt < lo ∨ hi < y.toInt
      · exact hin1
      · exfalso
        have h3 := hat (y.toInt - lo).toNat
        have h6 : (y.toInt - lo).toNat < offs.size := by omega
        rw [Array.getElem?_eq_getElem h6] at h3
        cases ho2 : sw[(y.toInt - lo).toNat]? with
        | none => rw [ho2] at h3; cases h3
        | some z =>
          rw [ho2] at h3
          have h4 : z.1.toInt = lo + ((y.toInt - lo).toNat : Int) := congrArg Prod.fst (Option.some.inj h3)
          exact h1 z (List.mem_of_getElem? ho2) (Int32.toInt_inj.mp (by omega))
  case lookupswitch d ps =>
    obtain ⟨y, q, rfl, HA1⟩ := xm_1i_e H0
    have hlk : ((decide ((pc : Int) + d = (xm_pc C a : Int)) && (ps.toList.zip (ps.toList.drop 1)).all (fun (a, next) => a.1 < next.1)) && decide (sw.map (fun q => (q.1.toInt, (xm_pc C q.2 : Int))) = ps.toList.map (fun q => (q.1, (pc : Int) + q.2)))) = true := hlk
    rw [Bool.and_eq_true, Bool.and_eq_true, decide_eq_true_eq, decide_eq_true_eq] at hlk
    obtain ⟨⟨k1, k2⟩, k3⟩ := hlk
    obtain ⟨t, h1, h2⟩ := xm_sw_look k1 sw ps.toList k3 HA1
    exact lv_lookup hx hb hdec k2 rfl h1 (go t _ ls q h H locs arr h2 rfl rfl hP hD hS hl)
  case getfield j =>
    have h1 : 3 = len := hlen
    subst h1
    obtain ⟨o, q, rfl, HA1⟩ := xm_1r_e H0
    obtain ⟨y, hy, HA2⟩ := xm_gf_e HA1
    obtain ⟨fs, hfs, hk⟩ := xm_fld_e hy
    simp only [xm_lk] at hlk
    split at hlk
    · next f hf =>
      obtain ⟨⟨Cn, Tt, N⟩, hq1, hq2, rfl⟩ := xm_fl_e hf
      obtain ⟨ty, t1, t2, t3, t4⟩ := xm_cls hq1
      exact va_get (D := D) (cl := vwCl) (tys := xm_ty cA) (ws := xm_w cA r h) (ci := a) (C := Cn) (T := Tt) (N := N) hx hb hts t1 hown hK hP o (xm_obj_at hfs) hq1 b hq2 (hts _ (xm_w1_e hlk)) (fun _ h9 => h9) (v := xm_v r y) (by rw [List.getElem?_map, hk]; rfl) hdec (nx rfl ls (y :: q) arr HA2 hl)
    · cases hlk
  case putfield j =>
    have h1 : 3 = len := hlen
    subst h1
    have key : ∀ (y : Value) (o : Nat) (q : List Value) (h1 : xm_H) (ty : FieldType), st = y :: .ref o :: q → xm_put h o a b y = some h1 → g (k + 1) uc us ls q h1 → (∀ f, xm_fl a b = some f → parseFieldDescriptor f.2.2.1 = some ty) → narrow ty (xm_v r y) = xm_v r y → fits ty (xm_v r y) = true → W p l e R s m args below meth c H locs uc us Q (F0 m pc arr (st.map (xm_v r))) := by
      intro y o q h1 ty hst hput HA1 hty hn hfit
      subst hst
      obtain ⟨fs, hfs, hk, rfl⟩ := xm_put_e hput
      simp only [xm_lk] at hlk
      split at hlk
      · next f hf =>
        have hty := hty f hf
        obtain ⟨⟨Cn, Tt, N⟩, hq1, hq2, rfl⟩ := xm_fl_e hf
        obtain ⟨ty0, t1, t2, t3, t4⟩ := xm_cls hq1
        rw [Bool.and_eq_true, Bool.and_eq_true] at hlk
        obtain ⟨⟨k1, k2⟩, k3⟩ := hlk
        have kk : ∀ (H1 : Heap) (locs1 : List Loc), va_P D vwCl ((xm_w cA r h).set o (r o, .inr (a, (fs.map (xm_v r)).set b (xm_v r y)))) H1 → va_D A ((xm_w cA r h).set o (r o, .inr (a, (fs.map (xm_v r)).set b (xm_v r y)))) → va_S A s.heap H1 locs1 → W p l e R s m args below meth c H1 locs1 uc us Q (F0 m (pc + 3) arr (q.map (xm_v r))) := by
          intro H1 locs1 p1 p2 p3
          refine nh rfl q o (.inr (a, fs.set b y)) H1 locs1 HA1 ?_ ?_ p3
          · show va_P D vwCl ((xm_w cA r h).set o (r o, .inr (a, (fs.set b y).map (xm_v r)))) H1
            rw [List.map_set]; exact p1
          · show va_D A ((xm_w cA r h).set o (r o, .inr (a, (fs.set b y).map (xm_v r))))
            rw [List.map_set]; exact p2
        by_cases hfi : (Tt b).2.2.2 = false
        · exact va_put (D := D) (cl := vwCl) (tys := xm_ty cA) (ws := xm_w cA r h) (ci := a) (C := Cn) (T := Tt) (N := N) hx hb hts t1 ty0 t2 t3 hown hK hP hD hS o (xm_obj_at hfs) hq1 b hq2 (hts _ (xm_w1_e k1)) (fun _ h9 => h9) hfi (v := xm_v r y) hty hn hfit (by rw [List.length_map]; exact hk) hdec kk
        · have hfi : (Tt b).2.2.2 = true := by cases hz : (Tt b).2.2.2 <;> first | rfl | exact absurd hz hfi
          have k2 : (!(Tt b).2.2.2 || (decide (S.1.name = "<init>") && decide ((Tt b).1 = own))) = true := k2
          rw [hfi, Bool.not_true, Bool.false_or, Bool.and_eq_true, decide_eq_true_eq, decide_eq_true_eq] at k2
          exact va_putF (D := D) (cl := vwCl) (tys := xm_ty cA) (ws := xm_w cA r h) (ci := a) (C := Cn) (T := Tt) (N := N) hx hb hts t1 ty0 t2 t3 hown hK hP hD hS o (xm_obj_at hfs) hq1 b hq2 (hts _ (xm_w1_e k1)) (fun _ h9 => h9) hfi (hin k2.1) k2.2 (v := xm_v r y) hty hn hfit (by rw [List.length_map]; exact hk) hdec kk
      · cases hlk
    have hpt : ∀ f, xm_fl a b = some f → (if v = 0 then decide (parseFieldDescriptor f.2.2.1 = some .int) else if v = 2 then decide (parseFieldDescriptor f.2.2.1 = some .boolean) else xm_ptO (parseFieldDescriptor f.2.2.1)) = true := by
      intro f hf
      simp only [xm_lk, hf] at hlk
      rw [Bool.and_eq_true] at hlk
      exact hlk.2
    by_cases hv0 : v = 0
    · have HA2 := xm_ift H0 hv0
      obtain ⟨y, q, rfl, HA3⟩ := xm_1i_e HA2
      obtain ⟨o, q, rfl, h1, hput, HA4⟩ := xm_1r_e HA3
      exact key (.int y) o q h1 .int rfl hput HA4 (fun f hf => by have := hpt f hf; rw [if_pos hv0] at this; exact of_decide_eq_true this) rfl rfl
    · have HA5 := xm_iff H0 hv0
      by_cases hv2 : v = 2
      · have HA6 := xm_ift HA5 hv2
        obtain ⟨y, q, rfl, HA7⟩ := xm_1i_e HA6
        obtain ⟨hy, HA8⟩ := xm_if HA7
        obtain ⟨o, q, rfl, h1, hput, HA9⟩ := xm_1r_e HA8
        exact key (.int y) o q h1 .boolean rfl hput HA9 (fun f hf => by have := hpt f hf; rw [if_neg hv0, if_pos hv2] at this; exact of_decide_eq_true this) (xm_nb hy) (xm_fb hy)
      · have HA10 := xm_iff HA5 hv2
        obtain ⟨y, q, rfl, HA11⟩ := xm_1r_e HA10
        obtain ⟨o, q, rfl, h1, hput, HA12⟩ := xm_1r_e HA11
        cases hfl : xm_fl a b with
        | none => simp only [xm_lk, hfl] at hlk; cases hlk
        | some f =>
          have h2 := hpt f hfl
          rw [if_neg hv0, if_neg hv2] at h2
          cases hpp : parseFieldDescriptor f.2.2.1 with
          | none => rw [hpp] at h2; cases h2
          | some ty =>
            rw [hpp] at h2
            exact key (.ref y) o q h1 ty rfl hput HA12 (fun f' hf' => by rw [hfl] at hf'; cases hf'; exact hpp) (xm_nr h2 (r y)).1 (xm_nr h2 (r y)).2
  case getstatic j =>
    have h1 : 3 = len := hlen
    subst h1
    simp only [xm_lk] at hlk
    split at hlk
    · next n hn =>
      by_cases hv0 : v = 0
      · rw [if_pos hv0] at hlk
        exact va_gets hx hb (ho.2.1 a n hn) hS hown (hts _ (xm_w1_e hlk)) (fun _ h9 => h9) hdec (nx rfl ls (.ref (1000 + a) :: st) arr H0 hl)
      · rw [if_neg hv0] at hlk
        obtain ⟨k1, k2⟩ := xm_w2_e hlk
        exact va_getsN hx hb (ho.2.1 a n hn) hS hown (va_Nw.use rfl (ho.2.2.1 _ k1 k2)) (fun _ h9 => h9) hdec (nx rfl ls (.ref (1000 + a) :: st) arr H0 hl)
    · cases hlk
  case iaload =>
    have h1 : 1 = len := hlen
    subst h1
    obtain ⟨j, q, rfl, HA1⟩ := xm_1i_e H0
    obtain ⟨o, q, rfl, y, hy, HA2⟩ := xm_1r_e HA1
    obtain ⟨n, f, har, hin2, rfl⟩ := xm_ld_e hy
    rcases xm_ar_e har with har2 | ⟨ht0, z, hz9, har2⟩
    · exact va_iald (D := D) (cl := vwCl) (tys := xm_ty cA) hx hb hK hP o 0 (xm_cut_at har2) rfl hin2 hdec (nx rfl ls (.int (f j.toNatClampNeg) :: q) arr HA2 hl)
    · subst hz9
      exact va_sld hx hb (ho.1 z n f har2).1 (ho.1 z n f har2).2.1 (ho.1 z n f har2).2.2 hS hin2 hdec (nx rfl ls (.int (f j.toNatClampNeg) :: q) arr HA2 hl)
  case baload =>
    have h1 : 1 = len := hlen
    subst h1
    obtain ⟨j, q, rfl, HA1⟩ := xm_1i_e H0
    obtain ⟨o, q, rfl, y, hy, HA2⟩ := xm_1r_e HA1
    obtain ⟨n, f, har, hin2, rfl⟩ := xm_ld_e hy
    rcases xm_ar_e har with har2 | ⟨ht0, z, hz9, har2⟩
    · exact va_bald (D := D) (cl := vwCl) (tys := xm_ty cA) hx hb hK hP o 1 (xm_cut_at har2) rfl hin2 hdec (nx rfl ls (.int (f j.toNatClampNeg) :: q) arr HA2 hl)
    · subst hz9
      exact absurd ht0 (by decide)
  case saload =>
    have h1 : 1 = len := hlen
    subst h1
    obtain ⟨j, q, rfl, HA1⟩ := xm_1i_e H0
    obtain ⟨o, q, rfl, y, hy, HA2⟩ := xm_1r_e HA1
    obtain ⟨n, f, har, hin2, rfl⟩ := xm_ld_e hy
    rcases xm_ar_e har with har2 | ⟨ht0, z, hz9, har2⟩
    · exact va_sald (D := D) (cl := vwCl) (tys := xm_ty cA) hx hb hK hP o 2 (xm_cut_at har2) rfl hin2 hdec (nx rfl ls (.int (f j.toNatClampNeg) :: q) arr HA2 hl)
    · subst hz9
      exact absurd ht0 (by decide)
  case laload =>
    have h1 : 1 = len := hlen
    subst h1
    obtain ⟨j, q, rfl, HA1⟩ := xm_1i_e H0
    obtain ⟨o, q, rfl, y, hy, HA2⟩ := xm_1r_e HA1
    obtain ⟨n, f, har, hin2, rfl⟩ := xm_ldL_e hy
    exact va_lald (D := D) (cl := vwCl) (tys := xm_ty cA) hx hb hK hP o 3 (xm_cut_at har) rfl hin2 hdec (nx rfl ls (.long (f j.toNatClampNeg) :: q) arr HA2 hl)
  case aaload =>
    have h1 : 1 = len := hlen
    subst h1
    obtain ⟨j, q, rfl, HA1⟩ := xm_1i_e H0
    obtain ⟨o, q, rfl, y, hy, HA2⟩ := xm_1r_e HA1
    obtain ⟨n, f, har, hin2, hfy⟩ := xm_ldR_e hy
    have hlt : j.toNatClampNeg < n := Nat.not_le.mp fun q => hin2 (Or.inr q)
    refine va_aldq (D := D) (cl := vwCl) (tys := xm_ty cA) hx hb hK hP o 4 (xm_cut_at har) rfl hin2 hdec ?_
    have hz : va_rf (if j.toNatClampNeg < n then (f j.toNatClampNeg).map r else none) = .ref (r y) := by rw [if_pos hlt, hfy]; rfl
    rw [hz]
    exact nx rfl ls (.ref y :: q) arr HA2 hl
  case iastore =>
    have h1 : 1 = len := hlen
    subst h1
    obtain ⟨j, y, q, rfl, HA1⟩ := xm_2i_e H0
    obtain ⟨o, q, rfl, h1, hst, HA2⟩ := xm_1r_e HA1
    obtain ⟨n, f, har, hin2, rfl⟩ := xm_sto_e hst
    exact va_iast (D := D) (cl := vwCl) (tys := xm_ty cA) hx hb hK hP hD hS o 0 (xm_cut_at har) rfl hin2 hdec (fun H1 locs1 p1 p2 p3 => nh rfl q o _ H1 locs1 HA2 p1 p2 p3)
  case bastore =>
    have h1 : 1 = len := hlen
    subst h1
    obtain ⟨j, y, q, rfl, HA1⟩ := xm_2i_e H0
    obtain ⟨o, q, rfl, h1, hst, HA2⟩ := xm_1r_e HA1
    obtain ⟨n, f, har, hin2, rfl⟩ := xm_sto_e hst
    exact va_bast (D := D) (cl := vwCl) (tys := xm_ty cA) hx hb hK hP hD hS o 1 (xm_cut_at har) rfl hin2 hdec (fun H1 locs1 p1 p2 p3 => nh rfl q o _ H1 locs1 HA2 p1 p2 p3)
  case sastore =>
    have h1 : 1 = len := hlen
    subst h1
    obtain ⟨j, y, q, rfl, HA1⟩ := xm_2i_e H0
    obtain ⟨o, q, rfl, h1, hst, HA2⟩ := xm_1r_e HA1
    obtain ⟨n, f, har, hin2, rfl⟩ := xm_sto_e hst
    exact va_sast (D := D) (cl := vwCl) (tys := xm_ty cA) hx hb hK hP hD hS o 2 (xm_cut_at har) rfl hin2 hdec (fun H1 locs1 p1 p2 p3 => nh rfl q o _ H1 locs1 HA2 p1 p2 p3)
  case lastore =>
    have h1 : 1 = len := hlen
    subst h1
    obtain ⟨y, q, rfl, HA1⟩ := xm_1l_e H0
    obtain ⟨j, q, rfl, HA2⟩ := xm_1i_e HA1
    obtain ⟨o, q, rfl, h1, hst, HA3⟩ := xm_1r_e HA2
    obtain ⟨n, f, har, hin2, rfl⟩ := xm_stoL_e hst
    exact va_last (D := D) (cl := vwCl) (tys := xm_ty cA) hx hb hK hP hD hS o 3 (xm_cut_at har) rfl hin2 hdec (fun H1 locs1 p1 p2 p3 => nh rfl q o _ H1 locs1 HA3 p1 p2 p3)
  case aastore =>
    have h1 : 1 = len := hlen
    subst h1
    obtain ⟨y, q, rfl, HA1⟩ := xm_1r_e H0
    obtain ⟨j, q, rfl, HA2⟩ := xm_1i_e HA1
    obtain ⟨o, q, rfl, h1, hst, HA3⟩ := xm_1r_e HA2
    obtain ⟨n, f, fs, har, hby, hin2, rfl⟩ := xm_stoR_e hst
    have hlt : j.toNatClampNeg < n := Nat.not_le.mp fun q => hin2 (Or.inr q)
    have hff : va_up (fun z => if z < n then (f z).map r else none) j.toNatClampNeg (some (r y)) = (fun z => if z < n then (va_up f j.toNatClampNeg (some y) z).map r else none) := by
      funext z
      by_cases hz : z = j.toNatClampNeg
      · subst hz; simp [va_up, hlt]
      · simp [va_up, hz]
    refine va_astq (D := D) (cl := vwCl) (tys := xm_ty cA) (r := (RX5, TX5, 4)) hx hb hK hP hD hS o 4 y 5 (xm_cut_at har) rfl (xm_obj_at hby) rfl hin2 hdec (fun H1 locs1 p1 p2 p3 => ?_)
    refine nh rfl q o _ H1 locs1 HA3 ?_ ?_ p3
    · show va_P D vwCl ((xm_w cA r h).set o (r o, .inl (cA 4, n, .inr (.inr (.inr (.inr (fun z => if z < n then (va_up f j.toNatClampNeg (some y) z).map r else none))))))) H1
      rw [← hff]; exact p1
    · show va_D A ((xm_w cA r h).set o (r o, .inl (cA 4, n, .inr (.inr (.inr (.inr (fun z => if z < n then (va_up f j.toNatClampNeg (some y) z).map r else none)))))))
      rw [← hff]; exact p2
  case arraylength =>
    have h1 : 1 = len := hlen
    subst h1
    obtain ⟨o, q, rfl, y, hy, HA1⟩ := xm_1r_e H0
    rcases xm_len_e hy with ⟨t, n, f, ht, har, rfl⟩ | ⟨z, n, f, rfl, har, rfl⟩
    · have h1 := xm_cut_at (cA := cA) (r := r) har
      have hxa : (xm_a r (n, f)).1 = n := by rcases f with f | f | f | f | f <;> rfl
      rcases (show t = 0 ∨ t = 1 ∨ t = 2 ∨ t = 3 ∨ t = 4 by omega) with rfl | rfl | rfl | rfl | rfl
      · exact va_alen (D := D) (cl := vwCl) (tys := xm_ty cA) hx hb hK hP o 0 h1 rfl (by rw [hxa]) hdec (nx rfl ls (.int (Int32.ofNat n) :: q) arr HA1 hl)
      · exact va_alen (D := D) (cl := vwCl) (tys := xm_ty cA) hx hb hK hP o 1 h1 rfl (by rw [hxa]) hdec (nx rfl ls (.int (Int32.ofNat n) :: q) arr HA1 hl)
      · exact va_alen (D := D) (cl := vwCl) (tys := xm_ty cA) hx hb hK hP o 2 h1 rfl (by rw [hxa]) hdec (nx rfl ls (.int (Int32.ofNat n) :: q) arr HA1 hl)
      · exact va_alen (D := D) (cl := vwCl) (tys := xm_ty cA) hx hb hK hP o 3 h1 rfl (by rw [hxa]) hdec (nx rfl ls (.int (Int32.ofNat n) :: q) arr HA1 hl)
      · exact va_alen (D := D) (cl := vwCl) (tys := xm_ty cA) hx hb hK hP o 4 h1 rfl (by rw [hxa]) hdec (nx rfl ls (.int (Int32.ofNat n) :: q) arr HA1 hl)
    · exact va_slen hx hb (ho.1 z n f har).1 (ho.1 z n f har).2.1 (ho.1 z n f har).2.2 hS hdec (nx rfl ls (.int (Int32.ofNat n) :: q) arr HA1 hl)
  case new j =>
    have h1 : 3 = len := hlen
    subst h1
    obtain ⟨⟨b1, b2⟩, hva, HA1⟩ := (show (uc + 1 ≤ S.2.2.2.2.1 ∧ us + b ≤ S.2.2.2.2.2) ∧ xm_va h ls st 1 ∧ g (k + 1) (uc + 1) (us + b) ls (.ref h.length :: st) (h ++ [.inr (a, xm_df a)]) from H0)
    simp only [xm_lk] at hlk
    split at hlk
    · next Cn Tt N hc =>
      simp only [Bool.and_eq_true, decide_eq_true_eq] at hlk
      obtain ⟨⟨⟨k1, k2⟩, k3⟩, k4⟩ := hlk
      subst k1
      obtain ⟨ty, t1, t2, t3, t4⟩ := xm_cls hc
      refine va_new (D := D) (cl := vwCl) (tys := xm_ty cA) (ws := xm_w cA r h) (fs := xm_df a) (C := Cn) (T := Tt) (N := N) hx hb hts t1 ty t2 hown (hts _ (xm_w1_e k2)) (hts _ (xm_w1_e k3)) (hts _ (xm_w1_e k4)) hK hP hD hS hA hc t4 (by omega) (by omega) hdec (fun q H1 p1 p2 p3 => ?_)
      refine al rfl q ls st (.inr (a, xm_df a)) (us + N) H1 b1 b2 hva (fun r' => ?_) HA1 ?_ ?_ p3
      · show Sum.inr (a, (xm_df a).map (xm_v r')) = Sum.inr (a, (xm_df a).map (xm_v r))
        rw [xm_df_id, xm_df_id]
      · show va_P D vwCl (xm_w cA r h ++ [(q, .inr (a, (xm_df a).map (xm_v r)))]) H1
        rw [xm_df_id]; exact p1
      · show va_D A (xm_w cA r h ++ [(q, .inr (a, (xm_df a).map (xm_v r)))])
        rw [xm_df_id]; exact p2
    · cases hlk
  case newarray ty =>
    have h1 : 2 = len := hlen
    subst h1
    obtain ⟨n, q, rfl, HA1⟩ := xm_1i_e H0
    obtain ⟨rfl, ⟨b1, b2⟩, hva, HA2⟩ := xm_if HA1
    simp only [xm_lk, Bool.and_eq_true, decide_eq_true_eq] at hlk
    obtain ⟨⟨⟨k1, k2⟩, k3⟩, k4⟩ := hlk
    have hal : ∀ (at_ : ArrayType) (t : Nat) (fty : FieldType) (a0 : vp_A), ty = at_ → newarray.typeOf at_ = fty → a = t → (xm_ty cA)[t]? = some (cA t, fty) → (∀ C, fty ≠ .object C) → Cond.arrayClass fty ∈ xm_tb → b * componentBytes fty ≤ 536870912 → (∀ cB : ClassId, vp_cell cB a0 = arrV cB b (fun _ => defaultValue fty)) → (∀ r', xm_e cA r' (xm_za a b) = .inl (cA t, a0)) → W p l e R s m args below meth c H locs uc us Q (F0 m pc arr ((.int n :: q).map (xm_v r))) := by
      intro at_ t fty a0 h1 h2 h3 h4 h5 h6 h7 h8 h9
      subst h1
      subst h3
      refine va_newa (D := D) (cl := vwCl) (tys := xm_ty cA) (ws := xm_w cA r h) (atype := ty) (ty := fty) (N' := b) hx hb (by rw [h2]; exact hts _ h6) h2 hK hP hD hS hA h8 k2 k1 h7 (by omega) (by omega) hdec (fun q1 cB H1 p0 p1 p2 p3 => ?_)
      have hcc : cB = cA a := xm_newid h5 (p0.2 5 (cB, fty) rfl).2 (p0.2 a (cA a, fty) (by
        have hlt : a < 5 := by have := (List.getElem?_eq_some_iff.mp h4).1; exact this
        rw [List.getElem?_append_left (by exact hlt)]; exact h4)).2
      subst hcc
      refine al rfl q1 ls q (xm_za a b) (us + b) H1 b1 b2 hva (fun r' => by rw [h9, h9]) HA2 ?_ ?_ p3
      · rw [h9]; exact p1
      · rw [h9]; exact p2
    cases ty <;> first | (exact absurd (show false = true from k4) (by decide)) | skip
    case byte =>
      simp only [Bool.and_eq_true, decide_eq_true_eq] at k4
      obtain ⟨rfl, k5⟩ := k4
      exact hal .byte 1 .byte (b, .inl (fun _ => 0)) rfl rfl rfl rfl (fun C => by intro e; cases e) (xm_w1_e k5) (by show b * 1 ≤ _; omega) (fun cB => rfl) (fun r' => rfl)
    case short =>
      simp only [Bool.and_eq_true, decide_eq_true_eq] at k4
      obtain ⟨rfl, k5⟩ := k4
      exact hal .short 2 .short (b, .inl (fun _ => 0)) rfl rfl rfl rfl (fun C => by intro e; cases e) (xm_w1_e k5) (by show b * 2 ≤ _; omega) (fun cB => rfl) (fun r' => rfl)
    case int =>
      simp only [Bool.and_eq_true, decide_eq_true_eq] at k4
      obtain ⟨rfl, k5⟩ := k4
      exact hal .int 0 .int (b, .inl (fun _ => 0)) rfl rfl rfl rfl (fun C => by intro e; cases e) (xm_w1_e k5) (by show b * 4 ≤ _; omega) (fun cB => rfl) (fun r' => rfl)
    case long =>
      simp only [Bool.and_eq_true, decide_eq_true_eq] at k4
      obtain ⟨rfl, k5⟩ := k4
      exact hal .long 3 .long (b, .inr (.inl (fun _ => 0))) rfl rfl rfl rfl (fun C => by intro e; cases e) (xm_w1_e k5) (by show b * 8 ≤ _; omega) (fun cB => rfl) (fun r' => rfl)
  case anewarray j =>
    have h1 : 3 = len := hlen
    subst h1
    obtain ⟨n, q, rfl, HA1⟩ := xm_1i_e H0
    obtain ⟨rfl, ⟨b1, b2⟩, hva, HA2⟩ := xm_if HA1
    simp only [xm_lk, Bool.and_eq_true, decide_eq_true_eq] at hlk
    obtain ⟨⟨⟨k1, k2⟩, k3⟩, k4⟩ := hlk
    refine va_newq (D := D) (cl := vwCl) (tys := xm_ty cA) (ws := xm_w cA r h) (N' := b) hx hb hown (hts _ (xm_w1_e k4)) ho.2.2.2 hK hP hD hS hA k2 k1 (by omega) (by omega) (by omega) hdec (fun q1 cB H1 p0 p1 p2 p3 => ?_)
    have hcc : cB = cA 4 := xm_newidO (p0.2 5 (cB, .object RX5) rfl).2 (p0.2 4 (cA 4, .object RX5) rfl).2
    subst hcc
    have hfn : ∀ r' : Nat → Nat, (fun j => if j < b then (none : Option Nat).map r' else none) = (fun _ => none : Nat → Option Nat) := fun r' => by funext j; split <;> rfl
    refine al rfl q1 ls q (.inl (4, b, .inr (.inr (.inr (.inr (fun _ => none)))))) (us + b) H1 b1 b2 hva (fun r' => ?_) HA2 ?_ ?_ p3
    · show Sum.inl (cA 4, b, Sum.inr (Sum.inr (Sum.inr (Sum.inr (fun j => if j < b then (none : Option Nat).map r' else none))))) = Sum.inl (cA 4, b, Sum.inr (Sum.inr (Sum.inr (Sum.inr (fun j => if j < b then (none : Option Nat).map r else none)))))
      rw [hfn, hfn]
    · show va_P D vwCl (xm_w cA r h ++ [(q1, .inl (cA 4, b, .inr (.inr (.inr (.inr (fun j => if j < b then (none : Option Nat).map r else none))))))]) H1
      rw [hfn]; exact p1
    · show va_D A (xm_w cA r h ++ [(q1, .inl (cA 4, b, .inr (.inr (.inr (.inr (fun j => if j < b then (none : Option Nat).map r else none))))))])
      rw [hfn]; exact p2
  case invokestatic j =>
    have h1 : 3 = len := hlen
    subst h1
    by_cases hv3 : v = 3
    · have HA1 := xm_ift H0 hv3
      simp only [xm_lk] at hlk
      rw [if_pos hv3] at hlk
      simp only [Bool.and_eq_true] at hlk
      obtain ⟨⟨⟨k1, k2⟩, k3⟩, k4⟩ := hlk
      unfold xm_cpy at HA1
      split at HA1
      · next n dp a1 sp a0 q =>
        obtain ⟨hw8, h1, hcp, HA2⟩ := xm_if HA1
        have hcat : ((q.map (xm_v r)).map (fun v => v.category)).sum = (q.map (fun v => v.category)).sum := by rw [List.map_map]; congr 1; exact List.map_congr_left (fun v _ => xm_v_cat r v)
        have hml2 : c.maxLocals = arr.size := by rw [hml, hl.2.1]
        by_cases hb0 : b = 0
        · rw [if_pos hb0] at hcp
          obtain ⟨n0, f, n1, f1, g0, g1, ⟨g2, g3, g4⟩, g5, g6, rfl⟩ := xm_cpI_e hcp
          exact va_copyi (D := D) (cl := vwCl) (tys := xm_ty cA) (ty := .int) hx hb hml2 hown (hts _ (xm_w1_e k1)) (hts _ (xm_w1_e k2)) (hts _ (xm_w1_e k3)) (hts _ (xm_w1_e k4)) hK hP hD hS a0 a1 0 0 (xm_cut_at g0) (xm_cut_at g1) rfl rfl rfl g2 g3 g4 g5 g6 (fun _ _ => rfl) (by omega) (by rw [hcat]; have h27 := xm_nfw; omega) hdec (fun H1 locs1 p1 p2 p3 => nh rfl q a1 _ H1 locs1 HA2 p1 p2 p3)
        · rw [if_neg hb0] at hcp
          obtain ⟨n0, f, n1, f1, g0, g1, ⟨g2, g3, g4⟩, g5, g6, rfl⟩ := xm_cpL_e hcp
          exact va_copyl (D := D) (cl := vwCl) (tys := xm_ty cA) (ty := .long) hx hb hml2 hown (hts _ (xm_w1_e k1)) (hts _ (xm_w1_e k2)) (hts _ (xm_w1_e k3)) (hts _ (xm_w1_e k4)) hK hP hD hS a0 a1 3 3 (xm_cut_at g0) (xm_cut_at g1) rfl rfl rfl g2 g3 g4 g5 g6 (fun _ _ => rfl) (by omega) (by rw [hcat]; have h27 := xm_nfw; omega) hdec (fun H1 locs1 p1 p2 p3 => nh rfl q a1 _ H1 locs1 HA2 p1 p2 p3)
      · exact HA1.elim
    · have HA3 := xm_iff H0 hv3
      simp only [xm_lk] at hlk
      rw [if_neg hv3] at hlk
      simp only [Bool.and_eq_true] at hlk
      obtain ⟨⟨⟨⟨k1, k2⟩, k3⟩, k4⟩, k5⟩ := hlk
      obtain ⟨⟨hm, hw8⟩, H1⟩ := xm_if HA3
      refine cll a 99 (st.take a).reverse (st.drop a) rfl rfl (xm_take hm) (by unfold xm_cl; rw [if_pos ⟨hm, hw8⟩]; trivial) rfl rfl H1 ?_
      intro k0 P0 hk0 hT45 b1 b2 hcw _
      have hstk : st.map (xm_v r) = (((st.take a).reverse).map (xm_v r)).reverse ++ (st.drop a).map (xm_v r) := by rw [← List.map_reverse, ← List.map_append, List.reverse_reverse, List.take_append_drop]
      have hcat : (((st.drop a).map (xm_v r)).map (fun v => v.category)).sum ≤ 8 := by rw [List.map_map]; exact Nat.le_trans (Nat.le_of_eq (by congr 1; exact List.map_congr_left (fun v _ => xm_v_cat r v))) hw8
      have hlen2 : (((st.take a).reverse).map (xm_v r)).length = a := by rw [List.length_map, List.length_reverse, List.length_take]; omega
      by_cases hv0 : v = 0
      · rw [if_pos hv0] at k1
        exact va_runS (own := own) (nL := S.2.2.1) (Ts := xm_tb) ⟨hx, hb, hml, hown, hts⟩ (hcw l D cA r H.size) ⟨callB_of (Ts := xm_tb) a hts (xm_goodCall (xm_w1_e k4)) rfl rfl rfl (hts _ (xm_w1_e k3)) (hts _ (xm_w1_e k1)) (xm_md_e k5) ⟨by show k0 + 1 + 1 ≤ R.frames; omega, by show 8 + (T.2.2.1 + 11) + 64 * (k0 + 1) ≤ R.locals; omega⟩, hts _ (xm_w1_e k2)⟩ ⟨xm_blind D cA r H.size h _, fun U hU hW => xm_pre_of hO hK hA ho hP hD hS _ U hU hW⟩ rfl hlen2 hl.2.1 hstk (lv_room hcat) hdec ⟨by omega, by omega⟩
      · rw [if_neg hv0] at k1
        obtain ⟨j1, j2⟩ := xm_w2_e k1
        exact va_runSN (own := own) (nL := S.2.2.1) (Ts := xm_tb) ⟨hx, hb, hml, hown, hts⟩ (hcw l D cA r H.size) ⟨va_cnB (Ts := xm_tb) a hts (xm_goodCall (xm_w1_e k4)) rfl rfl rfl (ho.2.2.1 _ j1 j2) (hts _ (xm_w1_e k3)) (xm_md_e k5) ⟨by show k0 + 1 + 1 ≤ R.frames; omega, by show 8 + (T.2.2.1 + 11) + 64 * (k0 + 1) ≤ R.locals; omega⟩, hts _ (xm_w1_e k2), trivial⟩ ⟨xm_blind D cA r H.size h _, fun U hU hW => xm_pre_of hO hK hA ho hP hD hS _ U hU hW⟩ rfl hlen2 hl.2.1 hstk (lv_room hcat) hdec ⟨by omega, by omega⟩
  case invokevirtual j =>
    have h1 : 3 = len := hlen
    subst h1
    simp only [xm_lk, Bool.and_eq_true, decide_eq_true_eq] at hlk
    obtain ⟨⟨⟨⟨⟨⟨k1, k2⟩, k3⟩, k4⟩, k5⟩, k6⟩, k7⟩ := hlk
    obtain ⟨⟨hm, hw8⟩, H1⟩ := xm_if H0
    refine cll (a + 1) b (st.take (a + 1)).reverse (st.drop (a + 1)) rfl rfl (xm_take hm) (by unfold xm_cl; rw [if_pos ⟨hm, hw8⟩]; trivial) rfl rfl H1 ?_
    intro k0 P0 hk0 hT45 b1 b2 hcw hro
    cases hq : vwCl[b]? with
    | none => rw [hq] at k7; cases k7
    | some qc =>
    rw [hq] at k7
    have k7 : qc.1 = T.1.cls := Option.some.inj k7
    have hb99 : b ≠ 99 := fun e => by rw [e] at hq; cases hq
    obtain ⟨b9, fs, hhd, hbo⟩ := hro.resolve_left hb99
    have hcat : (((st.drop (a + 1)).map (xm_v r)).map (fun v => v.category)).sum ≤ 8 := by rw [List.map_map]; exact Nat.le_trans (Nat.le_of_eq (by congr 1; exact List.map_congr_left (fun v _ => xm_v_cat r v))) hw8
    have hlen2 : ((st.take (a + 1)).reverse).length = a + 1 := by rw [List.length_reverse, List.length_take]; omega
    have hst2 : st = ((st.take (a + 1)).reverse).reverse ++ st.drop (a + 1) := xm_take hm
    generalize hav : (st.take (a + 1)).reverse = av at *
    cases av with
    | nil => cases hhd
    | cons v9 As =>
    have hv9 : v9 = .ref b9 := Option.some.inj hhd
    subst hv9
    have hAl : As.length = a := by simpa using hlen2
    have hstk : st.map (xm_v r) = (As.map (xm_v r)).reverse ++ .ref (r b9) :: (st.drop (a + 1)).map (xm_v r) := by
      conv => lhs; rw [hst2]
      rw [List.reverse_cons, List.append_assoc, List.map_append, List.map_reverse]
      rfl
    obtain ⟨cell, c1, c2, c3⟩ := va_recv hK hP hq (xm_obj_at (cA := cA) (r := r) hbo)
    rw [k7] at c3
    exact va_runV (own := own) (C := T.1.cls) (nL := S.2.2.1) (Ts := xm_tb) ⟨hx, hb, hml, hown, hts⟩ (hcw l D cA r H.size) ⟨callB_of (Ts := xm_tb) a hts (xm_goodCall (xm_w1_e k5)) rfl rfl rfl (hts _ (xm_w1_e k4)) (hts _ (xm_w1_e k1)) (xm_md_e k6) ⟨by show k0 + 1 + 1 ≤ R.frames; omega, by show 8 + (T.2.2.1 + 11) + 64 * (k0 + 1) ≤ R.locals; omega⟩, hts _ (xm_w1_e k2), hts _ (xm_w1_e k3)⟩ ⟨xm_blind D cA r H.size h _, ⟨cell, c1, c2, c3⟩, fun U hU hW => xm_pre_of hO hK hA ho hP hD hS _ U hU hW⟩ rfl (by rw [List.length_map]; exact hAl) hl.2.1 hstk (lv_room hcat) hdec ⟨by omega, by omega⟩
  case invokespecial j =>
    have h1 : 3 = len := hlen
    subst h1
    by_cases hv2 : v = 2
    · have HA1 := xm_ift H0 hv2
      obtain ⟨o, q, rfl, HA2⟩ := xm_1r_e HA1
      obtain ⟨hw8, HA3⟩ := xm_if HA2
      simp only [xm_lk] at hlk
      rw [if_pos hv2] at hlk
      simp only [Bool.and_eq_true] at hlk
      obtain ⟨⟨k1, k2⟩, k3⟩ := hlk
      have hcat : ((q.map (xm_v r)).map (fun v => v.category)).sum ≤ 8 := by rw [List.map_map]; exact Nat.le_trans (Nat.le_of_eq (by congr 1; exact List.map_congr_left (fun v _ => xm_v_cat r v))) hw8
      refine W.objInit hx hb hown (hts _ (xm_w1_e k1)) (hts _ (xm_w1_e k2)) (hts _ (xm_w1_e k3)) rfl (by rw [hml]; exact hl.2.1) (a := r o) (rest := q.map (xm_v r)) rfl hdec (by omega) ?_ ?_
      · have := lv_room (m := m) (pc := pc) (ls := arr) (rest := (Value.ref o :: q).map (xm_v r)) hcat
        omega
      · exact nx rfl ls q arr HA3 hl
    · have HA4 := xm_iff H0 hv2
      simp only [xm_lk] at hlk
      rw [if_neg hv2] at hlk
      simp only [Bool.and_eq_true, decide_eq_true_eq] at hlk
      obtain ⟨⟨⟨⟨⟨⟨⟨k1, k2⟩, k3⟩, k4⟩, k5⟩, k6⟩, k8⟩, k7⟩ := hlk
      obtain ⟨⟨hm, hw8⟩, H1⟩ := xm_if HA4
      refine cll (a + 1) b (st.take (a + 1)).reverse (st.drop (a + 1)) rfl rfl (xm_take hm) (by unfold xm_cl; rw [if_pos ⟨hm, hw8⟩]; trivial) rfl rfl H1 ?_
      intro k0 P0 hk0 hT45 b1 b2 hcw hro
      cases hq : vwCl[b]? with
      | none => rw [hq] at k7; cases k7
      | some qc =>
      have hb99 : b ≠ 99 := fun e => by rw [e] at hq; cases hq
      obtain ⟨b9, fs, hhd, hbo⟩ := hro.resolve_left hb99
      have hcat : (((st.drop (a + 1)).map (xm_v r)).map (fun v => v.category)).sum ≤ 8 := by rw [List.map_map]; exact Nat.le_trans (Nat.le_of_eq (by congr 1; exact List.map_congr_left (fun v _ => xm_v_cat r v))) hw8
      have hlen2 : ((st.take (a + 1)).reverse).length = a + 1 := by rw [List.length_reverse, List.length_take]; omega
      have hst2 : st = ((st.take (a + 1)).reverse).reverse ++ st.drop (a + 1) := xm_take hm
      generalize hav : (st.take (a + 1)).reverse = av at *
      cases av with
      | nil => cases hhd
      | cons v9 As =>
      have hv9 : v9 = .ref b9 := Option.some.inj hhd
      subst hv9
      have hAl : As.length = a := by simpa using hlen2
      have hstk : st.map (xm_v r) = (As.map (xm_v r)).reverse ++ .ref (r b9) :: (st.drop (a + 1)).map (xm_v r) := by
        conv => lhs; rw [hst2]
        rw [List.reverse_cons, List.append_assoc, List.map_append, List.map_reverse]
        rfl
      have hmet := hcw l D cA r H.size
      by_cases hv0 : v = 0
      · rw [if_pos hv0] at k1
        have hz := callB_of (ret := T.2.2.2.1) (Ts := xm_tb) (R := R) (rm := xm_rm k0 T) a hts (xm_goodCall (xm_w1_e k4)) rfl rfl rfl (hts _ (xm_w1_e k3)) (hts _ (xm_w1_e k1)) (xm_md_e k5) ⟨by show k0 + 1 + 1 ≤ R.frames; omega, by show 8 + (T.2.2.1 + 11) + 64 * (k0 + 1) ≤ R.locals; omega⟩
        rw [k8] at hz
        exact va_runI (own := own) (nL := S.2.2.1) (Ts := xm_tb) ⟨hx, hb, hml, hown, hts⟩ hmet ⟨hz, k6, hts _ (xm_w1_e k2)⟩ ⟨xm_blind D cA r H.size h _, fun U hU hW => xm_pre_of hO hK hA ho hP hD hS _ U hU hW⟩ rfl (by rw [List.length_map]; exact hAl) hl.2.1 hstk (lv_room hcat) hdec ⟨by omega, by omega⟩
      · rw [if_neg hv0] at k1
        obtain ⟨j1, j2⟩ := xm_w2_e k1
        have hz := va_cnB (ret := T.2.2.2.1) (Ts := xm_tb) (R := R) (rm := xm_rm k0 T) a hts (xm_goodCall (xm_w1_e k4)) rfl rfl rfl (ho.2.2.1 _ j1 j2) (hts _ (xm_w1_e k3)) (xm_md_e k5) ⟨by show k0 + 1 + 1 ≤ R.frames; omega, by show 8 + (T.2.2.1 + 11) + 64 * (k0 + 1) ≤ R.locals; omega⟩
        rw [k8] at hz
        exact va_runIN (own := own) (nL := S.2.2.1) (Ts := xm_tb) ⟨hx, hb, hml, hown, hts⟩ hmet ⟨hz, k6, hts _ (xm_w1_e k2)⟩ ⟨xm_blind D cA r H.size h _, fun U hU hW => xm_pre_of hO hK hA ho hP hD hS _ U hU hW⟩ rfl (by rw [List.length_map]; exact hAl) hl.2.1 hstk (lv_room hcat) hdec ⟨by omega, by omega⟩
  case ireturn =>
    have h1 : 1 = len := hlen
    subst h1
    have HA1 : (match S.2.2.2.1 with
      | some .int => xm_e1 st (fun y => match y with
        | .int x => P (some (.int x)) h
        | _ => False)
      | some .boolean => xm_e1 st (fun y => match y with
        | .int x => if x = 0 ∨ x = 1 then P (some (.int x)) h else False
        | _ => False)
      | _ => False) := H0
    split at HA1
    · next hret =>
      obtain ⟨y, rfl, HA2⟩ := xm_e1_e HA1
      split at HA2
      · next x => exact fin pc arr H locs uc us r (some (.int x)) h HA2 (Or.inl ⟨x, rfl, hdec, Or.inl hret⟩) (fun _ _ => rfl) (Nat.le_refl _) (Nat.le_refl _) huc hus hP hD hS
      · exact HA2.elim
    · next hret =>
      obtain ⟨y, rfl, HA3⟩ := xm_e1_e HA1
      split at HA3
      · next x =>
        obtain ⟨hx01, HA4⟩ := xm_if HA3
        exact fin pc arr H locs uc us r (some (.int x)) h HA4 (Or.inl ⟨x, rfl, hdec, Or.inr ⟨hret, hx01⟩⟩) (fun _ _ => rfl) (Nat.le_refl _) (Nat.le_refl _) huc hus hP hD hS
      · exact HA3.elim
    · exact HA1.elim
  case lreturn =>
    have h1 : 1 = len := hlen
    subst h1
    have HA1 : (match S.2.2.2.1 with
      | some .long => xm_e1 st (fun y => match y with
        | .long x => P (some (.long x)) h
        | _ => False)
      | _ => False) := H0
    split at HA1
    · next hret =>
      obtain ⟨y, rfl, HA2⟩ := xm_e1_e HA1
      split at HA2
      · next x => exact fin pc arr H locs uc us r (some (.long x)) h HA2 (Or.inr (Or.inl ⟨x, rfl, hdec, hret⟩)) (fun _ _ => rfl) (Nat.le_refl _) (Nat.le_refl _) huc hus hP hD hS
      · exact HA2.elim
    · exact HA1.elim
  case areturn =>
    have h1 : 1 = len := hlen
    subst h1
    have HA1 : (match S.2.2.2.1 with
      | some (.object _) => xm_e1 st (fun y => match y with
        | .ref x => P (some (.ref x)) h
        | .null => P (some .null) h
        | _ => False)
      | _ => False) := H0
    split at HA1
    · next nm hret =>
      obtain ⟨y, rfl, HA2⟩ := xm_e1_e HA1
      split at HA2
      · next x => exact fin pc arr H locs uc us r (some (.ref x)) h HA2 (Or.inr (Or.inr (Or.inr ⟨nm, hret, hdec, Or.inr ⟨x, rfl⟩⟩))) (fun _ _ => rfl) (Nat.le_refl _) (Nat.le_refl _) huc hus hP hD hS
      · exact fin pc arr H locs uc us r (some .null) h HA2 (Or.inr (Or.inr (Or.inr ⟨nm, hret, hdec, Or.inl rfl⟩))) (fun _ _ => rfl) (Nat.le_refl _) (Nat.le_refl _) huc hus hP hD hS
      · exact HA2.elim
    · exact HA1.elim
  case return_ =>
    have h1 : 1 = len := hlen
    subst h1
    simp only [xm_wp] at H0
    split at H0
    · next hret =>
      split at H0
      · exact fin pc arr H locs uc us r none h H0 (Or.inr (Or.inr (Or.inl ⟨rfl, hdec, hret⟩))) (fun _ _ => rfl) (Nat.le_refl _) (Nat.le_refl _) huc hus hP hD hS
      · exact H0.elim
    · exact H0.elim
  all_goals exact H0.elim
end
section
def xm_cut (C : List xm_I) (k : Nat) : Option (List Nat) := match C[k]? with
  | some q => q.2.2.2.1
  | none => some []
/-- forgets all locals but these -/
def xm_kp (live : List Nat) (ls : List (Option Value)) : List (Option Value) := ls.mapIdx (fun i v => if live.contains i then v else none)
theorem xm_kp_lh {r : Nat → Nat} {arr : Array Slot} {nL : Nat} {ls : List (Option Value)} (live : List Nat) (h : xm_lh r arr nL ls) : xm_lh r arr nL (xm_kp live ls) := by
  refine ⟨by unfold xm_kp; rw [List.length_mapIdx]; exact h.1, h.2.1, h.2.2.1, fun i v hi => h.2.2.2 i v ?_⟩
  unfold xm_kp at hi
  rw [List.getElem?_mapIdx] at hi
  cases hl : ls[i]? with
  | none => rw [hl] at hi; cases hi
  | some q =>
    rw [hl] at hi
    have hi : (if live.contains i = true then q else none) = some v := Option.some.inj hi
    split at hi
    · rw [hi]
    · cases hi
theorem xm_kp_at {O : xm_O} {K : Nat} {S : xm_S} {own : String} {C : List xm_I} {k uc us : Nat} {ls : List (Option Value)} {st : List Value} {h : xm_H} {P : Option Value → xm_H → Prop} (live : List Nat) (H : xm_At O K S own C k uc us (xm_kp live ls) st h P) : xm_At O K S own C k uc us ls st h P := by
  intro p l e R s m args below meth c H' locs Q D cA r A arr h1 h2 h3 h4 h5 h6 h7 h8 h9
  exact H p l e R s m args below meth c H' locs Q D cA r A arr h1 h2 h3 h4 h5 h6 h7 (xm_kp_lh live h8) h9
/-- walks on from row k, n rows at most, up to rows that are marked -/
def xm_go (O : xm_O) (K : Nat) (S : xm_S) (own : String) (C : List xm_I) (P : Option Value → xm_H → Prop) : Nat → xm_K
  | 0 => fun k uc us ls st h => xm_At O K S own C k uc us ls st h P
  | n + 1 => fun k uc us ls st h => match C[k]? with
    | some q => xm_wp O K S q.2.1 q.2.2.2.2 k uc us ls st h P (fun k' uc' us' ls' st' h' => match xm_cut C k' with
      | some live => xm_At O K S own C k' uc' us' (xm_kp live ls') st' h' P
      | none => xm_go O K S own C P n k' uc' us' ls' st' h')
    | none => False
theorem xm_run {O : xm_O} (hO : ∀ j q, xm_st j = some q → O j = some q) {K : Nat} {S : xm_S} {own : String} {C : List xm_I} (hok : xm_ok S own C = true) {P : Option Value → xm_H → Prop} : ∀ (n k uc us : Nat) (ls : List (Option Value)) (st : List Value) (h : xm_H), xm_go O K S own C P n k uc us ls st h → xm_At O K S own C k uc us ls st h P := by
  intro n
  induction n with
  | zero => intro k uc us ls st h H; exact H
  | succ n ih =>
    intro k uc us ls st h H
    have H : (match C[k]? with
      | some q => xm_wp O K S q.2.1 q.2.2.2.2 k uc us ls st h P (fun k' uc' us' ls' st' h' => match xm_cut C k' with
        | some live => xm_At O K S own C k' uc' us' (xm_kp live ls') st' h' P
        | none => xm_go O K S own C P n k' uc' us' ls' st' h')
      | none => False) := H
    cases he : C[k]? with
    | none => rw [he] at H; exact H.elim
    | some q =>
      rw [he] at H
      obtain ⟨pc, i, len, b0, x⟩ := q
      refine xm_step hO hok he H ?_
      intro k' uc' us' ls' st' h' hg
      split at hg
      · exact xm_kp_at _ hg
      · exact ih _ _ _ _ _ _ hg
abbrev xm_L (K : Nat) (S : xm_S) (C : List xm_I) (k : Nat) (ls : List (Option Value)) (st : List Value) (h : xm_H) (P : Option Value → xm_H → Prop) : Prop := xm_At xm_st K S S.1.cls C k 0 0 ls st h P
/-! a method's start -/
def xm_l0 (av : List Value) : List (Option Value) := match av with
  | [] => []
  | .long x :: vs => some (.long x) :: none :: xm_l0 vs
  | .double x :: vs => some (.double x) :: none :: xm_l0 vs
  | v :: vs => some v :: xm_l0 vs
def xm_en (n : Nat) (av : List Value) : List (Option Value) := xm_l0 av ++ List.replicate (n - (xm_l0 av).length) none
theorem xm_l0_len (r : Nat → Nat) : ∀ av : List Value, (lg_sl (av.map (xm_v r))).length = (xm_l0 av).length
  | [] => rfl
  | v :: vs => by
    have ih := xm_l0_len r vs
    have h1 : lg_sl ((v :: vs).map (xm_v r)) = (if (xm_v r v).category = 2 then [.val (xm_v r v), .second] else [.val (xm_v r v)]) ++ lg_sl (vs.map (xm_v r)) := by
      unfold lg_sl; simp
    rw [h1, List.length_append, ih]
    cases v <;> simp [xm_l0, xm_v, Value.category] <;> omega
theorem xm_l0_mem (r : Nat → Nat) : ∀ (av : List Value) (b i : Nat) (v : Value), (xm_l0 av)[i]? = some (some v) → (b + i, xm_v r v) ∈ lv_args b (av.map (xm_v r))
  | [], b, i, v, h => by cases h
  | w :: vs, b, i, v, h => by
    have ih := xm_l0_mem r vs
    have h1 : lv_args b ((w :: vs).map (xm_v r)) = (b, xm_v r w) :: lv_args (if (xm_v r w).category = 2 then b + 2 else b + 1) (vs.map (xm_v r)) := rfl
    rw [h1]
    have key1 : xm_l0 (w :: vs) = some w :: xm_l0 vs → ¬ w.category = 2 → (b + i, xm_v r v) ∈ (b, xm_v r w) :: lv_args (if (xm_v r w).category = 2 then b + 2 else b + 1) (vs.map (xm_v r)) := by
      intro e hc
      rw [e] at h
      rw [if_neg (by rw [xm_v_cat]; exact hc)]
      cases i with
      | zero => cases h; exact List.mem_cons_self
      | succ i =>
        have := ih (b + 1) i v h
        rw [show b + (i + 1) = b + 1 + i by omega]
        exact List.mem_cons_of_mem _ this
    have key2 : xm_l0 (w :: vs) = some w :: none :: xm_l0 vs → w.category = 2 → (b + i, xm_v r v) ∈ (b, xm_v r w) :: lv_args (if (xm_v r w).category = 2 then b + 2 else b + 1) (vs.map (xm_v r)) := by
      intro e hc
      rw [e] at h
      rw [if_pos (by rw [xm_v_cat]; exact hc)]
      match i, h with
      | 0, h => cases h; exact List.mem_cons_self
      | 1, h => cases h
      | i + 2, h =>
        have := ih (b + 2) i v h
        rw [show b + (i + 2) = b + 2 + i by omega]
        exact List.mem_cons_of_mem _ this
    cases w <;> first | exact key1 rfl (by decide) | exact key2 rfl rfl | exact key1 rfl (fun e => by cases e)
theorem xm_en_lh (r : Nat → Nat) (av : List Value) (n : Nat) (hn : (xm_l0 av).length ≤ n) : xm_lh r ((lg_sl (av.map (xm_v r)) ++ List.replicate (n - (lg_sl (av.map (xm_v r))).length) Slot.unset).toArray) n (xm_en n av) := by
  have h1 := lv_entry (av.map (xm_v r)) (n := n) (by rw [xm_l0_len]; exact hn)
  refine ⟨by unfold xm_en; rw [List.length_append, List.length_replicate]; omega, h1.1, h1.2.1, fun i v hi => ?_⟩
  unfold xm_en at hi
  by_cases hl : i < (xm_l0 av).length
  · rw [List.getElem?_append_left hl] at hi
    have := xm_l0_mem r av 0 i v hi
    rw [Nat.zero_add] at this
    exact h1.2.2 _ this
  · rw [List.getElem?_append_right (by omega), List.getElem?_replicate] at hi
    split at hi <;> cases hi
theorem xm_ofW {l : Launch} {y : MethodName} {ws ws' : List Cond} {rm : Room} {Pc : Array Value → State → Prop} {Qc : Array Value → State → Outcome → State → Prop} {mc ms : Nat} {free : Addr → Prop} {cc : ByteArray} {maxL : Nat} {ret : Option FieldType} (hy : plainFor y = true) (hw : ws = Cond.code y cc maxL ret :: ws')
    (body : ∀ p e s m args below meth c s₁, BodyLoose p l y (headSpec ws rm) cc maxL ret e s m args below meth c s₁ → c.maxLocals = maxL → Pc args s → W p l e (headSpec ws rm).room s m args below meth c s.heap [] 0 0 (MQ below Qc args s mc ms free) (entryFrame m args maxL)) : Met l y ws rm Pc Qc mc ms free := by
  refine MetFree.of_bodySF (code := cc) (maxLocals := maxL) (ret := ret) hy (fun args s m h hn => ?_) (fun p e s m args below meth c s₁ B hml hP _ => ?_)
  · obtain ⟨meth, c, h1, h2, h3, h4, h5, h6, -, -⟩ := Cond.code_spec hn (atoms_spec (ws := ws) h _ (by rw [hw]; exact List.mem_cons_self))
    exact ⟨meth, c, h1, h2, h3, h4, h5, h6⟩
  · obtain ⟨t, a1, o, b1, b2, b3⟩ := body p e s m args below meth c s₁ B hml hP s₁ (by rw [B.state]; rfl) (Stand.of_body B)
    exact ⟨t, o, a1, b1, b2, ⟨b3.1, b3.2⟩⟩
set_option maxHeartbeats 1000000 in
theorem xm_enter {K : Nat} {S : xm_S} {C : List xm_I} (hpl : plainFor S.1 = true) (hp0 : xm_pc C 0 = 0) {av : List Value} (hn : (xm_l0 av).length ≤ S.2.2.1) {h : xm_H} {P : Option Value → xm_H → Prop} (H : xm_At xm_st K S S.1.cls C 0 0 0 (xm_en S.2.2.1 av) [] h P) : xm_Cw K S av h P := by
  intro l D cA r sz
  refine xm_ofW (cc := S.2.1) (maxL := S.2.2.1) (ret := S.2.2.2.1) hpl rfl ?_
  intro p e s m args below meth c s₁ B hml hv
  obtain ⟨rfl, hsz, hP, hK, hD0, ho⟩ := hv
  have hts := atoms_spec (ws := xm_ws S) B.pre
  subst hsz
  have hD := hD0.self (sz := s.heap.size)
  have hA : ∀ q : Nat, s.heap.size ≤ q → va_A (xm_w cA r h) s.heap.size q := fun q hq => Or.inr hq
  rw [lg_entry_eq]
  have hE : xm_En K S S.1.cls p (headSpec (xm_ws S) (xm_rm K S)).room s m (av.map (xm_v r)).toArray meth c :=
    ⟨B.exec, B.bytes, B.returns, hml, findClass_of_methodNamed B.named, fun w hw => hts w (List.mem_cons_of_mem _ hw), B.notSynchronized, fun hi => (name_of_methodNamed B.named B.method).1.trans hi, Nat.le_refl _, Nat.le_refl _, Nat.le_refl _, Nat.le_refl _⟩
  have hW := H p l e (headSpec (xm_ws S) (xm_rm K S)).room s m (av.map (xm_v r)).toArray below meth c s.heap [] (MQ below (fun _ st oc t => xm_Post D cA r s.heap.size S.2.2.2.2.1 h P st oc t) (av.map (xm_v r)).toArray s S.2.2.2.2.1 S.2.2.2.2.2 (va_A (xm_w cA r h) s.heap.size)) D cA r (va_A (xm_w cA r h) s.heap.size) _ hE hK hA ho hP hD va_S.rf (xm_en_lh r av S.2.2.1 hn) ?_ (Nat.zero_le _) (Nat.zero_le _)
  · rw [hp0] at hW
    exact hW
  · intro pc' arr' H' locs' uc' us' r' v h' hPv hrt hag hle hcu hu1 hu2 hP' hD' hS'
    refine W.widen (k := S.2.2.2.2.1) (n := S.2.2.2.2.2) hu1 hu2 ?_
    have hq : ∀ t : State, t.heap = H' → s.WarmedH t.vm → xm_Post D cA r s.heap.size S.2.2.2.2.1 h P s (.returned (v.map (xm_v r'))) t := fun t ht _ => ⟨⟨r', v, h', rfl, hPv, hag, hle, by omega, by rw [ht]; exact hP', hD'⟩, hS'.F ht⟩
    rcases hrt with ⟨x, rfl, hd, hr⟩ | ⟨x, rfl, hd, hr⟩ | ⟨rfl, hd, hr⟩ | ⟨n, hr, hd, hv⟩
    · rcases hr with hr | ⟨hr, hx01⟩
      · exact W.iret B.exec B.bytes (B.returns.trans hr) hq hS'.2.2 hd B.notSynchronized
      · exact W.zret B.exec B.bytes (B.returns.trans hr) (xm_nb hx01) hq hS'.2.2 hd B.notSynchronized
    · exact W.lret B.exec B.bytes (B.returns.trans hr) hq hS'.2.2 hd B.notSynchronized
    · exact W.vret B.exec B.bytes (B.returns.trans hr) hq hS'.2.2 hd B.notSynchronized
    · rcases hv with rfl | ⟨a, rfl⟩
      · exact W.aret (v := .null) B.exec B.bytes (B.returns.trans hr) (Or.inl ⟨_, rfl⟩) (Or.inl rfl) hq hS'.2.2 hd B.notSynchronized
      · exact W.aret (v := .ref (r' a)) B.exec B.bytes (B.returns.trans hr) (Or.inl ⟨_, rfl⟩) (Or.inr ⟨_, rfl⟩) hq hS'.2.2 hd B.notSynchronized
/-- a call's contract out of the walk -/
theorem xm_call_of {K K' : Nat} {S : xm_S} {C : List xm_I} (hK : K < K') (hpl : plainFor S.1 = true) (hp0 : xm_pc C 0 = 0) {ro : Nat} {av : List Value} (hn : (xm_l0 av).length ≤ S.2.2.1) {h : xm_H} {P : Option Value → xm_H → Prop} (hro : ro = 99 ∨ ∃ (b : Nat) (fs : List Value), av.head? = some (.ref b) ∧ h[b]? = some (.inr (ro, fs))) (H : xm_At xm_st K S S.1.cls C 0 0 0 (xm_en S.2.2.1 av) [] h P) : xm_Call K' S ro av h P := ⟨hro, K, hK, xm_enter hpl hp0 hn H⟩
/-! rows of tables -/
abbrev xm_no : xm_S := (⟨"", "", ""⟩, ⟨#[]⟩, 0, none, 0, 0)
abbrev i_0 (pc : Nat) (i : Instr) (len : Nat) (c : Option (List Nat)) : xm_I := (pc, i, len, c, 0, 0, [], 0, 0, [], xm_no)
abbrev i_v (pc : Nat) (i : Instr) (len : Nat) (c : Option (List Nat)) (v : Int32) (pl : List Nat) : xm_I := (pc, i, len, c, 0, 0, pl, v, 0, [], xm_no)
abbrev i_w (pc : Nat) (i : Instr) (len : Nat) (c : Option (List Nat)) (w : Int64) (pl : List Nat) : xm_I := (pc, i, len, c, 0, 0, pl, 0, w, [], xm_no)
abbrev i_j (pc : Nat) (i : Instr) (len : Nat) (c : Option (List Nat)) (a : Nat) : xm_I := (pc, i, len, c, a, 0, [], 0, 0, [], xm_no)
abbrev i_s (pc : Nat) (i : Instr) (len : Nat) (c : Option (List Nat)) (a : Nat) (sw : List (Int32 × Nat)) : xm_I := (pc, i, len, c, a, 0, [], 0, 0, sw, xm_no)
abbrev i_f (pc : Nat) (i : Instr) (len : Nat) (c : Option (List Nat)) (a b : Nat) (pl : List Nat) (v : Int32) : xm_I := (pc, i, len, c, a, b, pl, v, 0, [], xm_no)
abbrev i_m (pc : Nat) (i : Instr) (len : Nat) (c : Option (List Nat)) (a b : Nat) (pl : List Nat) (v : Int32) (T : xm_S) : xm_I := (pc, i, len, c, a, b, pl, v, 0, [], T)
end
section
def sX0_init : xm_S := (yX0_init, cX0_init, 1, none, 2, 40)
def sX0_readTwos : xm_S := (yX0_readTwos, cX0_readTwos, 6, none, 0, 0)
def sX0_firstWrong : xm_S := (yX0_firstWrong, cX0_firstWrong, 4, some .int, 0, 0)
def sX1_init : xm_S := (yX1_init, cX1_init, 1, none, 2, 74)
def sX1_has : xm_S := (yX1_has, cX1_has, 2, some .boolean, 0, 0)
def sX1_add : xm_S := (yX1_add, cX1_add, 2, some .boolean, 0, 0)
def sX1_isUnder : xm_S := (yX1_isUnder, cX1_isUnder, 5, some .boolean, 0, 0)
def sX1_ownerOf : xm_S := (yX1_ownerOf, cX1_ownerOf, 5, some .int, 0, 0)
def sX1_begin : xm_S := (yX1_begin, cX1_begin, 2, none, 0, 0)
def sX1_start : xm_S := (yX1_start, cX1_start, 4, some .int, 0, 0)
def sX1_perform : xm_S := (yX1_perform, cX1_perform, 9, some .int, 0, 0)
def sX1_again : xm_S := (yX1_again, cX1_again, 4, some .int, 0, 0)
def sX2_init : xm_S := (yX2_init, cX2_init, 1, none, 3, 120)
def sX2_note : xm_S := (yX2_note, cX2_note, 4, none, 0, 0)
def sX2_forgetOldest : xm_S := (yX2_forgetOldest, cX2_forgetOldest, 1, none, 0, 0)
def sX2_stepBack : xm_S := (yX2_stepBack, cX2_stepBack, 2, none, 0, 0)
def sX2_stepOn : xm_S := (yX2_stepOn, cX2_stepOn, 2, none, 0, 0)
def sX2_lay : xm_S := (yX2_lay, cX2_lay, 3, none, 0, 0)
def sX3_init : xm_S := (yX3_init, cX3_init, 1, none, 2, 248)
def sX3_hold : xm_S := (yX3_hold, cX3_hold, 2, some .boolean, 0, 0)
def sX3_next : xm_S := (yX3_next, cX3_next, 1, some .int, 0, 0)
def sX3_accept : xm_S := (yX3_accept, cX3_accept, 2, some .boolean, 0, 0)
def sX3_emit : xm_S := (yX3_emit, cX3_emit, 2, none, 0, 0)
def sX3_readText : xm_S := (yX3_readText, cX3_readText, 2, some .boolean, 0, 0)
def sX3_readLine : xm_S := (yX3_readLine, cX3_readLine, 2, some .boolean, 0, 0)
def sX3_readRung : xm_S := (yX3_readRung, cX3_readRung, 6, some .boolean, 0, 0)
def sX3_rungOf : xm_S := (yX3_rungOf, cX3_rungOf, 1, some .int, 0, 0)
def sX3_readOperand : xm_S := (yX3_readOperand, cX3_readOperand, 4, some .boolean, 0, 0)
def sX3_nameOf : xm_S := (yX3_nameOf, cX3_nameOf, 1, some .int, 0, 0)
def sX3_isDigit : xm_S := (yX3_isDigit, cX3_isDigit, 1, some .boolean, 0, 0)
def sX3_readNumber : xm_S := (yX3_readNumber, cX3_readNumber, 3, none, 0, 0)
def sX4_init : xm_S := (yX4_init, cX4_init, 1, none, 7, 289)
def sX4_isSaid : xm_S := (yX4_isSaid, cX4_isSaid, 1, some .boolean, 0, 0)
def sX4_isGone : xm_S := (yX4_isGone, cX4_isGone, 1, some .boolean, 0, 0)
def sX4_look : xm_S := (yX4_look, cX4_look, 4, none, 0, 0)
def sX4_countsOf : xm_S := (yX4_countsOf, cX4_countsOf, 4, some .int, 0, 0)
def sX4_weigh : xm_S := (yX4_weigh, cX4_weigh, 4, none, 0, 0)
def sX4_shareOut : xm_S := (yX4_shareOut, cX4_shareOut, 4, none, 0, 0)
def sX4_reckon : xm_S := (yX4_reckon, cX4_reckon, 2, none, 0, 0)
def sX4_shareOf : xm_S := (yX4_shareOf, cX4_shareOf, 2, some .int, 0, 0)
def sX4_worthOf : xm_S := (yX4_worthOf, cX4_worthOf, 3, some .int, 0, 0)
def sX4_gainOf : xm_S := (yX4_gainOf, cX4_gainOf, 5, some .int, 0, 0)
def sX4_endYear : xm_S := (yX4_endYear, cX4_endYear, 6, none, 0, 0)
def sX5_init : xm_S := (yX5_init, cX5_init, 1, none, 1, 60)
def sX5_holdRow : xm_S := (yX5_holdRow, cX5_holdRow, 4, none, 0, 0)
def sX5_refusalAt : xm_S := (yX5_refusalAt, cX5_refusalAt, 2, some .int, 0, 0)
def sX5_hasPlaces : xm_S := (yX5_hasPlaces, cX5_hasPlaces, 3, some .boolean, 0, 0)
def sX5_get : xm_S := (yX5_get, cX5_get, 2, some .long, 0, 0)
def sX5_set : xm_S := (yX5_set, cX5_set, 4, none, 0, 0)
def sX5_lowest : xm_S := (yX5_lowest, cX5_lowest, 3, some .long, 0, 0)
def sX6_init : xm_S := (yX6_init, cX6_init, 1, none, 2, 256)
def sX6_isEmpty : xm_S := (yX6_isEmpty, cX6_isEmpty, 1, some .boolean, 0, 0)
def sX6_become : xm_S := (yX6_become, cX6_become, 3, none, 0, 0)
def sX6_workOut : xm_S := (yX6_workOut, cX6_workOut, 6, some .int, 0, 0)
def sX6_combine : xm_S := (yX6_combine, cX6_combine, 3, some .int, 0, 0)
def sX7_init : xm_S := (yX7_init, cX7_init, 2, none, 1, 67)
def sX7_has : xm_S := (yX7_has, cX7_has, 2, some .boolean, 0, 0)
def sX7_cellOf : xm_S := (yX7_cellOf, cX7_cellOf, 3, some .int, 0, 0)
def sX7_get : xm_S := (yX7_get, cX7_get, 4, some .int, 0, 0)
def sX7_set : xm_S := (yX7_set, cX7_set, 5, none, 0, 0)
def sX7_snow : xm_S := (yX7_snow, cX7_snow, 1, some .int, 0, 0)
def sX7_setSnow : xm_S := (yX7_setSnow, cX7_setSnow, 2, none, 0, 0)
def sX7_join : xm_S := (yX7_join, cX7_join, 5, some .boolean, 0, 0)
def sX7_copy : xm_S := (yX7_copy, cX7_copy, 2, none, 0, 0)
def sX7_ears : xm_S := (yX7_ears, cX7_ears, 3, some .int, 0, 0)
def sX8_init : xm_S := (yX8_init, cX8_init, 2, none, 43, 2433)
def sX8_person : xm_S := (yX8_person, cX8_person, 4, some .int, 0, 0)
def sX8_people : xm_S := (yX8_people, cX8_people, 7, some .int, 0, 0)
def sX8_joinFromRow : xm_S := (yX8_joinFromRow, cX8_joinFromRow, 6, some .boolean, 0, 0)
def sX8_mend : xm_S := (yX8_mend, cX8_mend, 6, some .int, 0, 0)
def sX8_of : xm_S := (yX8_of, cX8_of, 4, some .int, 0, 0)
def sX8_feed : xm_S := (yX8_feed, cX8_feed, 2, some .int, 0, 0)
def sX8_law : xm_S := (yX8_law, cX8_law, 2, some .int, 0, 0)
def sX8_counts : xm_S := (yX8_counts, cX8_counts, 2, some .int, 0, 0)
def sX8_bill : xm_S := (yX8_bill, cX8_bill, 2, some .int, 0, 0)
def sX8_share : xm_S := (yX8_share, cX8_share, 2, some .int, 0, 0)
def sX8_worth : xm_S := (yX8_worth, cX8_worth, 2, some .int, 0, 0)
def sX8_best : xm_S := (yX8_best, cX8_best, 7, some .int, 0, 0)
def sX8_worthBy : xm_S := (yX8_worthBy, cX8_worthBy, 3, some .int, 0, 0)
def sX8_atRest : xm_S := (yX8_atRest, cX8_atRest, 4, some .int, 0, 0)
def sX8_rest : xm_S := (yX8_rest, cX8_rest, 5, some .int, 0, 0)
def sX8_habitIn : xm_S := (yX8_habitIn, cX8_habitIn, 3, some .int, 0, 0)
def sX8_placeIn : xm_S := (yX8_placeIn, cX8_placeIn, 2, some .int, 0, 0)
def sX8_fillWorths : xm_S := (yX8_fillWorths, cX8_fillWorths, 4, none, 0, 0)
def sX8_setWorthIn : xm_S := (yX8_setWorthIn, cX8_setWorthIn, 5, none, 0, 0)
def sX8_worthIn : xm_S := (yX8_worthIn, cX8_worthIn, 4, some .int, 0, 0)
def sX8_isRowAtRest : xm_S := (yX8_isRowAtRest, cX8_isRowAtRest, 6, some .boolean, 0, 0)
def sX8_freeRate : xm_S := (yX8_freeRate, cX8_freeRate, 2, some .int, 0, 0)
def sX8_nobodyStaysGladly : xm_S := (yX8_nobodyStaysGladly, cX8_nobodyStaysGladly, 4, some .boolean, 0, 0)
def sX8_pool : xm_S := (yX8_pool, cX8_pool, 3, some .int, 0, 0)
def sX8_pooled : xm_S := (yX8_pooled, cX8_pooled, 5, some .int, 0, 0)
def sX8_spared : xm_S := (yX8_spared, cX8_spared, 5, some .int, 0, 0)
def sX8_later : xm_S := (yX8_later, cX8_later, 8, some .int, 0, 0)
def sX8_broke : xm_S := (yX8_broke, cX8_broke, 3, some .int, 0, 0)
def sX8_thrift : xm_S := (yX8_thrift, cX8_thrift, 8, some .int, 0, 0)
def sX8_purseBy : xm_S := (yX8_purseBy, cX8_purseBy, 5, some .int, 0, 0)
def sX8_judge : xm_S := (yX8_judge, cX8_judge, 4, some .int, 0, 0)
def sX8_readBilled : xm_S := (yX8_readBilled, cX8_readBilled, 3, some .int, 0, 0)
def sX8_fits : xm_S := (yX8_fits, cX8_fits, 6, some .int, 0, 0)
def sX8_isAllSo : xm_S := (yX8_isAllSo, cX8_isAllSo, 1, some .boolean, 0, 0)
def sX8_fittingOf : xm_S := (yX8_fittingOf, cX8_fittingOf, 5, some .int, 0, 0)
def sX8_fittingSnows : xm_S := (yX8_fittingSnows, cX8_fittingSnows, 4, some .int, 0, 0)
def sX8_fittingEars : xm_S := (yX8_fittingEars, cX8_fittingEars, 4, some .int, 0, 0)
def sX8_said : xm_S := (yX8_said, cX8_said, 2, some .int, 0, 0)
def sX8_leastSaid : xm_S := (yX8_leastSaid, cX8_leastSaid, 4, some .int, 0, 0)
def sX8_thinkSilent : xm_S := (yX8_thinkSilent, cX8_thinkSilent, 3, none, 0, 0)
def sX8_dearest : xm_S := (yX8_dearest, cX8_dearest, 4, some .int, 0, 0)
def sX8_alike : xm_S := (yX8_alike, cX8_alike, 5, some .int, 0, 0)
def sX8_byTurns : xm_S := (yX8_byTurns, cX8_byTurns, 9, some .int, 0, 0)
def sX8_shareBehind : xm_S := (yX8_shareBehind, cX8_shareBehind, 8, some .int, 0, 0)
def sX8_drawn : xm_S := (yX8_drawn, cX8_drawn, 12, some .int, 0, 0)
def sX8_stir : xm_S := (yX8_stir, cX8_stir, 3, none, 0, 0)
def sX8_takes : xm_S := (yX8_takes, cX8_takes, 4, some .int, 0, 0)
def sX8_hears : xm_S := (yX8_hears, cX8_hears, 4, some .int, 0, 0)
def sX8_year : xm_S := (yX8_year, cX8_year, 1, some .int, 0, 0)
def sX8_gives : xm_S := (yX8_gives, cX8_gives, 6, some .int, 0, 0)
def sX8_led : xm_S := (yX8_led, cX8_led, 2, some .int, 0, 0)
def sX8_image : xm_S := (yX8_image, cX8_image, 1, some .int, 0, 0)
def sX8_back : xm_S := (yX8_back, cX8_back, 2, some .int, 0, 0)
def sX8_undo : xm_S := (yX8_undo, cX8_undo, 1, some .int, 0, 0)
def sX8_redo : xm_S := (yX8_redo, cX8_redo, 1, some .int, 0, 0)
def sX8_body : xm_S := (yX8_body, cX8_body, 2, some .int, 0, 0)
def sX8_act : xm_S := (yX8_act, cX8_act, 4, some .int, 0, 0)
def sX8_trace : xm_S := (yX8_trace, cX8_trace, 2, some .int, 0, 0)
def sX8_keep : xm_S := (yX8_keep, cX8_keep, 4, some .int, 0, 0)
def sX8_row : xm_S := (yX8_row, cX8_row, 5, some .int, 0, 0)
def sX8_put : xm_S := (yX8_put, cX8_put, 7, some .int, 0, 0)
def sX8_element : xm_S := (yX8_element, cX8_element, 4, some .long, 0, 0)
def sX8_shift : xm_S := (yX8_shift, cX8_shift, 8, some .int, 0, 0)
def sX8_taken : xm_S := (yX8_taken, cX8_taken, 5, some .int, 0, 0)
def sX8_count : xm_S := (yX8_count, cX8_count, 2, some .int, 0, 0)
def sX8_howManyAssessed : xm_S := (yX8_howManyAssessed, cX8_howManyAssessed, 3, some .int, 0, 0)
def sX8_isWithin : xm_S := (yX8_isWithin, cX8_isWithin, 2, some .boolean, 0, 0)
def sX8_isKind : xm_S := (yX8_isKind, cX8_isKind, 1, some .boolean, 0, 0)
def sX8_shelfAt : xm_S := (yX8_shelfAt, cX8_shelfAt, 2, some (.object "PassBill$Shelf"), 0, 0)
def sX9_init : xm_S := (yX9_init, cX9_init, 1, none, 36, 1847)
def sX9_in : xm_S := (yX9_in, cX9_in, 3, some .boolean, 0, 0)
def sX9_has : xm_S := (yX9_has, cX9_has, 2, some .boolean, 0, 0)
def sX9_bitsOf : xm_S := (yX9_bitsOf, cX9_bitsOf, 3, some .int, 0, 0)
def sX9_isOne : xm_S := (yX9_isOne, cX9_isOne, 2, some .boolean, 0, 0)
def sX9_addOne : xm_S := (yX9_addOne, cX9_addOne, 4, some .int, 0, 0)
def sX9_person : xm_S := (yX9_person, cX9_person, 2, some .int, 0, 0)
def sX9_people : xm_S := (yX9_people, cX9_people, 8, some .int, 0, 0)
def sX9_valueAt : xm_S := (yX9_valueAt, cX9_valueAt, 3, some .int, 0, 0)
def sX9_lays : xm_S := (yX9_lays, cX9_lays, 4, none, 0, 0)
def sX9_changes : xm_S := (yX9_changes, cX9_changes, 6, some .int, 0, 0)
def sX9_undo : xm_S := (yX9_undo, cX9_undo, 1, some .int, 0, 0)
def sX9_redo : xm_S := (yX9_redo, cX9_redo, 1, some .int, 0, 0)
def sX9_isPlace : xm_S := (yX9_isPlace, cX9_isPlace, 3, some .boolean, 0, 0)
def sX9_mayHave : xm_S := (yX9_mayHave, cX9_mayHave, 2, some .boolean, 0, 0)
def sX9_mend : xm_S := (yX9_mend, cX9_mend, 4, some .int, 0, 0)
def sX9_of : xm_S := (yX9_of, cX9_of, 3, some .int, 0, 0)
def sX9_feed : xm_S := (yX9_feed, cX9_feed, 2, some .int, 0, 0)
def sX9_look : xm_S := (yX9_look, cX9_look, 1, some .int, 0, 0)
def sX9_wrong : xm_S := (yX9_wrong, cX9_wrong, 1, none, 0, 0)
def sX9_addStep : xm_S := (yX9_addStep, cX9_addStep, 3, none, 0, 0)
def sX9_nameOf : xm_S := (yX9_nameOf, cX9_nameOf, 1, some .int, 0, 0)
def sX9_opens : xm_S := (yX9_opens, cX9_opens, 1, some .boolean, 0, 0)
def sX9_figure : xm_S := (yX9_figure, cX9_figure, 3, none, 0, 0)
def sX9_operand : xm_S := (yX9_operand, cX9_operand, 2, none, 0, 0)
def sX9_product : xm_S := (yX9_product, cX9_product, 2, none, 0, 0)
def sX9_sum : xm_S := (yX9_sum, cX9_sum, 2, none, 0, 0)
def sX9_compared : xm_S := (yX9_compared, cX9_compared, 2, none, 0, 0)
def sX9_both : xm_S := (yX9_both, cX9_both, 1, none, 0, 0)
def sX9_either : xm_S := (yX9_either, cX9_either, 1, none, 0, 0)
def sX9_line : xm_S := (yX9_line, cX9_line, 2, none, 0, 0)
def sX9_readText : xm_S := (yX9_readText, cX9_readText, 3, some .int, 0, 0)
def sX9_twoOf : xm_S := (yX9_twoOf, cX9_twoOf, 3, some .int, 0, 0)
def sX9_worked : xm_S := (yX9_worked, cX9_worked, 7, some .int, 0, 0)
def sX9_givesText : xm_S := (yX9_givesText, cX9_givesText, 4, some .int, 0, 0)
def sX9_law : xm_S := (yX9_law, cX9_law, 2, some .int, 0, 0)
def sX9_laySnow : xm_S := (yX9_laySnow, cX9_laySnow, 1, none, 0, 0)
def sX9_layNow : xm_S := (yX9_layNow, cX9_layNow, 2, none, 0, 0)
def sX9_says : xm_S := (yX9_says, cX9_says, 2, some .boolean, 0, 0)
def sX9_leaves : xm_S := (yX9_leaves, cX9_leaves, 2, some .boolean, 0, 0)
def sX9_othersSay : xm_S := (yX9_othersSay, cX9_othersSay, 4, some .int, 0, 0)
def sX9_leaving : xm_S := (yX9_leaving, cX9_leaving, 3, some .int, 0, 0)
def sX9_countsBy : xm_S := (yX9_countsBy, cX9_countsBy, 3, some .int, 0, 0)
def sX9_counts : xm_S := (yX9_counts, cX9_counts, 2, some .int, 0, 0)
def sX9_assess : xm_S := (yX9_assess, cX9_assess, 2, none, 0, 0)
def sX9_theBill : xm_S := (yX9_theBill, cX9_theBill, 1, some .int, 0, 0)
def sX9_shareOf : xm_S := (yX9_shareOf, cX9_shareOf, 2, some .int, 0, 0)
def sX9_sharesOf : xm_S := (yX9_sharesOf, cX9_sharesOf, 4, some .int, 0, 0)
def sX9_everybody : xm_S := (yX9_everybody, cX9_everybody, 1, some .int, 0, 0)
def sX9_bill : xm_S := (yX9_bill, cX9_bill, 2, some .int, 0, 0)
def sX9_shareNow : xm_S := (yX9_shareNow, cX9_shareNow, 2, some .int, 0, 0)
def sX9_share : xm_S := (yX9_share, cX9_share, 2, some .int, 0, 0)
def sX9_worthBy : xm_S := (yX9_worthBy, cX9_worthBy, 3, some .int, 0, 0)
def sX9_worth : xm_S := (yX9_worth, cX9_worth, 2, some .int, 0, 0)
def sX9_worthWith : xm_S := (yX9_worthWith, cX9_worthWith, 5, some .int, 0, 0)
def sX9_bestHabit : xm_S := (yX9_bestHabit, cX9_bestHabit, 4, some .int, 0, 0)
def sX9_best : xm_S := (yX9_best, cX9_best, 4, some .int, 0, 0)
def sX9_areAtRest : xm_S := (yX9_areAtRest, cX9_areAtRest, 2, some .boolean, 0, 0)
def sX9_atRest : xm_S := (yX9_atRest, cX9_atRest, 1, some .int, 0, 0)
def sX9_goRest : xm_S := (yX9_goRest, cX9_goRest, 3, none, 0, 0)
def sX9_rest : xm_S := (yX9_rest, cX9_rest, 2, some .int, 0, 0)
def sX9_isFree : xm_S := (yX9_isFree, cX9_isFree, 2, some .boolean, 0, 0)
def sX9_freeRate : xm_S := (yX9_freeRate, cX9_freeRate, 2, some .int, 0, 0)
def sX9_pooledBy : xm_S := (yX9_pooledBy, cX9_pooledBy, 3, some .int, 0, 0)
def sX9_pool : xm_S := (yX9_pool, cX9_pool, 3, some .int, 0, 0)
def sX9_assessedBits : xm_S := (yX9_assessedBits, cX9_assessedBits, 3, some .int, 0, 0)
def sX9_spared : xm_S := (yX9_spared, cX9_spared, 4, some .int, 0, 0)
def sX9_goYear : xm_S := (yX9_goYear, cX9_goYear, 4, none, 0, 0)
def sX9_goYears : xm_S := (yX9_goYears, cX9_goYears, 3, none, 0, 0)
def sX9_later : xm_S := (yX9_later, cX9_later, 4, some .int, 0, 0)
def sX9_broke : xm_S := (yX9_broke, cX9_broke, 3, some .int, 0, 0)
def sX9_purseWith : xm_S := (yX9_purseWith, cX9_purseWith, 4, some .int, 0, 0)
def sX9_thrift : xm_S := (yX9_thrift, cX9_thrift, 8, some .int, 0, 0)
def sX9_rowFault : xm_S := (yX9_rowFault, cX9_rowFault, 2, some .int, 0, 0)
def sX9_at : xm_S := (yX9_at, cX9_at, 3, some .int, 0, 0)
def sX9_isTwo : xm_S := (yX9_isTwo, cX9_isTwo, 3, some .boolean, 0, 0)
def sX9_wrongTwo : xm_S := (yX9_wrongTwo, cX9_wrongTwo, 3, some .int, 0, 0)
def sX9_judge : xm_S := (yX9_judge, cX9_judge, 2, some .int, 0, 0)
def sX9_habitBits : xm_S := (yX9_habitBits, cX9_habitBits, 5, some .int, 0, 0)
def sX9_kindBits : xm_S := (yX9_kindBits, cX9_kindBits, 6, some .int, 0, 0)
def sX9_snowsOf : xm_S := (yX9_snowsOf, cX9_snowsOf, 6, some .int, 0, 0)
def sX9_earsOf : xm_S := (yX9_earsOf, cX9_earsOf, 7, some .int, 0, 0)
def sX9_fits : xm_S := (yX9_fits, cX9_fits, 4, some .int, 0, 0)
def sX9_leastSaid : xm_S := (yX9_leastSaid, cX9_leastSaid, 4, some .int, 0, 0)
def sX9_dearest : xm_S := (yX9_dearest, cX9_dearest, 3, some .int, 0, 0)
def sX9_alike : xm_S := (yX9_alike, cX9_alike, 4, some .int, 0, 0)
def sX9_said : xm_S := (yX9_said, cX9_said, 2, some .int, 0, 0)
def sX9_byPick : xm_S := (yX9_byPick, cX9_byPick, 6, some .int, 0, 0)
def sX9_bestOf : xm_S := (yX9_bestOf, cX9_bestOf, 7, some .int, 0, 0)
def sX9_byTurns : xm_S := (yX9_byTurns, cX9_byTurns, 6, some .int, 0, 0)
def sX9_drawn : xm_S := (yX9_drawn, cX9_drawn, 9, some .int, 0, 0)
def sX9_takes : xm_S := (yX9_takes, cX9_takes, 4, some .int, 0, 0)
def sX9_hears : xm_S := (yX9_hears, cX9_hears, 4, some .int, 0, 0)
def sX9_year : xm_S := (yX9_year, cX9_year, 2, some .int, 0, 0)
def sX9_gives : xm_S := (yX9_gives, cX9_gives, 4, some .int, 0, 0)
def sX9_led : xm_S := (yX9_led, cX9_led, 2, some .int, 0, 0)
def sX9_image : xm_S := (yX9_image, cX9_image, 2, some .int, 0, 0)
def sX9_back : xm_S := (yX9_back, cX9_back, 2, some .int, 0, 0)
def sX9_assessedMany : xm_S := (yX9_assessedMany, cX9_assessedMany, 1, some .int, 0, 0)
def sX9_isBody : xm_S := (yX9_isBody, cX9_isBody, 2, some .boolean, 0, 0)
def sX9_ran : xm_S := (yX9_ran, cX9_ran, 2, none, 0, 0)
def sX9_trace : xm_S := (yX9_trace, cX9_trace, 2, some .int, 0, 0)
def sX9_body : xm_S := (yX9_body, cX9_body, 2, some .int, 0, 0)
def sX9_isUnder : xm_S := (yX9_isUnder, cX9_isUnder, 2, some .boolean, 0, 0)
def sX9_plainSays : xm_S := (yX9_plainSays, cX9_plainSays, 3, some .int, 0, 0)
def sX9_nightSays : xm_S := (yX9_nightSays, cX9_nightSays, 3, some .int, 0, 0)
def sX9_saying : xm_S := (yX9_saying, cX9_saying, 3, some .int, 0, 0)
def sX9_plainCounts : xm_S := (yX9_plainCounts, cX9_plainCounts, 3, some .int, 0, 0)
def sX9_sighCounts : xm_S := (yX9_sighCounts, cX9_sighCounts, 3, some .int, 0, 0)
def sX9_counting : xm_S := (yX9_counting, cX9_counting, 4, some .int, 0, 0)
def sX9_plainGoes : xm_S := (yX9_plainGoes, cX9_plainGoes, 3, some .int, 0, 0)
def sX9_sleepGoes : xm_S := (yX9_sleepGoes, cX9_sleepGoes, 3, some .int, 0, 0)
def sX9_going : xm_S := (yX9_going, cX9_going, 4, some .int, 0, 0)
def sX9_plainTells : xm_S := (yX9_plainTells, cX9_plainTells, 4, some .int, 0, 0)
def sX9_telling : xm_S := (yX9_telling, cX9_telling, 3, some .int, 0, 0)
def sX9_act : xm_S := (yX9_act, cX9_act, 4, some .int, 0, 0)
def sX9_count : xm_S := (yX9_count, cX9_count, 2, some .int, 0, 0)
def sX9_isShelf : xm_S := (yX9_isShelf, cX9_isShelf, 1, some .boolean, 0, 0)
def sX9_keep : xm_S := (yX9_keep, cX9_keep, 3, some .int, 0, 0)
def sX9_row : xm_S := (yX9_row, cX9_row, 5, some .int, 0, 0)
def sX9_whyNoPlace : xm_S := (yX9_whyNoPlace, cX9_whyNoPlace, 3, some .int, 0, 0)
def sX9_put : xm_S := (yX9_put, cX9_put, 7, some .int, 0, 0)
def sX9_element : xm_S := (yX9_element, cX9_element, 3, some .long, 0, 0)
def sX9_shift : xm_S := (yX9_shift, cX9_shift, 7, some .int, 0, 0)
def sX9_taken : xm_S := (yX9_taken, cX9_taken, 3, some .int, 0, 0)
def sJ6_bitCount_0f7a4 : xm_S := (yJ6_bitCount_0f7a4, cJ6_bitCount_0f7a4, 1, some .int, 0, 0)
def sJ9_floorMod_7cf53 : xm_S := (yJ9_floorMod_7cf53, cJ9_floorMod_7cf53, 3, some .int, 0, 0)
def sJ9_max_7cf53 : xm_S := (yJ9_max_7cf53, cJ9_max_7cf53, 2, some .int, 0, 0)
def sJ9_min_7cf53 : xm_S := (yJ9_min_7cf53, cJ9_min_7cf53, 2, some .int, 0, 0)
end
section
def kJ6_bitCount_0f7a4 : List xm_I := [
  i_0 0 (.iload_n 0) 1 none,
  i_0 1 (.iload_n 0) 1 none,
  i_v 2 (.iconst 1) 1 none 1 [],
  i_0 3 (.iushr) 1 none,
  i_v 4 (.ldc_w 265) 3 none 1431655765 [732],
  i_0 7 (.iand) 1 none,
  i_0 8 (.isub) 1 none,
  i_0 9 (.istore_n 0) 1 none,
  i_0 10 (.iload_n 0) 1 none,
  i_v 11 (.ldc_w 266) 3 none 858993459 [733],
  i_0 14 (.iand) 1 none,
  i_0 15 (.iload_n 0) 1 none,
  i_v 16 (.iconst 2) 1 none 2 [],
  i_0 17 (.iushr) 1 none,
  i_v 18 (.ldc_w 266) 3 none 858993459 [733],
  i_0 21 (.iand) 1 none,
  i_0 22 (.iadd) 1 none,
  i_0 23 (.istore_n 0) 1 none,
  i_0 24 (.iload_n 0) 1 none,
  i_0 25 (.iload_n 0) 1 none,
  i_v 26 (.iconst 4) 1 none 4 [],
  i_0 27 (.iushr) 1 none,
  i_0 28 (.iadd) 1 none,
  i_v 29 (.ldc_w 267) 3 none 252645135 [734],
  i_0 32 (.iand) 1 none,
  i_0 33 (.istore_n 0) 1 none,
  i_0 34 (.iload_n 0) 1 none,
  i_0 35 (.iload_n 0) 1 none,
  i_v 36 (.bipush 8) 2 none 8 [],
  i_0 38 (.iushr) 1 none,
  i_0 39 (.iadd) 1 none,
  i_0 40 (.istore_n 0) 1 none,
  i_0 41 (.iload_n 0) 1 none,
  i_0 42 (.iload_n 0) 1 none,
  i_v 43 (.bipush 16) 2 none 16 [],
  i_0 45 (.iushr) 1 none,
  i_0 46 (.iadd) 1 none,
  i_0 47 (.istore_n 0) 1 none,
  i_0 48 (.iload_n 0) 1 none,
  i_v 49 (.bipush 63) 2 none 63 [],
  i_0 51 (.iand) 1 none,
  i_0 52 (.ireturn) 1 none]
set_option maxRecDepth 100000 in
theorem oJ6_bitCount_0f7a4 : xm_ok sJ6_bitCount_0f7a4 sJ6_bitCount_0f7a4.1.cls kJ6_bitCount_0f7a4 = true := by decide +kernel
set_option maxRecDepth 100000 in
set_option maxHeartbeats 4000000 in
theorem xJ6_bitCount_0f7a4_0 {K : Nat} {h : xm_H} {P : Option Value → xm_H → Prop} {x0 : Int32} (H :
    P (some (.int ((((((((x0 - ((((Int32.toUInt32 x0) >>> ((Int32.toUInt32 (1 : Int32)) &&& Int32.toUInt32 31)).toInt32) &&& (1431655765 : Int32))) &&& (858993459 : Int32)) + ((((Int32.toUInt32 (x0 - ((((Int32.toUInt32 x0) >>> ((Int32.toUInt32 (1 : Int32)) &&& Int32.toUInt32 31)).toInt32) &&& (1431655765 : Int32)))) >>> ((Int32.toUInt32 (2 : Int32)) &&& Int32.toUInt32 31)).toInt32) &&& (858993459 : Int32))) + (((Int32.toUInt32 (((x0 - ((((Int32.toUInt32 x0) >>> ((Int32.toUInt32 (1 : Int32)) &&& Int32.toUInt32 31)).toInt32) &&& (1431655765 : Int32))) &&& (858993459 : Int32)) + ((((Int32.toUInt32 (x0 - ((((Int32.toUInt32 x0) >>> ((Int32.toUInt32 (1 : Int32)) &&& Int32.toUInt32 31)).toInt32) &&& (1431655765 : Int32)))) >>> ((Int32.toUInt32 (2 : Int32)) &&& Int32.toUInt32 31)).toInt32) &&& (858993459 : Int32)))) >>> ((Int32.toUInt32 (4 : Int32)) &&& Int32.toUInt32 31)).toInt32)) &&& (252645135 : Int32)) + (((Int32.toUInt32 (((((x0 - ((((Int32.toUInt32 x0) >>> ((Int32.toUInt32 (1 : Int32)) &&& Int32.toUInt32 31)).toInt32) &&& (1431655765 : Int32))) &&& (858993459 : Int32)) + ((((Int32.toUInt32 (x0 - ((((Int32.toUInt32 x0) >>> ((Int32.toUInt32 (1 : Int32)) &&& Int32.toUInt32 31)).toInt32) &&& (1431655765 : Int32)))) >>> ((Int32.toUInt32 (2 : Int32)) &&& Int32.toUInt32 31)).toInt32) &&& (858993459 : Int32))) + (((Int32.toUInt32 (((x0 - ((((Int32.toUInt32 x0) >>> ((Int32.toUInt32 (1 : Int32)) &&& Int32.toUInt32 31)).toInt32) &&& (1431655765 : Int32))) &&& (858993459 : Int32)) + ((((Int32.toUInt32 (x0 - ((((Int32.toUInt32 x0) >>> ((Int32.toUInt32 (1 : Int32)) &&& Int32.toUInt32 31)).toInt32) &&& (1431655765 : Int32)))) >>> ((Int32.toUInt32 (2 : Int32)) &&& Int32.toUInt32 31)).toInt32) &&& (858993459 : Int32)))) >>> ((Int32.toUInt32 (4 : Int32)) &&& Int32.toUInt32 31)).toInt32)) &&& (252645135 : Int32))) >>> ((Int32.toUInt32 (8 : Int32)) &&& Int32.toUInt32 31)).toInt32)) + (((Int32.toUInt32 ((((((x0 - ((((Int32.toUInt32 x0) >>> ((Int32.toUInt32 (1 : Int32)) &&& Int32.toUInt32 31)).toInt32) &&& (1431655765 : Int32))) &&& (858993459 : Int32)) + ((((Int32.toUInt32 (x0 - ((((Int32.toUInt32 x0) >>> ((Int32.toUInt32 (1 : Int32)) &&& Int32.toUInt32 31)).toInt32) &&& (1431655765 : Int32)))) >>> ((Int32.toUInt32 (2 : Int32)) &&& Int32.toUInt32 31)).toInt32) &&& (858993459 : Int32))) + (((Int32.toUInt32 (((x0 - ((((Int32.toUInt32 x0) >>> ((Int32.toUInt32 (1 : Int32)) &&& Int32.toUInt32 31)).toInt32) &&& (1431655765 : Int32))) &&& (858993459 : Int32)) + ((((Int32.toUInt32 (x0 - ((((Int32.toUInt32 x0) >>> ((Int32.toUInt32 (1 : Int32)) &&& Int32.toUInt32 31)).toInt32) &&& (1431655765 : Int32)))) >>> ((Int32.toUInt32 (2 : Int32)) &&& Int32.toUInt32 31)).toInt32) &&& (858993459 : Int32)))) >>> ((Int32.toUInt32 (4 : Int32)) &&& Int32.toUInt32 31)).toInt32)) &&& (252645135 : Int32)) + (((Int32.toUInt32 (((((x0 - ((((Int32.toUInt32 x0) >>> ((Int32.toUInt32 (1 : Int32)) &&& Int32.toUInt32 31)).toInt32) &&& (1431655765 : Int32))) &&& (858993459 : Int32)) + ((((Int32.toUInt32 (x0 - ((((Int32.toUInt32 x0) >>> ((Int32.toUInt32 (1 : Int32)) &&& Int32.toUInt32 31)).toInt32) &&& (1431655765 : Int32)))) >>> ((Int32.toUInt32 (2 : Int32)) &&& Int32.toUInt32 31)).toInt32) &&& (858993459 : Int32))) + (((Int32.toUInt32 (((x0 - ((((Int32.toUInt32 x0) >>> ((Int32.toUInt32 (1 : Int32)) &&& Int32.toUInt32 31)).toInt32) &&& (1431655765 : Int32))) &&& (858993459 : Int32)) + ((((Int32.toUInt32 (x0 - ((((Int32.toUInt32 x0) >>> ((Int32.toUInt32 (1 : Int32)) &&& Int32.toUInt32 31)).toInt32) &&& (1431655765 : Int32)))) >>> ((Int32.toUInt32 (2 : Int32)) &&& Int32.toUInt32 31)).toInt32) &&& (858993459 : Int32)))) >>> ((Int32.toUInt32 (4 : Int32)) &&& Int32.toUInt32 31)).toInt32)) &&& (252645135 : Int32))) >>> ((Int32.toUInt32 (8 : Int32)) &&& Int32.toUInt32 31)).toInt32))) >>> ((Int32.toUInt32 (16 : Int32)) &&& Int32.toUInt32 31)).toInt32)) &&& (63 : Int32)))) h) :
    xm_L K sJ6_bitCount_0f7a4 kJ6_bitCount_0f7a4 0 [some (.int x0)] [] h P :=
  xm_run (fun _ _ h => h) oJ6_bitCount_0f7a4 43 0 0 0 [some (.int x0)] [] h H
set_option maxRecDepth 100000 in
theorem eJ6_bitCount_0f7a4 {K K' : Nat} (hK : K < K') {h : xm_H} {P : Option Value → xm_H → Prop} {x0 : Int32} (H :
    P (some (.int ((((((((x0 - ((((Int32.toUInt32 x0) >>> ((Int32.toUInt32 (1 : Int32)) &&& Int32.toUInt32 31)).toInt32) &&& (1431655765 : Int32))) &&& (858993459 : Int32)) + ((((Int32.toUInt32 (x0 - ((((Int32.toUInt32 x0) >>> ((Int32.toUInt32 (1 : Int32)) &&& Int32.toUInt32 31)).toInt32) &&& (1431655765 : Int32)))) >>> ((Int32.toUInt32 (2 : Int32)) &&& Int32.toUInt32 31)).toInt32) &&& (858993459 : Int32))) + (((Int32.toUInt32 (((x0 - ((((Int32.toUInt32 x0) >>> ((Int32.toUInt32 (1 : Int32)) &&& Int32.toUInt32 31)).toInt32) &&& (1431655765 : Int32))) &&& (858993459 : Int32)) + ((((Int32.toUInt32 (x0 - ((((Int32.toUInt32 x0) >>> ((Int32.toUInt32 (1 : Int32)) &&& Int32.toUInt32 31)).toInt32) &&& (1431655765 : Int32)))) >>> ((Int32.toUInt32 (2 : Int32)) &&& Int32.toUInt32 31)).toInt32) &&& (858993459 : Int32)))) >>> ((Int32.toUInt32 (4 : Int32)) &&& Int32.toUInt32 31)).toInt32)) &&& (252645135 : Int32)) + (((Int32.toUInt32 (((((x0 - ((((Int32.toUInt32 x0) >>> ((Int32.toUInt32 (1 : Int32)) &&& Int32.toUInt32 31)).toInt32) &&& (1431655765 : Int32))) &&& (858993459 : Int32)) + ((((Int32.toUInt32 (x0 - ((((Int32.toUInt32 x0) >>> ((Int32.toUInt32 (1 : Int32)) &&& Int32.toUInt32 31)).toInt32) &&& (1431655765 : Int32)))) >>> ((Int32.toUInt32 (2 : Int32)) &&& Int32.toUInt32 31)).toInt32) &&& (858993459 : Int32))) + (((Int32.toUInt32 (((x0 - ((((Int32.toUInt32 x0) >>> ((Int32.toUInt32 (1 : Int32)) &&& Int32.toUInt32 31)).toInt32) &&& (1431655765 : Int32))) &&& (858993459 : Int32)) + ((((Int32.toUInt32 (x0 - ((((Int32.toUInt32 x0) >>> ((Int32.toUInt32 (1 : Int32)) &&& Int32.toUInt32 31)).toInt32) &&& (1431655765 : Int32)))) >>> ((Int32.toUInt32 (2 : Int32)) &&& Int32.toUInt32 31)).toInt32) &&& (858993459 : Int32)))) >>> ((Int32.toUInt32 (4 : Int32)) &&& Int32.toUInt32 31)).toInt32)) &&& (252645135 : Int32))) >>> ((Int32.toUInt32 (8 : Int32)) &&& Int32.toUInt32 31)).toInt32)) + (((Int32.toUInt32 ((((((x0 - ((((Int32.toUInt32 x0) >>> ((Int32.toUInt32 (1 : Int32)) &&& Int32.toUInt32 31)).toInt32) &&& (1431655765 : Int32))) &&& (858993459 : Int32)) + ((((Int32.toUInt32 (x0 - ((((Int32.toUInt32 x0) >>> ((Int32.toUInt32 (1 : Int32)) &&& Int32.toUInt32 31)).toInt32) &&& (1431655765 : Int32)))) >>> ((Int32.toUInt32 (2 : Int32)) &&& Int32.toUInt32 31)).toInt32) &&& (858993459 : Int32))) + (((Int32.toUInt32 (((x0 - ((((Int32.toUInt32 x0) >>> ((Int32.toUInt32 (1 : Int32)) &&& Int32.toUInt32 31)).toInt32) &&& (1431655765 : Int32))) &&& (858993459 : Int32)) + ((((Int32.toUInt32 (x0 - ((((Int32.toUInt32 x0) >>> ((Int32.toUInt32 (1 : Int32)) &&& Int32.toUInt32 31)).toInt32) &&& (1431655765 : Int32)))) >>> ((Int32.toUInt32 (2 : Int32)) &&& Int32.toUInt32 31)).toInt32) &&& (858993459 : Int32)))) >>> ((Int32.toUInt32 (4 : Int32)) &&& Int32.toUInt32 31)).toInt32)) &&& (252645135 : Int32)) + (((Int32.toUInt32 (((((x0 - ((((Int32.toUInt32 x0) >>> ((Int32.toUInt32 (1 : Int32)) &&& Int32.toUInt32 31)).toInt32) &&& (1431655765 : Int32))) &&& (858993459 : Int32)) + ((((Int32.toUInt32 (x0 - ((((Int32.toUInt32 x0) >>> ((Int32.toUInt32 (1 : Int32)) &&& Int32.toUInt32 31)).toInt32) &&& (1431655765 : Int32)))) >>> ((Int32.toUInt32 (2 : Int32)) &&& Int32.toUInt32 31)).toInt32) &&& (858993459 : Int32))) + (((Int32.toUInt32 (((x0 - ((((Int32.toUInt32 x0) >>> ((Int32.toUInt32 (1 : Int32)) &&& Int32.toUInt32 31)).toInt32) &&& (1431655765 : Int32))) &&& (858993459 : Int32)) + ((((Int32.toUInt32 (x0 - ((((Int32.toUInt32 x0) >>> ((Int32.toUInt32 (1 : Int32)) &&& Int32.toUInt32 31)).toInt32) &&& (1431655765 : Int32)))) >>> ((Int32.toUInt32 (2 : Int32)) &&& Int32.toUInt32 31)).toInt32) &&& (858993459 : Int32)))) >>> ((Int32.toUInt32 (4 : Int32)) &&& Int32.toUInt32 31)).toInt32)) &&& (252645135 : Int32))) >>> ((Int32.toUInt32 (8 : Int32)) &&& Int32.toUInt32 31)).toInt32))) >>> ((Int32.toUInt32 (16 : Int32)) &&& Int32.toUInt32 31)).toInt32)) &&& (63 : Int32)))) h) :
    xm_Call K' sJ6_bitCount_0f7a4 99 [.int x0] h P :=
  xm_call_of (C := kJ6_bitCount_0f7a4) hK (by decide +kernel) rfl (Nat.le_of_ble_eq_true rfl) (Or.inl rfl) (xJ6_bitCount_0f7a4_0 H)

def kJ9_floorMod_7cf53 : List xm_I := [
  i_0 0 (.iload_n 0) 1 none,
  i_0 1 (.iload_n 1) 1 none,
  i_0 2 (.irem) 1 none,
  i_0 3 (.istore_n 2) 1 none,
  i_0 4 (.iload_n 0) 1 none,
  i_0 5 (.iload_n 1) 1 none,
  i_0 6 (.ixor) 1 none,
  i_j 7 (.ifCond .ge 11) 3 none 14,
  i_0 10 (.iload_n 2) 1 none,
  i_j 11 (.ifCond .eq 7) 3 none 14,
  i_0 14 (.iload_n 2) 1 none,
  i_0 15 (.iload_n 1) 1 none,
  i_0 16 (.iadd) 1 none,
  i_0 17 (.ireturn) 1 none,
  i_0 18 (.iload_n 2) 1 none,
  i_0 19 (.ireturn) 1 none]
set_option maxRecDepth 100000 in
theorem oJ9_floorMod_7cf53 : xm_ok sJ9_floorMod_7cf53 sJ9_floorMod_7cf53.1.cls kJ9_floorMod_7cf53 = true := by decide +kernel
set_option maxRecDepth 100000 in
set_option maxHeartbeats 4000000 in
theorem xJ9_floorMod_7cf53_0 {K : Nat} {h : xm_H} {P : Option Value → xm_H → Prop} {x0 : Int32} {x1 : Int32} (H :
    ¬ x1 = 0 ∧
    (if (x0 ^^^ x1) < 0 then
      (if (x0 - x0 / x1 * x1) = 0 then
        P (some (.int (x0 - x0 / x1 * x1))) h
      else
        P (some (.int ((x0 - x0 / x1 * x1) + x1))) h)
    else
      P (some (.int (x0 - x0 / x1 * x1))) h)) :
    xm_L K sJ9_floorMod_7cf53 kJ9_floorMod_7cf53 0 [some (.int x0), some (.int x1), none] [] h P :=
  xm_run (fun _ _ h => h) oJ9_floorMod_7cf53 15 0 0 0 [some (.int x0), some (.int x1), none] [] h H
set_option maxRecDepth 100000 in
theorem eJ9_floorMod_7cf53 {K K' : Nat} (hK : K < K') {h : xm_H} {P : Option Value → xm_H → Prop} {x0 : Int32} {x1 : Int32} (H :
    ¬ x1 = 0 ∧
    (if (x0 ^^^ x1) < 0 then
      (if (x0 - x0 / x1 * x1) = 0 then
        P (some (.int (x0 - x0 / x1 * x1))) h
      else
        P (some (.int ((x0 - x0 / x1 * x1) + x1))) h)
    else
      P (some (.int (x0 - x0 / x1 * x1))) h)) :
    xm_Call K' sJ9_floorMod_7cf53 99 [.int x0, .int x1] h P :=
  xm_call_of (C := kJ9_floorMod_7cf53) hK (by decide +kernel) rfl (Nat.le_of_ble_eq_true rfl) (Or.inl rfl) (xJ9_floorMod_7cf53_0 H)

def kJ9_max_7cf53 : List xm_I := [
  i_0 0 (.iload_n 0) 1 none,
  i_0 1 (.iload_n 1) 1 none,
  i_j 2 (.if_icmp .lt 7) 3 none 5,
  i_0 5 (.iload_n 0) 1 none,
  i_j 6 (.goto 4) 3 none 6,
  i_0 9 (.iload_n 1) 1 none,
  i_0 10 (.ireturn) 1 none]
set_option maxRecDepth 100000 in
theorem oJ9_max_7cf53 : xm_ok sJ9_max_7cf53 sJ9_max_7cf53.1.cls kJ9_max_7cf53 = true := by decide +kernel
set_option maxRecDepth 100000 in
set_option maxHeartbeats 4000000 in
theorem xJ9_max_7cf53_0 {K : Nat} {h : xm_H} {P : Option Value → xm_H → Prop} {x0 : Int32} {x1 : Int32} (H :
    (if x0 < x1 then
      P (some (.int x1)) h
    else
      P (some (.int x0)) h)) :
    xm_L K sJ9_max_7cf53 kJ9_max_7cf53 0 [some (.int x0), some (.int x1)] [] h P :=
  xm_run (fun _ _ h => h) oJ9_max_7cf53 7 0 0 0 [some (.int x0), some (.int x1)] [] h H
set_option maxRecDepth 100000 in
theorem eJ9_max_7cf53 {K K' : Nat} (hK : K < K') {h : xm_H} {P : Option Value → xm_H → Prop} {x0 : Int32} {x1 : Int32} (H :
    (if x0 < x1 then
      P (some (.int x1)) h
    else
      P (some (.int x0)) h)) :
    xm_Call K' sJ9_max_7cf53 99 [.int x0, .int x1] h P :=
  xm_call_of (C := kJ9_max_7cf53) hK (by decide +kernel) rfl (Nat.le_of_ble_eq_true rfl) (Or.inl rfl) (xJ9_max_7cf53_0 H)

def kJ9_min_7cf53 : List xm_I := [
  i_0 0 (.iload_n 0) 1 none,
  i_0 1 (.iload_n 1) 1 none,
  i_j 2 (.if_icmp .gt 7) 3 none 5,
  i_0 5 (.iload_n 0) 1 none,
  i_j 6 (.goto 4) 3 none 6,
  i_0 9 (.iload_n 1) 1 none,
  i_0 10 (.ireturn) 1 none]
set_option maxRecDepth 100000 in
theorem oJ9_min_7cf53 : xm_ok sJ9_min_7cf53 sJ9_min_7cf53.1.cls kJ9_min_7cf53 = true := by decide +kernel
set_option maxRecDepth 100000 in
set_option maxHeartbeats 4000000 in
theorem xJ9_min_7cf53_0 {K : Nat} {h : xm_H} {P : Option Value → xm_H → Prop} {x0 : Int32} {x1 : Int32} (H :
    (if x1 < x0 then
      P (some (.int x1)) h
    else
      P (some (.int x0)) h)) :
    xm_L K sJ9_min_7cf53 kJ9_min_7cf53 0 [some (.int x0), some (.int x1)] [] h P :=
  xm_run (fun _ _ h => h) oJ9_min_7cf53 7 0 0 0 [some (.int x0), some (.int x1)] [] h H
set_option maxRecDepth 100000 in
theorem eJ9_min_7cf53 {K K' : Nat} (hK : K < K') {h : xm_H} {P : Option Value → xm_H → Prop} {x0 : Int32} {x1 : Int32} (H :
    (if x1 < x0 then
      P (some (.int x1)) h
    else
      P (some (.int x0)) h)) :
    xm_Call K' sJ9_min_7cf53 99 [.int x0, .int x1] h P :=
  xm_call_of (C := kJ9_min_7cf53) hK (by decide +kernel) rfl (Nat.le_of_ble_eq_true rfl) (Or.inl rfl) (xJ9_min_7cf53_0 H)
end
section
def kX7_init : List xm_I := [
  i_0 0 (.aload_n 0) 1 none,
  i_f 1 (.invokespecial 3) 3 none 0 0 [134, 127, 128] 2,
  i_0 4 (.aload_n 0) 1 none,
  i_v 5 (.bipush 67) 2 none 67 [],
  i_f 7 (.newarray .int) 2 none 0 67 [147] 67,
  i_f 9 (.putfield 9) 3 none 7 0 [137] 1,
  i_0 12 (.aload_n 0) 1 none,
  i_v 13 (.iconst 0) 1 none 0 [],
  i_f 14 (.putfield 15) 3 none 7 1 [139] 0,
  i_v 17 (.iconst 0) 1 none 0 [],
  i_0 18 (.istore_n 1) 1 none,
  i_0 19 (.iload_n 1) 1 (some [0, 1]),
  i_v 20 (.bipush 8) 2 none 8 [],
  i_j 22 (.if_icmp .ge 24) 3 none 25,
  i_0 25 (.aload_n 0) 1 none,
  i_f 26 (.getfield 9) 3 none 7 0 [137] 1,
  i_v 29 (.bipush 56) 2 none 56 [],
  i_0 31 (.iload_n 1) 1 none,
  i_0 32 (.iadd) 1 none,
  i_f 33 (.getstatic 19) 3 none 2 0 [135] 1,
  i_v 36 (.bipush 7) 2 none 7 [],
  i_0 38 (.iaload) 1 none,
  i_0 39 (.iastore) 1 none,
  i_v 40 (.iinc 1 1) 3 none 1 [],
  i_j 43 (.goto (-24)) 3 none 11,
  i_v 46 (.bipush 8) 2 none 8 [],
  i_0 48 (.istore_n 1) 1 none,
  i_0 49 (.iload_n 1) 1 (some [0, 1]),
  i_v 50 (.bipush 10) 2 none 10 [],
  i_j 52 (.if_icmp .gt 26) 3 none 43,
  i_0 55 (.aload_n 0) 1 none,
  i_f 56 (.getfield 9) 3 none 7 0 [137] 1,
  i_v 59 (.bipush 64) 2 none 64 [],
  i_0 61 (.iload_n 1) 1 none,
  i_0 62 (.iadd) 1 none,
  i_v 63 (.bipush 8) 2 none 8 [],
  i_0 65 (.isub) 1 none,
  i_f 66 (.getstatic 19) 3 none 2 0 [135] 1,
  i_0 69 (.iload_n 1) 1 none,
  i_0 70 (.iaload) 1 none,
  i_0 71 (.iastore) 1 none,
  i_v 72 (.iinc 1 1) 3 none 1 [],
  i_j 75 (.goto (-26)) 3 none 27,
  i_0 78 (.return_) 1 none]
set_option maxRecDepth 100000 in
theorem oX7_init : xm_ok sX7_init sX7_init.1.cls kX7_init = true := by decide +kernel
set_option maxRecDepth 100000 in
set_option maxHeartbeats 4000000 in
theorem xX7_init_0 {K : Nat} {h : xm_H} {P : Option Value → xm_H → Prop} {a0 : Nat} (H :
    (0 + 1 ≤ 1 ∧ 0 + 67 ≤ 67) ∧ xm_va h [some (.ref a0), none] [.ref a0] 1 ∧
    ∃ h1, xm_put (h ++ [xm_za 0 67]) a0 7 0 (.ref (List.length h)) = some h1 ∧ /- cells -/
    ∃ h2, xm_put h1 a0 7 1 (.int (0 : Int32)) = some h2 ∧ /- people -/
    xm_At xm_st K sX7_init sX7_init.1.cls kX7_init 11 1 67 [some (.ref a0), some (.int (0 : Int32))] [] h2 P) :
    xm_At xm_st K sX7_init sX7_init.1.cls kX7_init 0 0 0 [some (.ref a0), none] [] h P :=
  xm_run (fun _ _ h => h) oX7_init 12 0 0 0 [some (.ref a0), none] [] h H
set_option maxRecDepth 100000 in
theorem eX7_init {K K' : Nat} (hK : K < K') {h : xm_H} {P : Option Value → xm_H → Prop} {a0 : Nat} (hr : ∃ fs, h[a0]? = some (.inr (7, fs))) (H :
    (0 + 1 ≤ 1 ∧ 0 + 67 ≤ 67) ∧ xm_va h [some (.ref a0), none] [.ref a0] 1 ∧
    ∃ h1, xm_put (h ++ [xm_za 0 67]) a0 7 0 (.ref (List.length h)) = some h1 ∧ /- cells -/
    ∃ h2, xm_put h1 a0 7 1 (.int (0 : Int32)) = some h2 ∧ /- people -/
    xm_At xm_st K sX7_init sX7_init.1.cls kX7_init 11 1 67 [some (.ref a0), some (.int (0 : Int32))] [] h2 P) :
    xm_Call K' sX7_init 7 [.ref a0] h P :=
  xm_call_of (C := kX7_init) hK (by decide +kernel) rfl (Nat.le_of_ble_eq_true rfl) (Or.inr ⟨a0, hr.choose, rfl, hr.choose_spec⟩) (xX7_init_0 H)

set_option maxRecDepth 100000 in
set_option maxHeartbeats 4000000 in
theorem xX7_init_11 {K : Nat} {h : xm_H} {P : Option Value → xm_H → Prop} {a0 : Nat} {x1 : Int32} (H :
    (if x1 < (8 : Int32) then
      ∃ q1, xm_fld h a0 7 0 = some (.ref q1) ∧ /- cells -/
      ∃ e2, xm_ld xm_st h 0 (1000 + 2) (7 : Int32) = some e2 ∧
      ∃ h3, xm_sto h 0 q1 ((56 : Int32) + x1) e2 = some h3 ∧
      xm_At xm_st K sX7_init sX7_init.1.cls kX7_init 11 1 67 [some (.ref a0), some (.int (x1 + (1 : Int32)))] [] h3 P
    else
      xm_At xm_st K sX7_init sX7_init.1.cls kX7_init 27 1 67 [some (.ref a0), some (.int (8 : Int32))] [] h P)) :
    xm_At xm_st K sX7_init sX7_init.1.cls kX7_init 11 1 67 [some (.ref a0), some (.int x1)] [] h P :=
  xm_run (fun _ _ h => h) oX7_init 15 11 1 67 [some (.ref a0), some (.int x1)] [] h H

set_option maxRecDepth 100000 in
set_option maxHeartbeats 4000000 in
theorem xX7_init_27 {K : Nat} {h : xm_H} {P : Option Value → xm_H → Prop} {a0 : Nat} {x1 : Int32} (H :
    (if (10 : Int32) < x1 then
      P none h
    else
      ∃ q1, xm_fld h a0 7 0 = some (.ref q1) ∧ /- cells -/
      ∃ e2, xm_ld xm_st h 0 (1000 + 2) x1 = some e2 ∧
      ∃ h3, xm_sto h 0 q1 (((64 : Int32) + x1) - (8 : Int32)) e2 = some h3 ∧
      xm_At xm_st K sX7_init sX7_init.1.cls kX7_init 27 1 67 [some (.ref a0), some (.int (x1 + (1 : Int32)))] [] h3 P)) :
    xm_At xm_st K sX7_init sX7_init.1.cls kX7_init 27 1 67 [some (.ref a0), some (.int x1)] [] h P :=
  xm_run (fun _ _ h => h) oX7_init 17 27 1 67 [some (.ref a0), some (.int x1)] [] h H

def kX7_has : List xm_I := [
  i_0 0 (.iload_n 1) 1 none,
  i_j 1 (.ifCond .lt 15) 3 none 8,
  i_0 4 (.iload_n 1) 1 none,
  i_0 5 (.aload_n 0) 1 none,
  i_f 6 (.getfield 15) 3 none 7 1 [139] 0,
  i_j 9 (.if_icmp .ge 7) 3 none 8,
  i_v 12 (.iconst 1) 1 none 1 [],
  i_j 13 (.goto 4) 3 none 9,
  i_v 16 (.iconst 0) 1 none 0 [],
  i_0 17 (.ireturn) 1 none]
set_option maxRecDepth 100000 in
theorem oX7_has : xm_ok sX7_has sX7_has.1.cls kX7_has = true := by decide +kernel
set_option maxRecDepth 100000 in
set_option maxHeartbeats 4000000 in
theorem xX7_has_0 {K : Nat} {h : xm_H} {P : Option Value → xm_H → Prop} {a0 : Nat} {x1 : Int32} (H :
    (if x1 < 0 then
      P (some (.int (0 : Int32))) h
    else
      ∃ f1, xm_fld h a0 7 1 = some (.int f1) ∧ /- people -/
      (if x1 < f1 then
        P (some (.int (1 : Int32))) h
      else
        P (some (.int (0 : Int32))) h))) :
    xm_L K sX7_has kX7_has 0 [some (.ref a0), some (.int x1)] [] h P :=
  xm_run (fun _ _ h => h) oX7_has 10 0 0 0 [some (.ref a0), some (.int x1)] [] h H
set_option maxRecDepth 100000 in
theorem eX7_has {K K' : Nat} (hK : K < K') {h : xm_H} {P : Option Value → xm_H → Prop} {a0 : Nat} {x1 : Int32} (hr : ∃ fs, h[a0]? = some (.inr (7, fs))) (H :
    (if x1 < 0 then
      P (some (.int (0 : Int32))) h
    else
      ∃ f1, xm_fld h a0 7 1 = some (.int f1) ∧ /- people -/
      (if x1 < f1 then
        P (some (.int (1 : Int32))) h
      else
        P (some (.int (0 : Int32))) h))) :
    xm_Call K' sX7_has 7 [.ref a0, .int x1] h P :=
  xm_call_of (C := kX7_has) hK (by decide +kernel) rfl (Nat.le_of_ble_eq_true rfl) (Or.inr ⟨a0, hr.choose, rfl, hr.choose_spec⟩) (xX7_has_0 H)

def kX7_cellOf : List xm_I := [
  i_0 0 (.iload_n 1) 1 none,
  i_j 1 (.ifCond .lt 13) 3 none 7,
  i_0 4 (.iload_n 2) 1 none,
  i_j 5 (.ifCond .lt 9) 3 none 7,
  i_0 8 (.iload_n 2) 1 none,
  i_v 9 (.bipush 10) 2 none 10 [],
  i_j 11 (.if_icmp .le 5) 3 none 9,
  i_v 14 (.iconst (-1)) 1 none (-1) [],
  i_0 15 (.ireturn) 1 none,
  i_0 16 (.iload_n 2) 1 none,
  i_v 17 (.bipush 6) 2 none 6 [],
  i_j 19 (.if_icmp .gt 22) 3 none 24,
  i_0 22 (.iload_n 1) 1 none,
  i_0 23 (.aload_n 0) 1 none,
  i_f 24 (.getfield 15) 3 none 7 1 [139] 0,
  i_j 27 (.if_icmp .ge 12) 3 none 22,
  i_0 30 (.iload_n 2) 1 none,
  i_v 31 (.bipush 8) 2 none 8 [],
  i_0 33 (.imul) 1 none,
  i_0 34 (.iload_n 1) 1 none,
  i_0 35 (.iadd) 1 none,
  i_j 36 (.goto 4) 3 none 23,
  i_v 39 (.iconst (-1)) 1 none (-1) [],
  i_0 40 (.ireturn) 1 none,
  i_0 41 (.iload_n 2) 1 none,
  i_v 42 (.bipush 7) 2 none 7 [],
  i_j 44 (.if_icmp .ne 18) 3 none 36,
  i_0 47 (.iload_n 1) 1 none,
  i_v 48 (.bipush 8) 2 none 8 [],
  i_j 50 (.if_icmp .ge 10) 3 none 34,
  i_v 53 (.bipush 56) 2 none 56 [],
  i_0 55 (.iload_n 1) 1 none,
  i_0 56 (.iadd) 1 none,
  i_j 57 (.goto 4) 3 none 35,
  i_v 60 (.iconst (-1)) 1 none (-1) [],
  i_0 61 (.ireturn) 1 none,
  i_0 62 (.iload_n 1) 1 none,
  i_j 63 (.ifCond .ne 13) 3 none 44,
  i_v 66 (.bipush 64) 2 none 64 [],
  i_0 68 (.iload_n 2) 1 none,
  i_0 69 (.iadd) 1 none,
  i_v 70 (.bipush 8) 2 none 8 [],
  i_0 72 (.isub) 1 none,
  i_j 73 (.goto 4) 3 none 45,
  i_v 76 (.iconst (-1)) 1 none (-1) [],
  i_0 77 (.ireturn) 1 none]
set_option maxRecDepth 100000 in
theorem oX7_cellOf : xm_ok sX7_cellOf sX7_cellOf.1.cls kX7_cellOf = true := by decide +kernel
set_option maxRecDepth 100000 in
set_option maxHeartbeats 4000000 in
theorem xX7_cellOf_0 {K : Nat} {h : xm_H} {P : Option Value → xm_H → Prop} {a0 : Nat} {x1 : Int32} {x2 : Int32} (H :
    (if x1 < 0 then
      P (some (.int (-1 : Int32))) h
    else
      (if x2 < 0 then
        P (some (.int (-1 : Int32))) h
      else
        (if (10 : Int32) < x2 then
          P (some (.int (-1 : Int32))) h
        else
          (if (6 : Int32) < x2 then
            (if x2 = (7 : Int32) then
              (if x1 < (8 : Int32) then
                P (some (.int ((56 : Int32) + x1))) h
              else
                P (some (.int (-1 : Int32))) h)
            else
              (if x1 = 0 then
                P (some (.int (((64 : Int32) + x2) - (8 : Int32)))) h
              else
                P (some (.int (-1 : Int32))) h))
          else
            ∃ f1, xm_fld h a0 7 1 = some (.int f1) ∧ /- people -/
            (if x1 < f1 then
              P (some (.int ((x2 * (8 : Int32)) + x1))) h
            else
              P (some (.int (-1 : Int32))) h)))))) :
    xm_L K sX7_cellOf kX7_cellOf 0 [some (.ref a0), some (.int x1), some (.int x2)] [] h P :=
  xm_run (fun _ _ h => h) oX7_cellOf 23 0 0 0 [some (.ref a0), some (.int x1), some (.int x2)] [] h H
set_option maxRecDepth 100000 in
theorem eX7_cellOf {K K' : Nat} (hK : K < K') {h : xm_H} {P : Option Value → xm_H → Prop} {a0 : Nat} {x1 : Int32} {x2 : Int32} (hr : ∃ fs, h[a0]? = some (.inr (7, fs))) (H :
    (if x1 < 0 then
      P (some (.int (-1 : Int32))) h
    else
      (if x2 < 0 then
        P (some (.int (-1 : Int32))) h
      else
        (if (10 : Int32) < x2 then
          P (some (.int (-1 : Int32))) h
        else
          (if (6 : Int32) < x2 then
            (if x2 = (7 : Int32) then
              (if x1 < (8 : Int32) then
                P (some (.int ((56 : Int32) + x1))) h
              else
                P (some (.int (-1 : Int32))) h)
            else
              (if x1 = 0 then
                P (some (.int (((64 : Int32) + x2) - (8 : Int32)))) h
              else
                P (some (.int (-1 : Int32))) h))
          else
            ∃ f1, xm_fld h a0 7 1 = some (.int f1) ∧ /- people -/
            (if x1 < f1 then
              P (some (.int ((x2 * (8 : Int32)) + x1))) h
            else
              P (some (.int (-1 : Int32))) h)))))) :
    xm_Call K' sX7_cellOf 7 [.ref a0, .int x1, .int x2] h P :=
  xm_call_of (C := kX7_cellOf) hK (by decide +kernel) rfl (Nat.le_of_ble_eq_true rfl) (Or.inr ⟨a0, hr.choose, rfl, hr.choose_spec⟩) (xX7_cellOf_0 H)

def kX7_get : List xm_I := [
  i_0 0 (.aload_n 0) 1 none,
  i_0 1 (.iload_n 1) 1 none,
  i_0 2 (.iload_n 2) 1 none,
  i_m 3 (.invokevirtual 22) 3 none 2 7 [388, 389, 390, 109, 391] 0 sX7_cellOf,
  i_0 6 (.istore_n 3) 1 none,
  i_0 7 (.iload_n 3) 1 none,
  i_j 8 (.ifCond .ge 7) 3 none 9,
  i_v 11 (.iconst 0) 1 none 0 [],
  i_j 12 (.goto 9) 3 none 13,
  i_0 15 (.aload_n 0) 1 none,
  i_f 16 (.getfield 9) 3 none 7 0 [137] 1,
  i_0 19 (.iload_n 3) 1 none,
  i_0 20 (.iaload) 1 none,
  i_0 21 (.ireturn) 1 none]
set_option maxRecDepth 100000 in
theorem oX7_get : xm_ok sX7_get sX7_get.1.cls kX7_get = true := by decide +kernel
set_option maxRecDepth 100000 in
set_option maxHeartbeats 4000000 in
theorem xX7_get_0 {K : Nat} {h : xm_H} {P : Option Value → xm_H → Prop} {a0 : Nat} {x1 : Int32} {x2 : Int32} (H :
    xm_Call K sX7_cellOf 7 [.ref a0, .int x1, .int x2] h (xm_pi fun c2 h1 =>
      (if c2 < 0 then
        P (some (.int (0 : Int32))) h1
      else
        ∃ q3, xm_fld h1 a0 7 0 = some (.ref q3) ∧ /- cells -/
        ∃ e4, xm_ld xm_st h1 0 q3 c2 = some e4 ∧
        P (some (.int e4)) h1))) :
    xm_L K sX7_get kX7_get 0 [some (.ref a0), some (.int x1), some (.int x2), none] [] h P :=
  xm_run (fun _ _ h => h) oX7_get 13 0 0 0 [some (.ref a0), some (.int x1), some (.int x2), none] [] h H
set_option maxRecDepth 100000 in
theorem eX7_get {K K' : Nat} (hK : K < K') {h : xm_H} {P : Option Value → xm_H → Prop} {a0 : Nat} {x1 : Int32} {x2 : Int32} (hr : ∃ fs, h[a0]? = some (.inr (7, fs))) (H :
    xm_Call K sX7_cellOf 7 [.ref a0, .int x1, .int x2] h (xm_pi fun c2 h1 =>
      (if c2 < 0 then
        P (some (.int (0 : Int32))) h1
      else
        ∃ q3, xm_fld h1 a0 7 0 = some (.ref q3) ∧ /- cells -/
        ∃ e4, xm_ld xm_st h1 0 q3 c2 = some e4 ∧
        P (some (.int e4)) h1))) :
    xm_Call K' sX7_get 7 [.ref a0, .int x1, .int x2] h P :=
  xm_call_of (C := kX7_get) hK (by decide +kernel) rfl (Nat.le_of_ble_eq_true rfl) (Or.inr ⟨a0, hr.choose, rfl, hr.choose_spec⟩) (xX7_get_0 H)

def kX7_set : List xm_I := [
  i_0 0 (.aload_n 0) 1 none,
  i_0 1 (.iload_n 1) 1 none,
  i_0 2 (.iload_n 2) 1 none,
  i_m 3 (.invokevirtual 22) 3 none 2 7 [388, 389, 390, 109, 391] 0 sX7_cellOf,
  i_0 6 (.istore 4) 2 none,
  i_0 8 (.iload 4) 2 none,
  i_j 10 (.ifCond .lt 11) 3 none 12,
  i_0 13 (.aload_n 0) 1 none,
  i_f 14 (.getfield 9) 3 none 7 0 [137] 1,
  i_0 17 (.iload 4) 2 none,
  i_0 19 (.iload_n 3) 1 none,
  i_0 20 (.iastore) 1 none,
  i_0 21 (.return_) 1 none]
set_option maxRecDepth 100000 in
theorem oX7_set : xm_ok sX7_set sX7_set.1.cls kX7_set = true := by decide +kernel
set_option maxRecDepth 100000 in
set_option maxHeartbeats 4000000 in
theorem xX7_set_0 {K : Nat} {h : xm_H} {P : Option Value → xm_H → Prop} {a0 : Nat} {x1 : Int32} {x2 : Int32} {x3 : Int32} (H :
    xm_Call K sX7_cellOf 7 [.ref a0, .int x1, .int x2] h (xm_pi fun c2 h1 =>
      (if c2 < 0 then
        P none h1
      else
        ∃ q3, xm_fld h1 a0 7 0 = some (.ref q3) ∧ /- cells -/
        ∃ h4, xm_sto h1 0 q3 c2 x3 = some h4 ∧
        P none h4))) :
    xm_L K sX7_set kX7_set 0 [some (.ref a0), some (.int x1), some (.int x2), some (.int x3), none] [] h P :=
  xm_run (fun _ _ h => h) oX7_set 14 0 0 0 [some (.ref a0), some (.int x1), some (.int x2), some (.int x3), none] [] h H
set_option maxRecDepth 100000 in
theorem eX7_set {K K' : Nat} (hK : K < K') {h : xm_H} {P : Option Value → xm_H → Prop} {a0 : Nat} {x1 : Int32} {x2 : Int32} {x3 : Int32} (hr : ∃ fs, h[a0]? = some (.inr (7, fs))) (H :
    xm_Call K sX7_cellOf 7 [.ref a0, .int x1, .int x2] h (xm_pi fun c2 h1 =>
      (if c2 < 0 then
        P none h1
      else
        ∃ q3, xm_fld h1 a0 7 0 = some (.ref q3) ∧ /- cells -/
        ∃ h4, xm_sto h1 0 q3 c2 x3 = some h4 ∧
        P none h4))) :
    xm_Call K' sX7_set 7 [.ref a0, .int x1, .int x2, .int x3] h P :=
  xm_call_of (C := kX7_set) hK (by decide +kernel) rfl (Nat.le_of_ble_eq_true rfl) (Or.inr ⟨a0, hr.choose, rfl, hr.choose_spec⟩) (xX7_set_0 H)

def kX7_snow : List xm_I := [
  i_0 0 (.aload_n 0) 1 none,
  i_f 1 (.getfield 9) 3 none 7 0 [137] 1,
  i_v 4 (.bipush 56) 2 none 56 [],
  i_0 6 (.aload_n 0) 1 none,
  i_f 7 (.getfield 9) 3 none 7 0 [137] 1,
  i_v 10 (.bipush 64) 2 none 64 [],
  i_0 12 (.iaload) 1 none,
  i_v 13 (.bipush 8) 2 none 8 [],
  i_m 15 (.invokestatic 26) 3 none 2 99 [526, 527, 119, 528] 0 sJ9_floorMod_7cf53,
  i_0 18 (.iadd) 1 none,
  i_0 19 (.iaload) 1 none,
  i_0 20 (.ireturn) 1 none]
set_option maxRecDepth 100000 in
theorem oX7_snow : xm_ok sX7_snow sX7_snow.1.cls kX7_snow = true := by decide +kernel
set_option maxRecDepth 100000 in
set_option maxHeartbeats 4000000 in
theorem xX7_snow_0 {K : Nat} {h : xm_H} {P : Option Value → xm_H → Prop} {a0 : Nat} (H :
    ∃ q1, xm_fld h a0 7 0 = some (.ref q1) ∧ /- cells -/
    ∃ q2, xm_fld h a0 7 0 = some (.ref q2) ∧ /- cells -/
    ∃ e3, xm_ld xm_st h 0 q2 (64 : Int32) = some e3 ∧
    xm_Call K sJ9_floorMod_7cf53 99 [.int e3, .int (8 : Int32)] h (xm_pi fun c5 h4 =>
      ∃ e6, xm_ld xm_st h4 0 q1 ((56 : Int32) + c5) = some e6 ∧
      P (some (.int e6)) h4)) :
    xm_L K sX7_snow kX7_snow 0 [some (.ref a0)] [] h P :=
  xm_run (fun _ _ h => h) oX7_snow 13 0 0 0 [some (.ref a0)] [] h H
set_option maxRecDepth 100000 in
theorem eX7_snow {K K' : Nat} (hK : K < K') {h : xm_H} {P : Option Value → xm_H → Prop} {a0 : Nat} (hr : ∃ fs, h[a0]? = some (.inr (7, fs))) (H :
    ∃ q1, xm_fld h a0 7 0 = some (.ref q1) ∧ /- cells -/
    ∃ q2, xm_fld h a0 7 0 = some (.ref q2) ∧ /- cells -/
    ∃ e3, xm_ld xm_st h 0 q2 (64 : Int32) = some e3 ∧
    xm_Call K sJ9_floorMod_7cf53 99 [.int e3, .int (8 : Int32)] h (xm_pi fun c5 h4 =>
      ∃ e6, xm_ld xm_st h4 0 q1 ((56 : Int32) + c5) = some e6 ∧
      P (some (.int e6)) h4)) :
    xm_Call K' sX7_snow 7 [.ref a0] h P :=
  xm_call_of (C := kX7_snow) hK (by decide +kernel) rfl (Nat.le_of_ble_eq_true rfl) (Or.inr ⟨a0, hr.choose, rfl, hr.choose_spec⟩) (xX7_snow_0 H)

def kX7_setSnow : List xm_I := [
  i_0 0 (.aload_n 0) 1 none,
  i_f 1 (.getfield 9) 3 none 7 0 [137] 1,
  i_v 4 (.bipush 56) 2 none 56 [],
  i_0 6 (.aload_n 0) 1 none,
  i_f 7 (.getfield 9) 3 none 7 0 [137] 1,
  i_v 10 (.bipush 64) 2 none 64 [],
  i_0 12 (.iaload) 1 none,
  i_v 13 (.bipush 8) 2 none 8 [],
  i_m 15 (.invokestatic 26) 3 none 2 99 [526, 527, 119, 528] 0 sJ9_floorMod_7cf53,
  i_0 18 (.iadd) 1 none,
  i_0 19 (.iload_n 1) 1 none,
  i_0 20 (.iastore) 1 none,
  i_0 21 (.return_) 1 none]
set_option maxRecDepth 100000 in
theorem oX7_setSnow : xm_ok sX7_setSnow sX7_setSnow.1.cls kX7_setSnow = true := by decide +kernel
set_option maxRecDepth 100000 in
set_option maxHeartbeats 4000000 in
theorem xX7_setSnow_0 {K : Nat} {h : xm_H} {P : Option Value → xm_H → Prop} {a0 : Nat} {x1 : Int32} (H :
    ∃ q1, xm_fld h a0 7 0 = some (.ref q1) ∧ /- cells -/
    ∃ q2, xm_fld h a0 7 0 = some (.ref q2) ∧ /- cells -/
    ∃ e3, xm_ld xm_st h 0 q2 (64 : Int32) = some e3 ∧
    xm_Call K sJ9_floorMod_7cf53 99 [.int e3, .int (8 : Int32)] h (xm_pi fun c5 h4 =>
      ∃ h6, xm_sto h4 0 q1 ((56 : Int32) + c5) x1 = some h6 ∧
      P none h6)) :
    xm_L K sX7_setSnow kX7_setSnow 0 [some (.ref a0), some (.int x1)] [] h P :=
  xm_run (fun _ _ h => h) oX7_setSnow 14 0 0 0 [some (.ref a0), some (.int x1)] [] h H
set_option maxRecDepth 100000 in
theorem eX7_setSnow {K K' : Nat} (hK : K < K') {h : xm_H} {P : Option Value → xm_H → Prop} {a0 : Nat} {x1 : Int32} (hr : ∃ fs, h[a0]? = some (.inr (7, fs))) (H :
    ∃ q1, xm_fld h a0 7 0 = some (.ref q1) ∧ /- cells -/
    ∃ q2, xm_fld h a0 7 0 = some (.ref q2) ∧ /- cells -/
    ∃ e3, xm_ld xm_st h 0 q2 (64 : Int32) = some e3 ∧
    xm_Call K sJ9_floorMod_7cf53 99 [.int e3, .int (8 : Int32)] h (xm_pi fun c5 h4 =>
      ∃ h6, xm_sto h4 0 q1 ((56 : Int32) + c5) x1 = some h6 ∧
      P none h6)) :
    xm_Call K' sX7_setSnow 7 [.ref a0, .int x1] h P :=
  xm_call_of (C := kX7_setSnow) hK (by decide +kernel) rfl (Nat.le_of_ble_eq_true rfl) (Or.inr ⟨a0, hr.choose, rfl, hr.choose_spec⟩) (xX7_setSnow_0 H)

def kX7_join : List xm_I := [
  i_0 0 (.aload_n 0) 1 none,
  i_f 1 (.getfield 15) 3 none 7 1 [139] 0,
  i_v 4 (.bipush 8) 2 none 8 [],
  i_j 6 (.if_icmp .lt 5) 3 none 6,
  i_v 9 (.iconst 0) 1 none 0 [],
  i_0 10 (.ireturn) 1 none,
  i_0 11 (.aload_n 0) 1 none,
  i_0 12 (.dup) 1 none,
  i_f 13 (.getfield 15) 3 none 7 1 [139] 0,
  i_v 16 (.iconst 1) 1 none 1 [],
  i_0 17 (.iadd) 1 none,
  i_f 18 (.putfield 15) 3 none 7 1 [139] 0,
  i_v 21 (.iconst 0) 1 none 0 [],
  i_0 22 (.istore 4) 2 none,
  i_0 24 (.iload 4) 2 (some [0, 1, 2, 3, 4]),
  i_v 26 (.bipush 6) 2 none 6 [],
  i_j 28 (.if_icmp .gt 27) 3 none 29,
  i_0 31 (.aload_n 0) 1 none,
  i_0 32 (.aload_n 0) 1 none,
  i_f 33 (.getfield 15) 3 none 7 1 [139] 0,
  i_v 36 (.iconst 1) 1 none 1 [],
  i_0 37 (.isub) 1 none,
  i_0 38 (.iload 4) 2 none,
  i_f 40 (.getstatic 19) 3 none 2 0 [135] 1,
  i_0 43 (.iload 4) 2 none,
  i_0 45 (.iaload) 1 none,
  i_m 46 (.invokevirtual 31) 3 none 3 7 [384, 385, 386, 109, 387] 0 sX7_set,
  i_v 49 (.iinc 4 1) 3 none 1 [],
  i_j 52 (.goto (-28)) 3 none 14,
  i_0 55 (.aload_n 0) 1 none,
  i_0 56 (.aload_n 0) 1 none,
  i_f 57 (.getfield 15) 3 none 7 1 [139] 0,
  i_v 60 (.iconst 1) 1 none 1 [],
  i_0 61 (.isub) 1 none,
  i_v 62 (.iconst 0) 1 none 0 [],
  i_0 63 (.iload_n 1) 1 none,
  i_m 64 (.invokevirtual 31) 3 none 3 7 [384, 385, 386, 109, 387] 0 sX7_set,
  i_0 67 (.aload_n 0) 1 none,
  i_0 68 (.aload_n 0) 1 none,
  i_f 69 (.getfield 15) 3 none 7 1 [139] 0,
  i_v 72 (.iconst 1) 1 none 1 [],
  i_0 73 (.isub) 1 none,
  i_v 74 (.iconst 2) 1 none 2 [],
  i_0 75 (.iload_n 2) 1 none,
  i_m 76 (.invokevirtual 31) 3 none 3 7 [384, 385, 386, 109, 387] 0 sX7_set,
  i_0 79 (.aload_n 0) 1 none,
  i_0 80 (.aload_n 0) 1 none,
  i_f 81 (.getfield 15) 3 none 7 1 [139] 0,
  i_v 84 (.iconst 1) 1 none 1 [],
  i_0 85 (.isub) 1 none,
  i_v 86 (.iconst 3) 1 none 3 [],
  i_0 87 (.iload_n 3) 1 none,
  i_m 88 (.invokevirtual 31) 3 none 3 7 [384, 385, 386, 109, 387] 0 sX7_set,
  i_v 91 (.iconst 1) 1 none 1 [],
  i_0 92 (.ireturn) 1 none]
set_option maxRecDepth 100000 in
theorem oX7_join : xm_ok sX7_join sX7_join.1.cls kX7_join = true := by decide +kernel
set_option maxRecDepth 100000 in
set_option maxHeartbeats 4000000 in
theorem xX7_join_0 {K : Nat} {h : xm_H} {P : Option Value → xm_H → Prop} {a0 : Nat} {x1 : Int32} {x2 : Int32} {x3 : Int32} (H :
    ∃ f1, xm_fld h a0 7 1 = some (.int f1) ∧ /- people -/
    (if f1 < (8 : Int32) then
      ∃ f2, xm_fld h a0 7 1 = some (.int f2) ∧ /- people -/
      ∃ h3, xm_put h a0 7 1 (.int (f2 + (1 : Int32))) = some h3 ∧ /- people -/
      xm_L K sX7_join kX7_join 14 [some (.ref a0), some (.int x1), some (.int x2), some (.int x3), some (.int (0 : Int32))] [] h3 P
    else
      P (some (.int (0 : Int32))) h)) :
    xm_L K sX7_join kX7_join 0 [some (.ref a0), some (.int x1), some (.int x2), some (.int x3), none] [] h P :=
  xm_run (fun _ _ h => h) oX7_join 13 0 0 0 [some (.ref a0), some (.int x1), some (.int x2), some (.int x3), none] [] h H
set_option maxRecDepth 100000 in
theorem eX7_join {K K' : Nat} (hK : K < K') {h : xm_H} {P : Option Value → xm_H → Prop} {a0 : Nat} {x1 : Int32} {x2 : Int32} {x3 : Int32} (hr : ∃ fs, h[a0]? = some (.inr (7, fs))) (H :
    ∃ f1, xm_fld h a0 7 1 = some (.int f1) ∧ /- people -/
    (if f1 < (8 : Int32) then
      ∃ f2, xm_fld h a0 7 1 = some (.int f2) ∧ /- people -/
      ∃ h3, xm_put h a0 7 1 (.int (f2 + (1 : Int32))) = some h3 ∧ /- people -/
      xm_L K sX7_join kX7_join 14 [some (.ref a0), some (.int x1), some (.int x2), some (.int x3), some (.int (0 : Int32))] [] h3 P
    else
      P (some (.int (0 : Int32))) h)) :
    xm_Call K' sX7_join 7 [.ref a0, .int x1, .int x2, .int x3] h P :=
  xm_call_of (C := kX7_join) hK (by decide +kernel) rfl (Nat.le_of_ble_eq_true rfl) (Or.inr ⟨a0, hr.choose, rfl, hr.choose_spec⟩) (xX7_join_0 H)

set_option maxRecDepth 100000 in
set_option maxHeartbeats 4000000 in
theorem xX7_join_14 {K : Nat} {h : xm_H} {P : Option Value → xm_H → Prop} {a0 : Nat} {x1 : Int32} {x2 : Int32} {x3 : Int32} {x4 : Int32} (H :
    (if (6 : Int32) < x4 then
      ∃ f1, xm_fld h a0 7 1 = some (.int f1) ∧ /- people -/
      xm_Call K sX7_set 7 [.ref a0, .int (f1 - (1 : Int32)), .int (0 : Int32), .int x1] h (xm_pv fun h2 =>
        ∃ f3, xm_fld h2 a0 7 1 = some (.int f3) ∧ /- people -/
        xm_Call K sX7_set 7 [.ref a0, .int (f3 - (1 : Int32)), .int (2 : Int32), .int x2] h2 (xm_pv fun h4 =>
          ∃ f5, xm_fld h4 a0 7 1 = some (.int f5) ∧ /- people -/
          xm_Call K sX7_set 7 [.ref a0, .int (f5 - (1 : Int32)), .int (3 : Int32), .int x3] h4 (xm_pv fun h6 =>
            P (some (.int (1 : Int32))) h6)))
    else
      ∃ f7, xm_fld h a0 7 1 = some (.int f7) ∧ /- people -/
      ∃ e8, xm_ld xm_st h 0 (1000 + 2) x4 = some e8 ∧
      xm_Call K sX7_set 7 [.ref a0, .int (f7 - (1 : Int32)), .int x4, .int e8] h (xm_pv fun h9 =>
        xm_L K sX7_join kX7_join 14 [some (.ref a0), some (.int x1), some (.int x2), some (.int x3), some (.int (x4 + (1 : Int32)))] [] h9 P))) :
    xm_L K sX7_join kX7_join 14 [some (.ref a0), some (.int x1), some (.int x2), some (.int x3), some (.int x4)] [] h P :=
  xm_run (fun _ _ h => h) oX7_join 30 14 0 0 [some (.ref a0), some (.int x1), some (.int x2), some (.int x3), some (.int x4)] [] h H

def kX7_copy : List xm_I := [
  i_0 0 (.aload_n 1) 1 none,
  i_f 1 (.getfield 9) 3 none 7 0 [137] 1,
  i_v 4 (.iconst 0) 1 none 0 [],
  i_0 5 (.aload_n 0) 1 none,
  i_f 6 (.getfield 9) 3 none 7 0 [137] 1,
  i_v 9 (.iconst 0) 1 none 0 [],
  i_v 10 (.bipush 67) 2 none 67 [],
  i_f 12 (.invokestatic 35) 3 none 0 0 [599, 427, 426, 118] 3,
  i_0 15 (.aload_n 0) 1 none,
  i_0 16 (.aload_n 1) 1 none,
  i_f 17 (.getfield 15) 3 none 7 1 [139] 0,
  i_f 20 (.putfield 15) 3 none 7 1 [139] 0,
  i_0 23 (.return_) 1 none]
set_option maxRecDepth 100000 in
theorem oX7_copy : xm_ok sX7_copy sX7_copy.1.cls kX7_copy = true := by decide +kernel
set_option maxRecDepth 100000 in
set_option maxHeartbeats 4000000 in
theorem xX7_copy_0 {K : Nat} {h : xm_H} {P : Option Value → xm_H → Prop} {a0 : Nat} {a1 : Nat} (H :
    ∃ q1, xm_fld h a1 7 0 = some (.ref q1) ∧ /- cells -/
    ∃ q2, xm_fld h a0 7 0 = some (.ref q2) ∧ /- cells -/
    ∃ h3, xm_cpI h q1 (0 : Int32) q2 (0 : Int32) (67 : Int32) = some h3 ∧
    ∃ f4, xm_fld h3 a1 7 1 = some (.int f4) ∧ /- people -/
    ∃ h5, xm_put h3 a0 7 1 (.int f4) = some h5 ∧ /- people -/
    P none h5) :
    xm_L K sX7_copy kX7_copy 0 [some (.ref a0), some (.ref a1)] [] h P :=
  xm_run (fun _ _ h => h) oX7_copy 14 0 0 0 [some (.ref a0), some (.ref a1)] [] h H
set_option maxRecDepth 100000 in
theorem eX7_copy {K K' : Nat} (hK : K < K') {h : xm_H} {P : Option Value → xm_H → Prop} {a0 : Nat} {a1 : Nat} (hr : ∃ fs, h[a0]? = some (.inr (7, fs))) (H :
    ∃ q1, xm_fld h a1 7 0 = some (.ref q1) ∧ /- cells -/
    ∃ q2, xm_fld h a0 7 0 = some (.ref q2) ∧ /- cells -/
    ∃ h3, xm_cpI h q1 (0 : Int32) q2 (0 : Int32) (67 : Int32) = some h3 ∧
    ∃ f4, xm_fld h3 a1 7 1 = some (.int f4) ∧ /- people -/
    ∃ h5, xm_put h3 a0 7 1 (.int f4) = some h5 ∧ /- people -/
    P none h5) :
    xm_Call K' sX7_copy 7 [.ref a0, .ref a1] h P :=
  xm_call_of (C := kX7_copy) hK (by decide +kernel) rfl (Nat.le_of_ble_eq_true rfl) (Or.inr ⟨a0, hr.choose, rfl, hr.choose_spec⟩) (xX7_copy_0 H)

def kX7_ears : List xm_I := [
  i_v 0 (.iconst 0) 1 none 0 [],
  i_0 1 (.istore_n 1) 1 none,
  i_v 2 (.iconst 0) 1 none 0 [],
  i_0 3 (.istore_n 2) 1 none,
  i_0 4 (.iload_n 2) 1 (some [0, 1, 2]),
  i_0 5 (.aload_n 0) 1 none,
  i_f 6 (.getfield 15) 3 none 7 1 [139] 0,
  i_j 9 (.if_icmp .ge 20) 3 none 19,
  i_0 12 (.iload_n 1) 1 none,
  i_0 13 (.aload_n 0) 1 none,
  i_0 14 (.iload_n 2) 1 none,
  i_v 15 (.iconst 5) 1 none 5 [],
  i_m 16 (.invokevirtual 41) 3 none 2 7 [561, 509, 510, 109, 511] 0 sX7_get,
  i_0 19 (.iload_n 2) 1 none,
  i_0 20 (.ishl) 1 none,
  i_0 21 (.ior) 1 none,
  i_0 22 (.istore_n 1) 1 none,
  i_v 23 (.iinc 2 1) 3 none 1 [],
  i_j 26 (.goto (-22)) 3 none 4,
  i_0 29 (.iload_n 1) 1 none,
  i_0 30 (.ireturn) 1 none]
set_option maxRecDepth 100000 in
theorem oX7_ears : xm_ok sX7_ears sX7_ears.1.cls kX7_ears = true := by decide +kernel
set_option maxRecDepth 100000 in
set_option maxHeartbeats 4000000 in
theorem xX7_ears_0 {K : Nat} {h : xm_H} {P : Option Value → xm_H → Prop} {a0 : Nat} (H :
    xm_L K sX7_ears kX7_ears 4 [some (.ref a0), some (.int (0 : Int32)), some (.int (0 : Int32))] [] h P) :
    xm_L K sX7_ears kX7_ears 0 [some (.ref a0), none, none] [] h P :=
  xm_run (fun _ _ h => h) oX7_ears 5 0 0 0 [some (.ref a0), none, none] [] h H
set_option maxRecDepth 100000 in
theorem eX7_ears {K K' : Nat} (hK : K < K') {h : xm_H} {P : Option Value → xm_H → Prop} {a0 : Nat} (hr : ∃ fs, h[a0]? = some (.inr (7, fs))) (H :
    xm_L K sX7_ears kX7_ears 4 [some (.ref a0), some (.int (0 : Int32)), some (.int (0 : Int32))] [] h P) :
    xm_Call K' sX7_ears 7 [.ref a0] h P :=
  xm_call_of (C := kX7_ears) hK (by decide +kernel) rfl (Nat.le_of_ble_eq_true rfl) (Or.inr ⟨a0, hr.choose, rfl, hr.choose_spec⟩) (xX7_ears_0 H)

set_option maxRecDepth 100000 in
set_option maxHeartbeats 4000000 in
theorem xX7_ears_4 {K : Nat} {h : xm_H} {P : Option Value → xm_H → Prop} {a0 : Nat} {x1 : Int32} {x2 : Int32} (H :
    ∃ f1, xm_fld h a0 7 1 = some (.int f1) ∧ /- people -/
    (if x2 < f1 then
      xm_Call K sX7_get 7 [.ref a0, .int x2, .int (5 : Int32)] h (xm_pi fun c3 h2 =>
        xm_L K sX7_ears kX7_ears 4 [some (.ref a0), some (.int (x1 ||| (c3 <<< (x2 &&& 31)))), some (.int (x2 + (1 : Int32)))] [] h2 P)
    else
      P (some (.int x1)) h)) :
    xm_L K sX7_ears kX7_ears 4 [some (.ref a0), some (.int x1), some (.int x2)] [] h P :=
  xm_run (fun _ _ h => h) oX7_ears 16 4 0 0 [some (.ref a0), some (.int x1), some (.int x2)] [] h H
end
