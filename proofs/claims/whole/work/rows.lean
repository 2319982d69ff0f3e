section
-- ===== PART A: goes FIRST, ahead of the names: the tables' words, and 'selects' of the private methods out of them =====
/-- a private method of a class that the tables say can be made, by its rows of tables_1 -/
def lw_okq (q : MethodName × Nat) : Prop := (q.1.cls ≠ "java/lang/invoke/MethodHandle" ∧ q.1.cls ≠ "java/lang/invoke/VarHandle") ∧ Cond.instantiable q.1.cls q.2 ∈ tables_1 ∧ Cond.privateMethod q.1 ∈ tables_1 ∧ Cond.instanceMethod q.1 ∈ tables_1
theorem lw_p0 : lw_okq (⟨"LampLogs", "found", "(I)I"⟩, 11) := ⟨⟨by decide +kernel, by decide +kernel⟩, List.mem_of_getElem? (i := 11) (by decide +kernel), List.mem_of_getElem? (i := 182) (by decide +kernel), List.mem_of_getElem? (i := 183) (by decide +kernel)⟩
theorem lw_p1 : lw_okq (⟨"LampLogs", "unfound", "(I)I"⟩, 11) := ⟨⟨by decide +kernel, by decide +kernel⟩, List.mem_of_getElem? (i := 11) (by decide +kernel), List.mem_of_getElem? (i := 191) (by decide +kernel), List.mem_of_getElem? (i := 192) (by decide +kernel)⟩
theorem lw_p2 : lw_okq (⟨"LampLogs$Tape", "readLaw", "(LLampLogs$Light;)Z"⟩, 5) := ⟨⟨by decide +kernel, by decide +kernel⟩, List.mem_of_getElem? (i := 21) (by decide +kernel), List.mem_of_getElem? (i := 244) (by decide +kernel), List.mem_of_getElem? (i := 245) (by decide +kernel)⟩
theorem lw_p3 : lw_okq (⟨"LampLogs$Tape", "readSign", "(C)Z"⟩, 5) := ⟨⟨by decide +kernel, by decide +kernel⟩, List.mem_of_getElem? (i := 21) (by decide +kernel), List.mem_of_getElem? (i := 248) (by decide +kernel), List.mem_of_getElem? (i := 249) (by decide +kernel)⟩
theorem lw_p4 : lw_okq (⟨"LampLogs$Tape", "byteHere", "()I"⟩, 5) := ⟨⟨by decide +kernel, by decide +kernel⟩, List.mem_of_getElem? (i := 21) (by decide +kernel), List.mem_of_getElem? (i := 252) (by decide +kernel), List.mem_of_getElem? (i := 253) (by decide +kernel)⟩
theorem lw_p5 : lw_okq (⟨"LampLogs$Tape", "failAt", "(II)Z"⟩, 5) := ⟨⟨by decide +kernel, by decide +kernel⟩, List.mem_of_getElem? (i := 21) (by decide +kernel), List.mem_of_getElem? (i := 256) (by decide +kernel), List.mem_of_getElem? (i := 257) (by decide +kernel)⟩
theorem lw_p6 : lw_okq (⟨"LampLogs$Tape", "readNumber", "(II)I"⟩, 5) := ⟨⟨by decide +kernel, by decide +kernel⟩, List.mem_of_getElem? (i := 21) (by decide +kernel), List.mem_of_getElem? (i := 260) (by decide +kernel), List.mem_of_getElem? (i := 261) (by decide +kernel)⟩
theorem lw_p7 : lw_okq (⟨"LampLogs$Tape", "readFogs", "(LLampLogs$Light;)Z"⟩, 5) := ⟨⟨by decide +kernel, by decide +kernel⟩, List.mem_of_getElem? (i := 21) (by decide +kernel), List.mem_of_getElem? (i := 267) (by decide +kernel), List.mem_of_getElem? (i := 268) (by decide +kernel)⟩
theorem lw_p8 : lw_okq (⟨"LampLogs$Tape", "readShips", "(LLampLogs$Light;)Z"⟩, 5) := ⟨⟨by decide +kernel, by decide +kernel⟩, List.mem_of_getElem? (i := 21) (by decide +kernel), List.mem_of_getElem? (i := 271) (by decide +kernel), List.mem_of_getElem? (i := 272) (by decide +kernel)⟩
theorem lw_p9 : lw_okq (⟨"LampLogs$Light", "takeSea", "(LLampLogs$Light;)V"⟩, 9) := ⟨⟨by decide +kernel, by decide +kernel⟩, List.mem_of_getElem? (i := 47) (by decide +kernel), List.mem_of_getElem? (i := 283) (by decide +kernel), List.mem_of_getElem? (i := 284) (by decide +kernel)⟩
theorem lw_p10 : lw_okq (⟨"LampLogs$Light", "outward", "(II)I"⟩, 9) := ⟨⟨by decide +kernel, by decide +kernel⟩, List.mem_of_getElem? (i := 47) (by decide +kernel), List.mem_of_getElem? (i := 339) (by decide +kernel), List.mem_of_getElem? (i := 340) (by decide +kernel)⟩
theorem lw_p11 : lw_okq (⟨"LampLogs", "differencesIfLifted", "(II)I"⟩, 11) := ⟨⟨by decide +kernel, by decide +kernel⟩, List.mem_of_getElem? (i := 11) (by decide +kernel), List.mem_of_getElem? (i := 440) (by decide +kernel), List.mem_of_getElem? (i := 441) (by decide +kernel)⟩
theorem lw_p12 : lw_okq (⟨"LampLogs", "bestTurn", "(IZI)I"⟩, 11) := ⟨⟨by decide +kernel, by decide +kernel⟩, List.mem_of_getElem? (i := 11) (by decide +kernel), List.mem_of_getElem? (i := 466) (by decide +kernel), List.mem_of_getElem? (i := 467) (by decide +kernel)⟩
theorem lw_p13 : lw_okq (⟨"LampLogs", "balanceBehind", "(I)I"⟩, 11) := ⟨⟨by decide +kernel, by decide +kernel⟩, List.mem_of_getElem? (i := 11) (by decide +kernel), List.mem_of_getElem? (i := 470) (by decide +kernel), List.mem_of_getElem? (i := 471) (by decide +kernel)⟩
theorem lw_p14 : lw_okq (⟨"LampLogs", "kindsThatFit", "(ILLampLogs$Row;II)I"⟩, 11) := ⟨⟨by decide +kernel, by decide +kernel⟩, List.mem_of_getElem? (i := 11) (by decide +kernel), List.mem_of_getElem? (i := 483) (by decide +kernel), List.mem_of_getElem? (i := 484) (by decide +kernel)⟩
theorem lw_p15 : lw_okq (⟨"LampLogs", "probeFits", "(LLampLogs$Row;II)Z"⟩, 11) := ⟨⟨by decide +kernel, by decide +kernel⟩, List.mem_of_getElem? (i := 11) (by decide +kernel), List.mem_of_getElem? (i := 487) (by decide +kernel), List.mem_of_getElem? (i := 488) (by decide +kernel)⟩
def lw_privs_1 : List (MethodName × Nat) := [(⟨"LampLogs", "found", "(I)I"⟩, 11), (⟨"LampLogs", "unfound", "(I)I"⟩, 11), (⟨"LampLogs$Tape", "readLaw", "(LLampLogs$Light;)Z"⟩, 5), (⟨"LampLogs$Tape", "readSign", "(C)Z"⟩, 5), (⟨"LampLogs$Tape", "byteHere", "()I"⟩, 5), (⟨"LampLogs$Tape", "failAt", "(II)Z"⟩, 5), (⟨"LampLogs$Tape", "readNumber", "(II)I"⟩, 5), (⟨"LampLogs$Tape", "readFogs", "(LLampLogs$Light;)Z"⟩, 5), (⟨"LampLogs$Tape", "readShips", "(LLampLogs$Light;)Z"⟩, 5), (⟨"LampLogs$Light", "takeSea", "(LLampLogs$Light;)V"⟩, 9), (⟨"LampLogs$Light", "outward", "(II)I"⟩, 9), (⟨"LampLogs", "differencesIfLifted", "(II)I"⟩, 11), (⟨"LampLogs", "bestTurn", "(IZI)I"⟩, 11), (⟨"LampLogs", "balanceBehind", "(I)I"⟩, 11), (⟨"LampLogs", "kindsThatFit", "(ILLampLogs$Row;II)I"⟩, 11), (⟨"LampLogs", "probeFits", "(LLampLogs$Row;II)Z"⟩, 11)]
theorem lw_r1 : ∀ q ∈ lw_privs_1, lw_okq q := List.forall_mem_cons.mpr ⟨lw_p0, List.forall_mem_cons.mpr ⟨lw_p1, List.forall_mem_cons.mpr ⟨lw_p2, List.forall_mem_cons.mpr ⟨lw_p3, List.forall_mem_cons.mpr ⟨lw_p4, List.forall_mem_cons.mpr ⟨lw_p5, List.forall_mem_cons.mpr ⟨lw_p6, List.forall_mem_cons.mpr ⟨lw_p7, List.forall_mem_cons.mpr ⟨lw_p8, List.forall_mem_cons.mpr ⟨lw_p9, List.forall_mem_cons.mpr ⟨lw_p10, List.forall_mem_cons.mpr ⟨lw_p11, List.forall_mem_cons.mpr ⟨lw_p12, List.forall_mem_cons.mpr ⟨lw_p13, List.forall_mem_cons.mpr ⟨lw_p14, List.forall_mem_cons.mpr ⟨lw_p15, fun _ h => absurd h List.not_mem_nil⟩⟩⟩⟩⟩⟩⟩⟩⟩⟩⟩⟩⟩⟩⟩⟩
theorem lw_p16 : lw_okq (⟨"LampLogs", "cellsThatFit", "(ILLampLogs$Row;II)I"⟩, 11) := ⟨⟨by decide +kernel, by decide +kernel⟩, List.mem_of_getElem? (i := 11) (by decide +kernel), List.mem_of_getElem? (i := 492) (by decide +kernel), List.mem_of_getElem? (i := 493) (by decide +kernel)⟩
theorem lw_p17 : lw_okq (⟨"LampLogs", "eyesThatFit", "(ILLampLogs$Row;II)I"⟩, 11) := ⟨⟨by decide +kernel, by decide +kernel⟩, List.mem_of_getElem? (i := 11) (by decide +kernel), List.mem_of_getElem? (i := 504) (by decide +kernel), List.mem_of_getElem? (i := 505) (by decide +kernel)⟩
theorem lw_p18 : lw_okq (⟨"LampLogs", "oilsThatFit", "(IILLampLogs$Row;II)I"⟩, 11) := ⟨⟨by decide +kernel, by decide +kernel⟩, List.mem_of_getElem? (i := 11) (by decide +kernel), List.mem_of_getElem? (i := 508) (by decide +kernel), List.mem_of_getElem? (i := 509) (by decide +kernel)⟩
theorem lw_p19 : lw_okq (⟨"LampLogs", "isSameIfLifted", "(II)Z"⟩, 11) := ⟨⟨by decide +kernel, by decide +kernel⟩, List.mem_of_getElem? (i := 11) (by decide +kernel), List.mem_of_getElem? (i := 518) (by decide +kernel), List.mem_of_getElem? (i := 519) (by decide +kernel)⟩
theorem lw_p20 : lw_okq (⟨"LampLogs", "casesOf", "(II)J"⟩, 11) := ⟨⟨by decide +kernel, by decide +kernel⟩, List.mem_of_getElem? (i := 11) (by decide +kernel), List.mem_of_getElem? (i := 523) (by decide +kernel), List.mem_of_getElem? (i := 524) (by decide +kernel)⟩
theorem lw_p21 : lw_okq (⟨"LampLogs", "asked", "(III)I"⟩, 11) := ⟨⟨by decide +kernel, by decide +kernel⟩, List.mem_of_getElem? (i := 11) (by decide +kernel), List.mem_of_getElem? (i := 573) (by decide +kernel), List.mem_of_getElem? (i := 574) (by decide +kernel)⟩
theorem lw_p22 : lw_okq (⟨"LampLogs", "begun", "(III)I"⟩, 11) := ⟨⟨by decide +kernel, by decide +kernel⟩, List.mem_of_getElem? (i := 11) (by decide +kernel), List.mem_of_getElem? (i := 581) (by decide +kernel), List.mem_of_getElem? (i := 582) (by decide +kernel)⟩
theorem lw_p23 : lw_okq (⟨"LampLogs", "leave", "(I)V"⟩, 11) := ⟨⟨by decide +kernel, by decide +kernel⟩, List.mem_of_getElem? (i := 11) (by decide +kernel), List.mem_of_getElem? (i := 585) (by decide +kernel), List.mem_of_getElem? (i := 586) (by decide +kernel)⟩
theorem lw_p24 : lw_okq (⟨"LampLogs", "rowsThere", "()I"⟩, 11) := ⟨⟨by decide +kernel, by decide +kernel⟩, List.mem_of_getElem? (i := 11) (by decide +kernel), List.mem_of_getElem? (i := 597) (by decide +kernel), List.mem_of_getElem? (i := 598) (by decide +kernel)⟩
theorem lw_p25 : lw_okq (⟨"LampLogsModel", "finding", "(I)I"⟩, 27) := ⟨⟨by decide +kernel, by decide +kernel⟩, List.mem_of_getElem? (i := 609) (by decide +kernel), List.mem_of_getElem? (i := 711) (by decide +kernel), List.mem_of_getElem? (i := 712) (by decide +kernel)⟩
theorem lw_p26 : lw_okq (⟨"LampLogsModel", "begin", "()V"⟩, 27) := ⟨⟨by decide +kernel, by decide +kernel⟩, List.mem_of_getElem? (i := 609) (by decide +kernel), List.mem_of_getElem? (i := 742) (by decide +kernel), List.mem_of_getElem? (i := 743) (by decide +kernel)⟩
theorem lw_p27 : lw_okq (⟨"LampLogsModel", "nextToken", "()V"⟩, 27) := ⟨⟨by decide +kernel, by decide +kernel⟩, List.mem_of_getElem? (i := 609) (by decide +kernel), List.mem_of_getElem? (i := 746) (by decide +kernel), List.mem_of_getElem? (i := 747) (by decide +kernel)⟩
theorem lw_p28 : lw_okq (⟨"LampLogsModel", "isLetter", "(I)Z"⟩, 27) := ⟨⟨by decide +kernel, by decide +kernel⟩, List.mem_of_getElem? (i := 609) (by decide +kernel), List.mem_of_getElem? (i := 755) (by decide +kernel), List.mem_of_getElem? (i := 756) (by decide +kernel)⟩
theorem lw_p29 : lw_okq (⟨"LampLogsModel", "must", "(Z)V"⟩, 27) := ⟨⟨by decide +kernel, by decide +kernel⟩, List.mem_of_getElem? (i := 609) (by decide +kernel), List.mem_of_getElem? (i := 759) (by decide +kernel), List.mem_of_getElem? (i := 760) (by decide +kernel)⟩
theorem lw_p30 : lw_okq (⟨"LampLogsModel", "bad", "(I)V"⟩, 27) := ⟨⟨by decide +kernel, by decide +kernel⟩, List.mem_of_getElem? (i := 609) (by decide +kernel), List.mem_of_getElem? (i := 763) (by decide +kernel), List.mem_of_getElem? (i := 764) (by decide +kernel)⟩
theorem lw_p31 : lw_okq (⟨"LampLogsModel", "number", "(II)I"⟩, 27) := ⟨⟨by decide +kernel, by decide +kernel⟩, List.mem_of_getElem? (i := 609) (by decide +kernel), List.mem_of_getElem? (i := 767) (by decide +kernel), List.mem_of_getElem? (i := 768) (by decide +kernel)⟩
def lw_privs_2 : List (MethodName × Nat) := [(⟨"LampLogs", "cellsThatFit", "(ILLampLogs$Row;II)I"⟩, 11), (⟨"LampLogs", "eyesThatFit", "(ILLampLogs$Row;II)I"⟩, 11), (⟨"LampLogs", "oilsThatFit", "(IILLampLogs$Row;II)I"⟩, 11), (⟨"LampLogs", "isSameIfLifted", "(II)Z"⟩, 11), (⟨"LampLogs", "casesOf", "(II)J"⟩, 11), (⟨"LampLogs", "asked", "(III)I"⟩, 11), (⟨"LampLogs", "begun", "(III)I"⟩, 11), (⟨"LampLogs", "leave", "(I)V"⟩, 11), (⟨"LampLogs", "rowsThere", "()I"⟩, 11), (⟨"LampLogsModel", "finding", "(I)I"⟩, 27), (⟨"LampLogsModel", "begin", "()V"⟩, 27), (⟨"LampLogsModel", "nextToken", "()V"⟩, 27), (⟨"LampLogsModel", "isLetter", "(I)Z"⟩, 27), (⟨"LampLogsModel", "must", "(Z)V"⟩, 27), (⟨"LampLogsModel", "bad", "(I)V"⟩, 27), (⟨"LampLogsModel", "number", "(II)I"⟩, 27)]
theorem lw_r2 : ∀ q ∈ lw_privs_2, lw_okq q := List.forall_mem_cons.mpr ⟨lw_p16, List.forall_mem_cons.mpr ⟨lw_p17, List.forall_mem_cons.mpr ⟨lw_p18, List.forall_mem_cons.mpr ⟨lw_p19, List.forall_mem_cons.mpr ⟨lw_p20, List.forall_mem_cons.mpr ⟨lw_p21, List.forall_mem_cons.mpr ⟨lw_p22, List.forall_mem_cons.mpr ⟨lw_p23, List.forall_mem_cons.mpr ⟨lw_p24, List.forall_mem_cons.mpr ⟨lw_p25, List.forall_mem_cons.mpr ⟨lw_p26, List.forall_mem_cons.mpr ⟨lw_p27, List.forall_mem_cons.mpr ⟨lw_p28, List.forall_mem_cons.mpr ⟨lw_p29, List.forall_mem_cons.mpr ⟨lw_p30, List.forall_mem_cons.mpr ⟨lw_p31, fun _ h => absurd h List.not_mem_nil⟩⟩⟩⟩⟩⟩⟩⟩⟩⟩⟩⟩⟩⟩⟩⟩
theorem lw_p32 : lw_okq (⟨"LampLogsModel", "mustSign", "(I)V"⟩, 27) := ⟨⟨by decide +kernel, by decide +kernel⟩, List.mem_of_getElem? (i := 609) (by decide +kernel), List.mem_of_getElem? (i := 771) (by decide +kernel), List.mem_of_getElem? (i := 772) (by decide +kernel)⟩
theorem lw_p33 : lw_okq (⟨"LampLogsModel", "readFog", "()V"⟩, 27) := ⟨⟨by decide +kernel, by decide +kernel⟩, List.mem_of_getElem? (i := 609) (by decide +kernel), List.mem_of_getElem? (i := 775) (by decide +kernel), List.mem_of_getElem? (i := 776) (by decide +kernel)⟩
theorem lw_p34 : lw_okq (⟨"LampLogsModel", "isSort", "()Z"⟩, 27) := ⟨⟨by decide +kernel, by decide +kernel⟩, List.mem_of_getElem? (i := 609) (by decide +kernel), List.mem_of_getElem? (i := 779) (by decide +kernel), List.mem_of_getElem? (i := 780) (by decide +kernel)⟩
theorem lw_p35 : lw_okq (⟨"LampLogsModel", "readShip", "()V"⟩, 27) := ⟨⟨by decide +kernel, by decide +kernel⟩, List.mem_of_getElem? (i := 609) (by decide +kernel), List.mem_of_getElem? (i := 786) (by decide +kernel), List.mem_of_getElem? (i := 787) (by decide +kernel)⟩
theorem lw_p36 : lw_okq (⟨"LampLogsModel", "failed", "()Z"⟩, 27) := ⟨⟨by decide +kernel, by decide +kernel⟩, List.mem_of_getElem? (i := 609) (by decide +kernel), List.mem_of_getElem? (i := 790) (by decide +kernel), List.mem_of_getElem? (i := 791) (by decide +kernel)⟩
theorem lw_p37 : lw_okq (⟨"LampLogsModel", "isThere", "()Z"⟩, 27) := ⟨⟨by decide +kernel, by decide +kernel⟩, List.mem_of_getElem? (i := 609) (by decide +kernel), List.mem_of_getElem? (i := 799) (by decide +kernel), List.mem_of_getElem? (i := 800) (by decide +kernel)⟩
theorem lw_p38 : lw_okq (⟨"LampLogsModel", "keep", "()V"⟩, 27) := ⟨⟨by decide +kernel, by decide +kernel⟩, List.mem_of_getElem? (i := 609) (by decide +kernel), List.mem_of_getElem? (i := 805) (by decide +kernel), List.mem_of_getElem? (i := 806) (by decide +kernel)⟩
theorem lw_p39 : lw_okq (⟨"LampLogsModel", "isFog", "(I)Z"⟩, 27) := ⟨⟨by decide +kernel, by decide +kernel⟩, List.mem_of_getElem? (i := 609) (by decide +kernel), List.mem_of_getElem? (i := 845) (by decide +kernel), List.mem_of_getElem? (i := 846) (by decide +kernel)⟩
theorem lw_p40 : lw_okq (⟨"LampLogsModel", "isShip", "(I)Z"⟩, 27) := ⟨⟨by decide +kernel, by decide +kernel⟩, List.mem_of_getElem? (i := 609) (by decide +kernel), List.mem_of_getElem? (i := 859) (by decide +kernel), List.mem_of_getElem? (i := 860) (by decide +kernel)⟩
theorem lw_p41 : lw_okq (⟨"LampLogsModel", "isCell", "(I)Z"⟩, 27) := ⟨⟨by decide +kernel, by decide +kernel⟩, List.mem_of_getElem? (i := 609) (by decide +kernel), List.mem_of_getElem? (i := 863) (by decide +kernel), List.mem_of_getElem? (i := 864) (by decide +kernel)⟩
theorem lw_p42 : lw_okq (⟨"LampLogsModel", "layThen", "()V"⟩, 27) := ⟨⟨by decide +kernel, by decide +kernel⟩, List.mem_of_getElem? (i := 609) (by decide +kernel), List.mem_of_getElem? (i := 887) (by decide +kernel), List.mem_of_getElem? (i := 888) (by decide +kernel)⟩
theorem lw_p43 : lw_okq (⟨"LampLogsModel", "afterTurns", "(III)I"⟩, 27) := ⟨⟨by decide +kernel, by decide +kernel⟩, List.mem_of_getElem? (i := 609) (by decide +kernel), List.mem_of_getElem? (i := 934) (by decide +kernel), List.mem_of_getElem? (i := 935) (by decide +kernel)⟩
theorem lw_p44 : lw_okq (⟨"LampLogsModel", "rowFound", "(III)I"⟩, 27) := ⟨⟨by decide +kernel, by decide +kernel⟩, List.mem_of_getElem? (i := 609) (by decide +kernel), List.mem_of_getElem? (i := 945) (by decide +kernel), List.mem_of_getElem? (i := 946) (by decide +kernel)⟩
theorem lw_p45 : lw_okq (⟨"LampLogsModel", "tryAll", "(IIIIII)V"⟩, 27) := ⟨⟨by decide +kernel, by decide +kernel⟩, List.mem_of_getElem? (i := 609) (by decide +kernel), List.mem_of_getElem? (i := 949) (by decide +kernel), List.mem_of_getElem? (i := 950) (by decide +kernel)⟩
theorem lw_p46 : lw_okq (⟨"LampLogsModel", "isSo", "(III)Z"⟩, 27) := ⟨⟨by decide +kernel, by decide +kernel⟩, List.mem_of_getElem? (i := 609) (by decide +kernel), List.mem_of_getElem? (i := 953) (by decide +kernel), List.mem_of_getElem? (i := 954) (by decide +kernel)⟩
theorem lw_p47 : lw_okq (⟨"LampLogsModel", "sizeOf", "(I)I"⟩, 27) := ⟨⟨by decide +kernel, by decide +kernel⟩, List.mem_of_getElem? (i := 609) (by decide +kernel), List.mem_of_getElem? (i := 1003) (by decide +kernel), List.mem_of_getElem? (i := 1004) (by decide +kernel)⟩
def lw_privs_3 : List (MethodName × Nat) := [(⟨"LampLogsModel", "mustSign", "(I)V"⟩, 27), (⟨"LampLogsModel", "readFog", "()V"⟩, 27), (⟨"LampLogsModel", "isSort", "()Z"⟩, 27), (⟨"LampLogsModel", "readShip", "()V"⟩, 27), (⟨"LampLogsModel", "failed", "()Z"⟩, 27), (⟨"LampLogsModel", "isThere", "()Z"⟩, 27), (⟨"LampLogsModel", "keep", "()V"⟩, 27), (⟨"LampLogsModel", "isFog", "(I)Z"⟩, 27), (⟨"LampLogsModel", "isShip", "(I)Z"⟩, 27), (⟨"LampLogsModel", "isCell", "(I)Z"⟩, 27), (⟨"LampLogsModel", "layThen", "()V"⟩, 27), (⟨"LampLogsModel", "afterTurns", "(III)I"⟩, 27), (⟨"LampLogsModel", "rowFound", "(III)I"⟩, 27), (⟨"LampLogsModel", "tryAll", "(IIIIII)V"⟩, 27), (⟨"LampLogsModel", "isSo", "(III)Z"⟩, 27), (⟨"LampLogsModel", "sizeOf", "(I)I"⟩, 27)]
theorem lw_r3 : ∀ q ∈ lw_privs_3, lw_okq q := List.forall_mem_cons.mpr ⟨lw_p32, List.forall_mem_cons.mpr ⟨lw_p33, List.forall_mem_cons.mpr ⟨lw_p34, List.forall_mem_cons.mpr ⟨lw_p35, List.forall_mem_cons.mpr ⟨lw_p36, List.forall_mem_cons.mpr ⟨lw_p37, List.forall_mem_cons.mpr ⟨lw_p38, List.forall_mem_cons.mpr ⟨lw_p39, List.forall_mem_cons.mpr ⟨lw_p40, List.forall_mem_cons.mpr ⟨lw_p41, List.forall_mem_cons.mpr ⟨lw_p42, List.forall_mem_cons.mpr ⟨lw_p43, List.forall_mem_cons.mpr ⟨lw_p44, List.forall_mem_cons.mpr ⟨lw_p45, List.forall_mem_cons.mpr ⟨lw_p46, List.forall_mem_cons.mpr ⟨lw_p47, fun _ h => absurd h List.not_mem_nil⟩⟩⟩⟩⟩⟩⟩⟩⟩⟩⟩⟩⟩⟩⟩⟩
theorem lw_p48 : lw_okq (⟨"LampLogsModel", "gullSize", "(I)I"⟩, 27) := ⟨⟨by decide +kernel, by decide +kernel⟩, List.mem_of_getElem? (i := 609) (by decide +kernel), List.mem_of_getElem? (i := 1007) (by decide +kernel), List.mem_of_getElem? (i := 1008) (by decide +kernel)⟩
theorem lw_p49 : lw_okq (⟨"LampLogsModel", "began", "(I)V"⟩, 27) := ⟨⟨by decide +kernel, by decide +kernel⟩, List.mem_of_getElem? (i := 609) (by decide +kernel), List.mem_of_getElem? (i := 1011) (by decide +kernel), List.mem_of_getElem? (i := 1012) (by decide +kernel)⟩
theorem lw_p50 : lw_okq (⟨"LampLogsModel", "plainSize", "(I)I"⟩, 27) := ⟨⟨by decide +kernel, by decide +kernel⟩, List.mem_of_getElem? (i := 609) (by decide +kernel), List.mem_of_getElem? (i := 1015) (by decide +kernel), List.mem_of_getElem? (i := 1016) (by decide +kernel)⟩
theorem lw_p51 : lw_okq (⟨"LampLogsModel", "markOf", "(I)I"⟩, 27) := ⟨⟨by decide +kernel, by decide +kernel⟩, List.mem_of_getElem? (i := 609) (by decide +kernel), List.mem_of_getElem? (i := 1019) (by decide +kernel), List.mem_of_getElem? (i := 1020) (by decide +kernel)⟩
def lw_privs_4 : List (MethodName × Nat) := [(⟨"LampLogsModel", "gullSize", "(I)I"⟩, 27), (⟨"LampLogsModel", "began", "(I)V"⟩, 27), (⟨"LampLogsModel", "plainSize", "(I)I"⟩, 27), (⟨"LampLogsModel", "markOf", "(I)I"⟩, 27)]
theorem lw_r4 : ∀ q ∈ lw_privs_4, lw_okq q := List.forall_mem_cons.mpr ⟨lw_p48, List.forall_mem_cons.mpr ⟨lw_p49, List.forall_mem_cons.mpr ⟨lw_p50, List.forall_mem_cons.mpr ⟨lw_p51, fun _ h => absurd h List.not_mem_nil⟩⟩⟩⟩
def lw_privs : List (MethodName × Nat) := lw_privs_1 ++ (lw_privs_2 ++ (lw_privs_3 ++ (lw_privs_4)))
def lw_tbl : List Cond := k2_sels lw_privs ++ tables_1
theorem lw_privs_ok : ∀ q ∈ lw_privs, lw_okq q := by
  show ∀ q ∈ lw_privs_1 ++ (lw_privs_2 ++ (lw_privs_3 ++ (lw_privs_4))), lw_okq q
  exact List.forall_mem_append.mpr ⟨lw_r1, List.forall_mem_append.mpr ⟨lw_r2, List.forall_mem_append.mpr ⟨lw_r3, lw_r4⟩⟩⟩
end
section
def RX0 : String := "LampLogs$Acts"
def TX0 : u_T := fun k => match k with
  | 0 => ("LampLogs$Acts", "ring", "[LLampLogs$Light;", true)
  | 1 => ("LampLogs$Acts", "next", "I", false)
  | _ => ("LampLogs$Acts", "kept", "I", false)
def tyX0 : Nat → FieldType := fun k => match k with
  | 0 => .array (.object "LampLogs$Light")
  | 1 => .int
  | _ => .int
theorem nmX0 : ∀ a, a < 3 → ∀ b, b < 3 → a ≠ b → (TX0 a).2.1 ≠ (TX0 b).2.1 := by decide +kernel
theorem tyX0_ok : ∀ k, k < 3 → parseFieldDescriptor (TX0 k).2.2.1 = some (tyX0 k) := by decide +kernel
abbrev cX0_init : ByteArray := prog_2_method_1_code
def yX0_init : MethodName := ⟨RX0, "<init>", "()V"⟩
abbrev cX0_forget : ByteArray := prog_2_method_2_code
def yX0_forget : MethodName := ⟨RX0, "forget", "()V"⟩
abbrev cX0_keep : ByteArray := prog_2_method_3_code
def yX0_keep : MethodName := ⟨RX0, "keep", "(LLampLogs$Light;)V"⟩
abbrev cX0_takeBack : ByteArray := prog_2_method_4_code
def yX0_takeBack : MethodName := ⟨RX0, "takeBack", "(LLampLogs$Light;)I"⟩
def RX1 : String := "LampLogs$Light"
def TX1 : u_T := fun k => match k with
  | 0 => ("LampLogs$Light", "thicks", "[I", true)
  | 1 => ("LampLogs$Light", "kinds", "[I", true)
  | 2 => ("LampLogs$Light", "places", "[I", true)
  | 3 => ("LampLogs$Light", "cellCount", "I", false)
  | 4 => ("LampLogs$Light", "eyesight", "I", false)
  | 5 => ("LampLogs$Light", "oil", "I", false)
  | 6 => ("LampLogs$Light", "watch", "I", false)
  | 7 => ("LampLogs$Light", "fogCount", "I", false)
  | _ => ("LampLogs$Light", "shipCount", "I", false)
def tyX1 : Nat → FieldType := fun k => match k with
  | 0 => .array .int
  | 1 => .array .int
  | 2 => .array .int
  | 3 => .int
  | 4 => .int
  | 5 => .int
  | 6 => .int
  | 7 => .int
  | _ => .int
theorem nmX1 : ∀ a, a < 9 → ∀ b, b < 9 → a ≠ b → (TX1 a).2.1 ≠ (TX1 b).2.1 := by decide +kernel
theorem tyX1_ok : ∀ k, k < 9 → parseFieldDescriptor (TX1 k).2.2.1 = some (tyX1 k) := by decide +kernel
abbrev cX1_init : ByteArray := prog_3_method_1_code
def yX1_init : MethodName := ⟨RX1, "<init>", "()V"⟩
abbrev cX1_isLit : ByteArray := prog_3_method_2_code
def yX1_isLit : MethodName := ⟨RX1, "isLit", "()Z"⟩
abbrev cX1_clear : ByteArray := prog_3_method_3_code
def yX1_clear : MethodName := ⟨RX1, "clear", "()V"⟩
abbrev cX1_takeFrom : ByteArray := prog_3_method_4_code
def yX1_takeFrom : MethodName := ⟨RX1, "takeFrom", "(LLampLogs$Light;)V"⟩
abbrev cX1_takeOneShip : ByteArray := prog_3_method_5_code
def yX1_takeOneShip : MethodName := ⟨RX1, "takeOneShip", "(LLampLogs$Light;I)V"⟩
abbrev cX1_takeSea : ByteArray := prog_3_method_6_code
def yX1_takeSea : MethodName := ⟨RX1, "takeSea", "(LLampLogs$Light;)V"⟩
abbrev cX1_takeShips : ByteArray := prog_3_method_7_code
def yX1_takeShips : MethodName := ⟨RX1, "takeShips", "(LLampLogs$Light;)V"⟩
abbrev cX1_thickOf : ByteArray := prog_3_method_8_code
def yX1_thickOf : MethodName := ⟨RX1, "thickOf", "(I)I"⟩
abbrev cX1_allThick : ByteArray := prog_3_method_9_code
def yX1_allThick : MethodName := ⟨RX1, "allThick", "()I"⟩
abbrev cX1_shipsAshore : ByteArray := prog_3_method_10_code
def yX1_shipsAshore : MethodName := ⟨RX1, "shipsAshore", "()I"⟩
abbrev cX1_loggedOf : ByteArray := prog_3_method_11_code
def yX1_loggedOf : MethodName := ⟨RX1, "loggedOf", "(I)I"⟩
abbrev cX1_differOn : ByteArray := prog_3_method_12_code
def yX1_differOn : MethodName := ⟨RX1, "differOn", "(I)Z"⟩
abbrev cX1_shipsSeen : ByteArray := prog_3_method_13_code
def yX1_shipsSeen : MethodName := ⟨RX1, "shipsSeen", "(I)I"⟩
abbrev cX1_nextPlaceOf : ByteArray := prog_3_method_14_code
def yX1_nextPlaceOf : MethodName := ⟨RX1, "nextPlaceOf", "(I)I"⟩
abbrev cX1_inward : ByteArray := prog_3_method_15_code
def yX1_inward : MethodName := ⟨RX1, "inward", "(II)I"⟩
abbrev cX1_outward : ByteArray := prog_3_method_16_code
def yX1_outward : MethodName := ⟨RX1, "outward", "(II)I"⟩
abbrev cX1_addOil : ByteArray := prog_3_method_17_code
def yX1_addOil : MethodName := ⟨RX1, "addOil", "(I)V"⟩
abbrev cX1_passWatch : ByteArray := prog_3_method_18_code
def yX1_passWatch : MethodName := ⟨RX1, "passWatch", "()V"⟩
abbrev cX1_passWatches : ByteArray := prog_3_method_19_code
def yX1_passWatches : MethodName := ⟨RX1, "passWatches", "(I)V"⟩
abbrev cX1_befall : ByteArray := prog_3_method_20_code
def yX1_befall : MethodName := ⟨RX1, "befall", "(J)V"⟩
def RX2 : String := "LampLogs$Row"
def TX2 : u_T := fun k => match k with
  | 0 => ("LampLogs$Row", "items", "[I", true)
  | 1 => ("LampLogs$Row", "missing", "Z", false)
  | 2 => ("LampLogs$Row", "lane", "I", false)
  | _ => ("LampLogs$Row", "length", "I", false)
def tyX2 : Nat → FieldType := fun k => match k with
  | 0 => .array .int
  | 1 => .boolean
  | 2 => .int
  | _ => .int
theorem nmX2 : ∀ a, a < 4 → ∀ b, b < 4 → a ≠ b → (TX2 a).2.1 ≠ (TX2 b).2.1 := by decide +kernel
theorem tyX2_ok : ∀ k, k < 4 → parseFieldDescriptor (TX2 k).2.2.1 = some (tyX2 k) := by decide +kernel
abbrev cX2_init : ByteArray := prog_4_method_1_code
def yX2_init : MethodName := ⟨RX2, "<init>", "()V"⟩
abbrev cX2_begin : ByteArray := prog_4_method_2_code
def yX2_begin : MethodName := ⟨RX2, "begin", "(II)V"⟩
abbrev cX2_hasSpan : ByteArray := prog_4_method_3_code
def yX2_hasSpan : MethodName := ⟨RX2, "hasSpan", "(II)Z"⟩
abbrev cX2_findingOf : ByteArray := prog_4_method_4_code
def yX2_findingOf : MethodName := ⟨RX2, "findingOf", "(II)I"⟩
abbrev cX2_put : ByteArray := prog_4_method_5_code
def yX2_put : MethodName := ⟨RX2, "put", "(II)I"⟩
def RX3 : String := "LampLogs$Tape"
def TX3 : u_T := fun k => match k with
  | 0 => ("LampLogs$Tape", "bytes", "[I", true)
  | 1 => ("LampLogs$Tape", "length", "I", false)
  | 2 => ("LampLogs$Tape", "at", "I", false)
  | 3 => ("LampLogs$Tape", "faultNumber", "I", false)
  | _ => ("LampLogs$Tape", "faultPlace", "I", false)
def tyX3 : Nat → FieldType := fun k => match k with
  | 0 => .array .int
  | 1 => .int
  | 2 => .int
  | 3 => .int
  | _ => .int
theorem nmX3 : ∀ a, a < 5 → ∀ b, b < 5 → a ≠ b → (TX3 a).2.1 ≠ (TX3 b).2.1 := by decide +kernel
theorem tyX3_ok : ∀ k, k < 5 → parseFieldDescriptor (TX3 k).2.2.1 = some (tyX3 k) := by decide +kernel
abbrev cX3_init : ByteArray := prog_5_method_1_code
def yX3_init : MethodName := ⟨RX3, "<init>", "()V"⟩
abbrev cX3_append : ByteArray := prog_5_method_2_code
def yX3_append : MethodName := ⟨RX3, "append", "(I)I"⟩
abbrev cX3_readInto : ByteArray := prog_5_method_3_code
def yX3_readInto : MethodName := ⟨RX3, "readInto", "(LLampLogs$Light;)Z"⟩
abbrev cX3_failAt : ByteArray := prog_5_method_4_code
def yX3_failAt : MethodName := ⟨RX3, "failAt", "(II)Z"⟩
abbrev cX3_byteHere : ByteArray := prog_5_method_5_code
def yX3_byteHere : MethodName := ⟨RX3, "byteHere", "()I"⟩
abbrev cX3_readSign : ByteArray := prog_5_method_6_code
def yX3_readSign : MethodName := ⟨RX3, "readSign", "(C)Z"⟩
abbrev cX3_readNumber : ByteArray := prog_5_method_7_code
def yX3_readNumber : MethodName := ⟨RX3, "readNumber", "(II)I"⟩
abbrev cX3_readLaw : ByteArray := prog_5_method_8_code
def yX3_readLaw : MethodName := ⟨RX3, "readLaw", "(LLampLogs$Light;)Z"⟩
abbrev cX3_readFogs : ByteArray := prog_5_method_9_code
def yX3_readFogs : MethodName := ⟨RX3, "readFogs", "(LLampLogs$Light;)Z"⟩
abbrev cX3_readShips : ByteArray := prog_5_method_10_code
def yX3_readShips : MethodName := ⟨RX3, "readShips", "(LLampLogs$Light;)Z"⟩
abbrev cX3_kindOfSort : ByteArray := prog_5_method_11_code
def yX3_kindOfSort : MethodName := ⟨RX3, "kindOfSort", "(I)I"⟩
def RX4 : String := "LampLogs"
def TX4 : u_T := fun k => match k with
  | 0 => ("LampLogs", "rows", "[LLampLogs$Row;", true)
  | 1 => ("LampLogs", "tape", "LLampLogs$Tape;", true)
  | 2 => ("LampLogs", "now", "LLampLogs$Light;", true)
  | 3 => ("LampLogs", "probe", "LLampLogs$Light;", true)
  | 4 => ("LampLogs", "later", "LLampLogs$Light;", true)
  | 5 => ("LampLogs", "acts", "LLampLogs$Acts;", true)
  | 6 => ("LampLogs", "images", "[LLampLogs$Light;", true)
  | 7 => ("LampLogs", "steps", "[I", true)
  | 8 => ("LampLogs", "stepCount", "I", false)
  | 9 => ("LampLogs", "latestFault", "I", false)
  | _ => ("LampLogs", "latestFinding", "I", false)
def tyX4 : Nat → FieldType := fun k => match k with
  | 0 => .array (.object "LampLogs$Row")
  | 1 => .object "LampLogs$Tape"
  | 2 => .object "LampLogs$Light"
  | 3 => .object "LampLogs$Light"
  | 4 => .object "LampLogs$Light"
  | 5 => .object "LampLogs$Acts"
  | 6 => .array (.object "LampLogs$Light")
  | 7 => .array .int
  | 8 => .int
  | 9 => .int
  | _ => .int
theorem nmX4 : ∀ a, a < 11 → ∀ b, b < 11 → a ≠ b → (TX4 a).2.1 ≠ (TX4 b).2.1 := by decide +kernel
theorem tyX4_ok : ∀ k, k < 11 → parseFieldDescriptor (TX4 k).2.2.1 = some (tyX4 k) := by decide +kernel
abbrev cX4_init : ByteArray := prog_1_method_1_code
def yX4_init : MethodName := ⟨RX4, "<init>", "()V"⟩
abbrev cX4_row : ByteArray := prog_1_method_2_code
def yX4_row : MethodName := ⟨RX4, "row", "(III)I"⟩
abbrev cX4_set : ByteArray := prog_1_method_3_code
def yX4_set : MethodName := ⟨RX4, "set", "(III)I"⟩
abbrev cX4_copy : ByteArray := prog_1_method_4_code
def yX4_copy : MethodName := ⟨RX4, "copy", "(IIIII)I"⟩
abbrev cX4_drop : ByteArray := prog_1_method_5_code
def yX4_drop : MethodName := ⟨RX4, "drop", "(I)I"⟩
abbrev cX4_feed : ByteArray := prog_1_method_6_code
def yX4_feed : MethodName := ⟨RX4, "feed", "(I)I"⟩
abbrev cX4_light : ByteArray := prog_1_method_7_code
def yX4_light : MethodName := ⟨RX4, "light", "()I"⟩
abbrev cX4_fault : ByteArray := prog_1_method_8_code
def yX4_fault : MethodName := ⟨RX4, "fault", "()I"⟩
abbrev cX4_undo : ByteArray := prog_1_method_9_code
def yX4_undo : MethodName := ⟨RX4, "undo", "()I"⟩
abbrev cX4_watches : ByteArray := prog_1_method_10_code
def yX4_watches : MethodName := ⟨RX4, "watches", "(I)I"⟩
abbrev cX4_pour : ByteArray := prog_1_method_11_code
def yX4_pour : MethodName := ⟨RX4, "pour", "(I)I"⟩
abbrev cX4_fog : ByteArray := prog_1_method_12_code
def yX4_fog : MethodName := ⟨RX4, "fog", "(II)I"⟩
abbrev cX4_eyes : ByteArray := prog_1_method_13_code
def yX4_eyes : MethodName := ⟨RX4, "eyes", "(I)I"⟩
abbrev cX4_move : ByteArray := prog_1_method_14_code
def yX4_move : MethodName := ⟨RX4, "move", "(II)I"⟩
abbrev cX4_ship : ByteArray := prog_1_method_15_code
def yX4_ship : MethodName := ⟨RX4, "ship", "(II)I"⟩
abbrev cX4_stand : ByteArray := prog_1_method_16_code
def yX4_stand : MethodName := ⟨RX4, "stand", "(I)I"⟩
abbrev cX4_thick : ByteArray := prog_1_method_17_code
def yX4_thick : MethodName := ⟨RX4, "thick", "(I)I"⟩
abbrev cX4_ahead : ByteArray := prog_1_method_18_code
def yX4_ahead : MethodName := ⟨RX4, "ahead", "(III)I"⟩
abbrev cX4_written : ByteArray := prog_1_method_19_code
def yX4_written : MethodName := ⟨RX4, "written", "(II)I"⟩
abbrev cX4_when : ByteArray := prog_1_method_20_code
def yX4_when : MethodName := ⟨RX4, "when", "(II)I"⟩
abbrev cX4_quarrel : ByteArray := prog_1_method_21_code
def yX4_quarrel : MethodName := ⟨RX4, "quarrel", "(I)I"⟩
abbrev cX4_pours : ByteArray := prog_1_method_22_code
def yX4_pours : MethodName := ⟨RX4, "pours", "(II)I"⟩
abbrev cX4_lift : ByteArray := prog_1_method_23_code
def yX4_lift : MethodName := ⟨RX4, "lift", "(II)I"⟩
abbrev cX4_sent : ByteArray := prog_1_method_24_code
def yX4_sent : MethodName := ⟨RX4, "sent", "(II)I"⟩
abbrev cX4_share : ByteArray := prog_1_method_25_code
def yX4_share : MethodName := ⟨RX4, "share", "(II)I"⟩
abbrev cX4_byTurns : ByteArray := prog_1_method_26_code
def yX4_byTurns : MethodName := ⟨RX4, "byTurns", "(II)I"⟩
abbrev cX4_who : ByteArray := prog_1_method_27_code
def yX4_who : MethodName := ⟨RX4, "who", "(IIIII)I"⟩
abbrev cX4_fogs : ByteArray := prog_1_method_28_code
def yX4_fogs : MethodName := ⟨RX4, "fogs", "(IIIII)I"⟩
abbrev cX4_sights : ByteArray := prog_1_method_29_code
def yX4_sights : MethodName := ⟨RX4, "sights", "(IIIII)I"⟩
abbrev cX4_fair : ByteArray := prog_1_method_30_code
def yX4_fair : MethodName := ⟨RX4, "fair", "(III)J"⟩
abbrev cX4_drawn : ByteArray := prog_1_method_31_code
def yX4_drawn : MethodName := ⟨RX4, "drawn", "(III)I"⟩
abbrev cX4_image : ByteArray := prog_1_method_32_code
def yX4_image : MethodName := ⟨RX4, "image", "(I)I"⟩
abbrev cX4_restore : ByteArray := prog_1_method_33_code
def yX4_restore : MethodName := ⟨RX4, "restore", "(I)I"⟩
abbrev cX4_kind : ByteArray := prog_1_method_34_code
def yX4_kind : MethodName := ⟨RX4, "kind", "(I)I"⟩
abbrev cX4_as : ByteArray := prog_1_method_35_code
def yX4_as : MethodName := ⟨RX4, "as", "(II)I"⟩
abbrev cX4_ask : ByteArray := prog_1_method_36_code
def yX4_ask : MethodName := ⟨RX4, "ask", "(II)I"⟩
abbrev cX4_trace : ByteArray := prog_1_method_37_code
def yX4_trace : MethodName := ⟨RX4, "trace", "(I)I"⟩
abbrev cX4_count : ByteArray := prog_1_method_38_code
def yX4_count : MethodName := ⟨RX4, "count", "(I)I"⟩
abbrev cX4_status : ByteArray := prog_1_method_39_code
def yX4_status : MethodName := ⟨RX4, "status", "()I"⟩
abbrev cX4_isBelow : ByteArray := prog_1_method_40_code
def yX4_isBelow : MethodName := ⟨RX4, "isBelow", "(II)Z"⟩
abbrev cX4_isWithin : ByteArray := prog_1_method_41_code
def yX4_isWithin : MethodName := ⟨RX4, "isWithin", "(III)Z"⟩
abbrev cX4_bitIf : ByteArray := prog_1_method_42_code
def yX4_bitIf : MethodName := ⟨RX4, "bitIf", "(ZI)I"⟩
abbrev cX4_isLog : ByteArray := prog_1_method_43_code
def yX4_isLog : MethodName := ⟨RX4, "isLog", "(II)Z"⟩
abbrev cX4_found : ByteArray := prog_1_method_44_code
def yX4_found : MethodName := ⟨RX4, "found", "(I)I"⟩
abbrev cX4_unfound : ByteArray := prog_1_method_45_code
def yX4_unfound : MethodName := ⟨RX4, "unfound", "(I)I"⟩
abbrev cX4_rowsThere : ByteArray := prog_1_method_46_code
def yX4_rowsThere : MethodName := ⟨RX4, "rowsThere", "()I"⟩
abbrev cX4_isSeenBy : ByteArray := prog_1_method_47_code
def yX4_isSeenBy : MethodName := ⟨RX4, "isSeenBy", "(II)Z"⟩
abbrev cX4_differencesIfLifted : ByteArray := prog_1_method_48_code
def yX4_differencesIfLifted : MethodName := ⟨RX4, "differencesIfLifted", "(II)I"⟩
abbrev cX4_bestTurn : ByteArray := prog_1_method_49_code
def yX4_bestTurn : MethodName := ⟨RX4, "bestTurn", "(IZI)I"⟩
abbrev cX4_balanceBehind : ByteArray := prog_1_method_50_code
def yX4_balanceBehind : MethodName := ⟨RX4, "balanceBehind", "(I)I"⟩
abbrev cX4_probeFits : ByteArray := prog_1_method_51_code
def yX4_probeFits : MethodName := ⟨RX4, "probeFits", "(LLampLogs$Row;II)Z"⟩
abbrev cX4_kindsThatFit : ByteArray := prog_1_method_52_code
def yX4_kindsThatFit : MethodName := ⟨RX4, "kindsThatFit", "(ILLampLogs$Row;II)I"⟩
abbrev cX4_cellsThatFit : ByteArray := prog_1_method_53_code
def yX4_cellsThatFit : MethodName := ⟨RX4, "cellsThatFit", "(ILLampLogs$Row;II)I"⟩
abbrev cX4_eyesThatFit : ByteArray := prog_1_method_54_code
def yX4_eyesThatFit : MethodName := ⟨RX4, "eyesThatFit", "(ILLampLogs$Row;II)I"⟩
abbrev cX4_oilsThatFit : ByteArray := prog_1_method_55_code
def yX4_oilsThatFit : MethodName := ⟨RX4, "oilsThatFit", "(IILLampLogs$Row;II)I"⟩
abbrev cX4_isSameIfLifted : ByteArray := prog_1_method_56_code
def yX4_isSameIfLifted : MethodName := ⟨RX4, "isSameIfLifted", "(II)Z"⟩
abbrev cX4_casesOf : ByteArray := prog_1_method_57_code
def yX4_casesOf : MethodName := ⟨RX4, "casesOf", "(II)J"⟩
abbrev cX4_commonDivisor : ByteArray := prog_1_method_58_code
def yX4_commonDivisor : MethodName := ⟨RX4, "commonDivisor", "(JJ)J"⟩
abbrev cX4_isOfKind : ByteArray := prog_1_method_59_code
def yX4_isOfKind : MethodName := ⟨RX4, "isOfKind", "(II)Z"⟩
abbrev cX4_asked : ByteArray := prog_1_method_60_code
def yX4_asked : MethodName := ⟨RX4, "asked", "(III)I"⟩
abbrev cX4_begun : ByteArray := prog_1_method_61_code
def yX4_begun : MethodName := ⟨RX4, "begun", "(III)I"⟩
abbrev cX4_leave : ByteArray := prog_1_method_62_code
def yX4_leave : MethodName := ⟨RX4, "leave", "(I)V"⟩
def RX5 : String := "LampLogsModel"
def TX5 : u_T := fun k => match k with
  | 0 => ("LampLogsModel", "thrown", "I", false)
  | 1 => ("LampLogsModel", "status", "I", false)
  | 2 => ("LampLogsModel", "lane", "[I", true)
  | 3 => ("LampLogsModel", "many", "[I", true)
  | 4 => ("LampLogsModel", "item", "[I", true)
  | 5 => ("LampLogsModel", "light", "[I", true)
  | 6 => ("LampLogsModel", "fresh", "[I", true)
  | 7 => ("LampLogsModel", "then", "[I", true)
  | 8 => ("LampLogsModel", "was", "[I", true)
  | 9 => ("LampLogsModel", "acts", "I", false)
  | 10 => ("LampLogsModel", "tape", "[I", true)
  | 11 => ("LampLogsModel", "taped", "I", false)
  | 12 => ("LampLogsModel", "cursor", "I", false)
  | 13 => ("LampLogsModel", "start", "I", false)
  | 14 => ("LampLogsModel", "token", "I", false)
  | 15 => ("LampLogsModel", "value", "I", false)
  | 16 => ("LampLogsModel", "fault", "I", false)
  | 17 => ("LampLogsModel", "faultAt", "I", false)
  | 18 => ("LampLogsModel", "latest", "I", false)
  | 19 => ("LampLogsModel", "worth", "[I", true)
  | 20 => ("LampLogsModel", "setSo", "I", false)
  | 21 => ("LampLogsModel", "muchSo", "I", false)
  | 22 => ("LampLogsModel", "leastSo", "I", false)
  | 23 => ("LampLogsModel", "isKept", "[Z", true)
  | 24 => ("LampLogsModel", "kept", "[I", true)
  | 25 => ("LampLogsModel", "trace", "[I", true)
  | _ => ("LampLogsModel", "traced", "I", false)
def tyX5 : Nat → FieldType := fun k => match k with
  | 0 => .int
  | 1 => .int
  | 2 => .array .int
  | 3 => .array .int
  | 4 => .array .int
  | 5 => .array .int
  | 6 => .array .int
  | 7 => .array .int
  | 8 => .array .int
  | 9 => .int
  | 10 => .array .int
  | 11 => .int
  | 12 => .int
  | 13 => .int
  | 14 => .int
  | 15 => .int
  | 16 => .int
  | 17 => .int
  | 18 => .int
  | 19 => .array .int
  | 20 => .int
  | 21 => .int
  | 22 => .int
  | 23 => .array .boolean
  | 24 => .array .int
  | 25 => .array .int
  | _ => .int
theorem nmX5 : ∀ a, a < 27 → ∀ b, b < 27 → a ≠ b → (TX5 a).2.1 ≠ (TX5 b).2.1 := by decide +kernel
theorem tyX5_ok : ∀ k, k < 27 → parseFieldDescriptor (TX5 k).2.2.1 = some (tyX5 k) := by decide +kernel
abbrev cX5_init : ByteArray := prog_7_method_1_code
def yX5_init : MethodName := ⟨RX5, "<init>", "()V"⟩
abbrev cX5_in : ByteArray := prog_7_method_3_code
def yX5_in : MethodName := ⟨RX5, "in", "(JJJ)Z"⟩
abbrev cX5_finding : ByteArray := prog_7_method_4_code
def yX5_finding : MethodName := ⟨RX5, "finding", "(I)I"⟩
abbrev cX5_isRow : ByteArray := prog_7_method_5_code
def yX5_isRow : MethodName := ⟨RX5, "isRow", "(I)Z"⟩
abbrev cX5_row : ByteArray := prog_7_method_6_code
def yX5_row : MethodName := ⟨RX5, "row", "(III)I"⟩
abbrev cX5_set : ByteArray := prog_7_method_7_code
def yX5_set : MethodName := ⟨RX5, "set", "(III)I"⟩
abbrev cX5_copy : ByteArray := prog_7_method_8_code
def yX5_copy : MethodName := ⟨RX5, "copy", "(IIIII)I"⟩
abbrev cX5_drop : ByteArray := prog_7_method_9_code
def yX5_drop : MethodName := ⟨RX5, "drop", "(I)I"⟩
abbrev cX5_feed : ByteArray := prog_7_method_10_code
def yX5_feed : MethodName := ⟨RX5, "feed", "(I)I"⟩
abbrev cX5_bad : ByteArray := prog_7_method_11_code
def yX5_bad : MethodName := ⟨RX5, "bad", "(I)V"⟩
abbrev cX5_nextToken : ByteArray := prog_7_method_12_code
def yX5_nextToken : MethodName := ⟨RX5, "nextToken", "()V"⟩
abbrev cX5_must : ByteArray := prog_7_method_13_code
def yX5_must : MethodName := ⟨RX5, "must", "(Z)V"⟩
abbrev cX5_isLetter : ByteArray := prog_7_method_14_code
def yX5_isLetter : MethodName := ⟨RX5, "isLetter", "(I)Z"⟩
abbrev cX5_number : ByteArray := prog_7_method_15_code
def yX5_number : MethodName := ⟨RX5, "number", "(II)I"⟩
abbrev cX5_mustSign : ByteArray := prog_7_method_16_code
def yX5_mustSign : MethodName := ⟨RX5, "mustSign", "(I)V"⟩
abbrev cX5_begin : ByteArray := prog_7_method_17_code
def yX5_begin : MethodName := ⟨RX5, "begin", "()V"⟩
abbrev cX5_failed : ByteArray := prog_7_method_18_code
def yX5_failed : MethodName := ⟨RX5, "failed", "()Z"⟩
abbrev cX5_fault : ByteArray := prog_7_method_19_code
def yX5_fault : MethodName := ⟨RX5, "fault", "()I"⟩
abbrev cX5_kindBy : ByteArray := prog_7_method_20_code
def yX5_kindBy : MethodName := ⟨RX5, "kindBy", "(I)I"⟩
abbrev cX5_isSort : ByteArray := prog_7_method_21_code
def yX5_isSort : MethodName := ⟨RX5, "isSort", "()Z"⟩
abbrev cX5_readFog : ByteArray := prog_7_method_22_code
def yX5_readFog : MethodName := ⟨RX5, "readFog", "()V"⟩
abbrev cX5_readShip : ByteArray := prog_7_method_23_code
def yX5_readShip : MethodName := ⟨RX5, "readShip", "()V"⟩
abbrev cX5_light : ByteArray := prog_7_method_24_code
def yX5_light : MethodName := ⟨RX5, "light", "()I"⟩
abbrev cX5_isThere : ByteArray := prog_7_method_25_code
def yX5_isThere : MethodName := ⟨RX5, "isThere", "()Z"⟩
abbrev cX5_isShip : ByteArray := prog_7_method_26_code
def yX5_isShip : MethodName := ⟨RX5, "isShip", "(I)Z"⟩
abbrev cX5_isFog : ByteArray := prog_7_method_27_code
def yX5_isFog : MethodName := ⟨RX5, "isFog", "(I)Z"⟩
abbrev cX5_isCell : ByteArray := prog_7_method_28_code
def yX5_isCell : MethodName := ⟨RX5, "isCell", "(I)Z"⟩
abbrev cX5_bits : ByteArray := prog_7_method_29_code
def yX5_bits : MethodName := ⟨RX5, "bits", "(I)I"⟩
abbrev cX5_has : ByteArray := prog_7_method_30_code
def yX5_has : MethodName := ⟨RX5, "has", "(II)Z"⟩
abbrev cX5_of : ByteArray := prog_7_method_31_code
def yX5_of : MethodName := ⟨RX5, "of", "([III)I"⟩
abbrev cX5_thickOf : ByteArray := prog_7_method_32_code
def yX5_thickOf : MethodName := ⟨RX5, "thickOf", "([II)I"⟩
abbrev cX5_loggedOf : ByteArray := prog_7_method_33_code
def yX5_loggedOf : MethodName := ⟨RX5, "loggedOf", "([II)I"⟩
abbrev cX5_seenBy : ByteArray := prog_7_method_34_code
def yX5_seenBy : MethodName := ⟨RX5, "seenBy", "([II)I"⟩
abbrev cX5_differ : ByteArray := prog_7_method_35_code
def yX5_differ : MethodName := ⟨RX5, "differ", "([I)I"⟩
abbrev cX5_nextCell : ByteArray := prog_7_method_36_code
def yX5_nextCell : MethodName := ⟨RX5, "nextCell", "([II)I"⟩
abbrev cX5_watchOf : ByteArray := prog_7_method_37_code
def yX5_watchOf : MethodName := ⟨RX5, "watchOf", "([I)V"⟩
abbrev cX5_watchesOf : ByteArray := prog_7_method_38_code
def yX5_watchesOf : MethodName := ⟨RX5, "watchesOf", "([II)V"⟩
abbrev cX5_pourInto : ByteArray := prog_7_method_39_code
def yX5_pourInto : MethodName := ⟨RX5, "pourInto", "([II)V"⟩
abbrev cX5_layThen : ByteArray := prog_7_method_40_code
def yX5_layThen : MethodName := ⟨RX5, "layThen", "()V"⟩
abbrev cX5_keep : ByteArray := prog_7_method_41_code
def yX5_keep : MethodName := ⟨RX5, "keep", "()V"⟩
abbrev cX5_watches : ByteArray := prog_7_method_42_code
def yX5_watches : MethodName := ⟨RX5, "watches", "(I)I"⟩
abbrev cX5_pour : ByteArray := prog_7_method_43_code
def yX5_pour : MethodName := ⟨RX5, "pour", "(I)I"⟩
abbrev cX5_fog : ByteArray := prog_7_method_44_code
def yX5_fog : MethodName := ⟨RX5, "fog", "(II)I"⟩
abbrev cX5_eyes : ByteArray := prog_7_method_45_code
def yX5_eyes : MethodName := ⟨RX5, "eyes", "(I)I"⟩
abbrev cX5_move : ByteArray := prog_7_method_46_code
def yX5_move : MethodName := ⟨RX5, "move", "(II)I"⟩
abbrev cX5_undo : ByteArray := prog_7_method_47_code
def yX5_undo : MethodName := ⟨RX5, "undo", "()I"⟩
abbrev cX5_ship : ByteArray := prog_7_method_48_code
def yX5_ship : MethodName := ⟨RX5, "ship", "(II)I"⟩
abbrev cX5_stand : ByteArray := prog_7_method_49_code
def yX5_stand : MethodName := ⟨RX5, "stand", "(I)I"⟩
abbrev cX5_thick : ByteArray := prog_7_method_50_code
def yX5_thick : MethodName := ⟨RX5, "thick", "(I)I"⟩
abbrev cX5_ahead : ByteArray := prog_7_method_51_code
def yX5_ahead : MethodName := ⟨RX5, "ahead", "(III)I"⟩
abbrev cX5_written : ByteArray := prog_7_method_52_code
def yX5_written : MethodName := ⟨RX5, "written", "(II)I"⟩
abbrev cX5_when : ByteArray := prog_7_method_53_code
def yX5_when : MethodName := ⟨RX5, "when", "(II)I"⟩
abbrev cX5_quarrel : ByteArray := prog_7_method_54_code
def yX5_quarrel : MethodName := ⟨RX5, "quarrel", "(I)I"⟩
abbrev cX5_pours : ByteArray := prog_7_method_55_code
def yX5_pours : MethodName := ⟨RX5, "pours", "(II)I"⟩
abbrev cX5_lift : ByteArray := prog_7_method_56_code
def yX5_lift : MethodName := ⟨RX5, "lift", "(II)I"⟩
abbrev cX5_sent : ByteArray := prog_7_method_57_code
def yX5_sent : MethodName := ⟨RX5, "sent", "(II)I"⟩
abbrev cX5_share : ByteArray := prog_7_method_58_code
def yX5_share : MethodName := ⟨RX5, "share", "(II)I"⟩
abbrev cX5_afterTurns : ByteArray := prog_7_method_59_code
def yX5_afterTurns : MethodName := ⟨RX5, "afterTurns", "(III)I"⟩
abbrev cX5_byTurns : ByteArray := prog_7_method_60_code
def yX5_byTurns : MethodName := ⟨RX5, "byTurns", "(II)I"⟩
abbrev cX5_isSo : ByteArray := prog_7_method_61_code
def yX5_isSo : MethodName := ⟨RX5, "isSo", "(III)Z"⟩
abbrev cX5_rowFound : ByteArray := prog_7_method_62_code
def yX5_rowFound : MethodName := ⟨RX5, "rowFound", "(III)I"⟩
abbrev cX5_isMany : ByteArray := prog_7_method_63_code
def yX5_isMany : MethodName := ⟨RX5, "isMany", "(II)Z"⟩
abbrev cX5_tryAll : ByteArray := prog_7_method_64_code
def yX5_tryAll : MethodName := ⟨RX5, "tryAll", "(IIIIII)V"⟩
abbrev cX5_who : ByteArray := prog_7_method_65_code
def yX5_who : MethodName := ⟨RX5, "who", "(IIIII)I"⟩
abbrev cX5_fogs : ByteArray := prog_7_method_66_code
def yX5_fogs : MethodName := ⟨RX5, "fogs", "(IIIII)I"⟩
abbrev cX5_sights : ByteArray := prog_7_method_67_code
def yX5_sights : MethodName := ⟨RX5, "sights", "(IIIII)I"⟩
abbrev cX5_fair : ByteArray := prog_7_method_68_code
def yX5_fair : MethodName := ⟨RX5, "fair", "(III)J"⟩
abbrev cX5_drawn : ByteArray := prog_7_method_69_code
def yX5_drawn : MethodName := ⟨RX5, "drawn", "(III)I"⟩
abbrev cX5_image : ByteArray := prog_7_method_70_code
def yX5_image : MethodName := ⟨RX5, "image", "(I)I"⟩
abbrev cX5_restore : ByteArray := prog_7_method_71_code
def yX5_restore : MethodName := ⟨RX5, "restore", "(I)I"⟩
abbrev cX5_isOf : ByteArray := prog_7_method_72_code
def yX5_isOf : MethodName := ⟨RX5, "isOf", "(II)Z"⟩
abbrev cX5_kind : ByteArray := prog_7_method_73_code
def yX5_kind : MethodName := ⟨RX5, "kind", "(I)I"⟩
abbrev cX5_as : ByteArray := prog_7_method_74_code
def yX5_as : MethodName := ⟨RX5, "as", "(II)I"⟩
abbrev cX5_began : ByteArray := prog_7_method_75_code
def yX5_began : MethodName := ⟨RX5, "began", "(I)V"⟩
abbrev cX5_plainSize : ByteArray := prog_7_method_76_code
def yX5_plainSize : MethodName := ⟨RX5, "plainSize", "(I)I"⟩
abbrev cX5_gullSize : ByteArray := prog_7_method_77_code
def yX5_gullSize : MethodName := ⟨RX5, "gullSize", "(I)I"⟩
abbrev cX5_markOf : ByteArray := prog_7_method_78_code
def yX5_markOf : MethodName := ⟨RX5, "markOf", "(I)I"⟩
abbrev cX5_sizeOf : ByteArray := prog_7_method_79_code
def yX5_sizeOf : MethodName := ⟨RX5, "sizeOf", "(I)I"⟩
abbrev cX5_ask : ByteArray := prog_7_method_80_code
def yX5_ask : MethodName := ⟨RX5, "ask", "(II)I"⟩
abbrev cX5_trace : ByteArray := prog_7_method_81_code
def yX5_trace : MethodName := ⟨RX5, "trace", "(I)I"⟩
abbrev cX5_count : ByteArray := prog_7_method_82_code
def yX5_count : MethodName := ⟨RX5, "count", "(I)I"⟩
abbrev cX5_status : ByteArray := prog_7_method_83_code
def yX5_status : MethodName := ⟨RX5, "status", "()I"⟩
def RJ6 : String := "java/lang/Integer"
def TJ6 : u_T := fun k => match k with
  | _ => ("", "", "", false)
def tyJ6 : Nat → FieldType := fun k => match k with
  | _ => .int
theorem nmJ6 : ∀ a, a < 0 → ∀ b, b < 0 → a ≠ b → (TJ6 a).2.1 ≠ (TJ6 b).2.1 := by decide +kernel
theorem tyJ6_ok : ∀ k, k < 0 → parseFieldDescriptor (TJ6 k).2.2.1 = some (tyJ6 k) := by decide +kernel
abbrev cJ6_numberOfTrailingZeros_0f7a4 : ByteArray := prog_8_method_48_code
def yJ6_numberOfTrailingZeros_0f7a4 : MethodName := ⟨RJ6, "numberOfTrailingZeros", "(I)I"⟩
abbrev cJ6_bitCount_0f7a4 : ByteArray := prog_8_method_49_code
def yJ6_bitCount_0f7a4 : MethodName := ⟨RJ6, "bitCount", "(I)I"⟩
def RJ9 : String := "java/lang/Math"
def TJ9 : u_T := fun k => match k with
  | _ => ("", "", "", false)
def tyJ9 : Nat → FieldType := fun k => match k with
  | _ => .int
theorem nmJ9 : ∀ a, a < 0 → ∀ b, b < 0 → a ≠ b → (TJ9 a).2.1 ≠ (TJ9 b).2.1 := by decide +kernel
theorem tyJ9_ok : ∀ k, k < 0 → parseFieldDescriptor (TJ9 k).2.2.1 = some (tyJ9 k) := by decide +kernel
abbrev cJ9_max_7cf53 : ByteArray := prog_9_method_65_code
def yJ9_max_7cf53 : MethodName := ⟨RJ9, "max", "(II)I"⟩
abbrev cJ9_max_f86c9 : ByteArray := prog_9_method_66_code
def yJ9_max_f86c9 : MethodName := ⟨RJ9, "max", "(JJ)J"⟩
abbrev cJ9_min_7cf53 : ByteArray := prog_9_method_69_code
def yJ9_min_7cf53 : MethodName := ⟨RJ9, "min", "(II)I"⟩
def RJ10 : String := "java/lang/System"
def TJ10 : u_T := fun k => match k with
  | _ => ("", "", "", false)
def tyJ10 : Nat → FieldType := fun k => match k with
  | _ => .int
theorem nmJ10 : ∀ a, a < 0 → ∀ b, b < 0 → a ≠ b → (TJ10 a).2.1 ≠ (TJ10 b).2.1 := by decide +kernel
theorem tyJ10_ok : ∀ k, k < 0 → parseFieldDescriptor (TJ10 k).2.2.1 = some (tyJ10 k) := by decide +kernel
def RL : String := "LampLogsLaw"
abbrev cL_law : ByteArray := code
def yL_law : MethodName := ⟨RL, "law", "([I)Z"⟩
theorem dX0_init_0 : decode cX0_init 0 = .ok (.aload_n 0, 1) := by decide +kernel
theorem dX0_init_1 : decode cX0_init 1 = .ok (.invokespecial 3, 3) := by decide +kernel
theorem dX0_init_4 : decode cX0_init 4 = .ok (.aload_n 0, 1) := by decide +kernel
theorem dX0_init_5 : decode cX0_init 5 = .ok (.bipush 24, 2) := by decide +kernel
theorem dX0_init_7 : decode cX0_init 7 = .ok (.anewarray 9, 3) := by decide +kernel
theorem dX0_init_10 : decode cX0_init 10 = .ok (.putfield 11, 3) := by decide +kernel
theorem dX0_init_13 : decode cX0_init 13 = .ok (.iconst 0, 1) := by decide +kernel
theorem dX0_init_14 : decode cX0_init 14 = .ok (.istore_n 1, 1) := by decide +kernel
theorem dX0_init_15 : decode cX0_init 15 = .ok (.iload_n 1, 1) := by decide +kernel
theorem dX0_init_16 : decode cX0_init 16 = .ok (.bipush 24, 2) := by decide +kernel
theorem dX0_init_18 : decode cX0_init 18 = .ok (.if_icmp .ge 22, 3) := by decide +kernel
theorem dX0_init_21 : decode cX0_init 21 = .ok (.aload_n 0, 1) := by decide +kernel
theorem dX0_init_22 : decode cX0_init 22 = .ok (.getfield 11, 3) := by decide +kernel
theorem dX0_init_25 : decode cX0_init 25 = .ok (.iload_n 1, 1) := by decide +kernel
theorem dX0_init_26 : decode cX0_init 26 = .ok (.new 9, 3) := by decide +kernel
theorem dX0_init_29 : decode cX0_init 29 = .ok (.dup, 1) := by decide +kernel
theorem dX0_init_30 : decode cX0_init 30 = .ok (.invokespecial 17, 3) := by decide +kernel
theorem dX0_init_33 : decode cX0_init 33 = .ok (.aastore, 1) := by decide +kernel
theorem dX0_init_34 : decode cX0_init 34 = .ok (.iinc 1 1, 3) := by decide +kernel
theorem dX0_init_37 : decode cX0_init 37 = .ok (.goto (-22), 3) := by decide +kernel
theorem dX0_init_40 : decode cX0_init 40 = .ok (.return_, 1) := by decide +kernel
theorem dX0_forget_0 : decode cX0_forget 0 = .ok (.aload_n 0, 1) := by decide +kernel
theorem dX0_forget_1 : decode cX0_forget 1 = .ok (.iconst 0, 1) := by decide +kernel
theorem dX0_forget_2 : decode cX0_forget 2 = .ok (.putfield 18, 3) := by decide +kernel
theorem dX0_forget_5 : decode cX0_forget 5 = .ok (.return_, 1) := by decide +kernel
theorem dX0_keep_0 : decode cX0_keep 0 = .ok (.aload_n 0, 1) := by decide +kernel
theorem dX0_keep_1 : decode cX0_keep 1 = .ok (.getfield 11, 3) := by decide +kernel
theorem dX0_keep_4 : decode cX0_keep 4 = .ok (.aload_n 0, 1) := by decide +kernel
theorem dX0_keep_5 : decode cX0_keep 5 = .ok (.getfield 22, 3) := by decide +kernel
theorem dX0_keep_8 : decode cX0_keep 8 = .ok (.aaload, 1) := by decide +kernel
theorem dX0_keep_9 : decode cX0_keep 9 = .ok (.aload_n 1, 1) := by decide +kernel
theorem dX0_keep_10 : decode cX0_keep 10 = .ok (.invokevirtual 25, 3) := by decide +kernel
theorem dX0_keep_13 : decode cX0_keep 13 = .ok (.aload_n 0, 1) := by decide +kernel
theorem dX0_keep_14 : decode cX0_keep 14 = .ok (.aload_n 0, 1) := by decide +kernel
theorem dX0_keep_15 : decode cX0_keep 15 = .ok (.getfield 22, 3) := by decide +kernel
theorem dX0_keep_18 : decode cX0_keep 18 = .ok (.iconst 1, 1) := by decide +kernel
theorem dX0_keep_19 : decode cX0_keep 19 = .ok (.iadd, 1) := by decide +kernel
theorem dX0_keep_20 : decode cX0_keep 20 = .ok (.bipush 24, 2) := by decide +kernel
theorem dX0_keep_22 : decode cX0_keep 22 = .ok (.irem, 1) := by decide +kernel
theorem dX0_keep_23 : decode cX0_keep 23 = .ok (.putfield 22, 3) := by decide +kernel
theorem dX0_keep_26 : decode cX0_keep 26 = .ok (.aload_n 0, 1) := by decide +kernel
theorem dX0_keep_27 : decode cX0_keep 27 = .ok (.bipush 24, 2) := by decide +kernel
theorem dX0_keep_29 : decode cX0_keep 29 = .ok (.aload_n 0, 1) := by decide +kernel
theorem dX0_keep_30 : decode cX0_keep 30 = .ok (.getfield 18, 3) := by decide +kernel
theorem dX0_keep_33 : decode cX0_keep 33 = .ok (.iconst 1, 1) := by decide +kernel
theorem dX0_keep_34 : decode cX0_keep 34 = .ok (.iadd, 1) := by decide +kernel
theorem dX0_keep_35 : decode cX0_keep 35 = .ok (.invokestatic 29, 3) := by decide +kernel
theorem dX0_keep_38 : decode cX0_keep 38 = .ok (.putfield 18, 3) := by decide +kernel
theorem dX0_keep_41 : decode cX0_keep 41 = .ok (.return_, 1) := by decide +kernel
theorem dX0_takeBack_0 : decode cX0_takeBack 0 = .ok (.aload_n 0, 1) := by decide +kernel
theorem dX0_takeBack_1 : decode cX0_takeBack 1 = .ok (.aload_n 0, 1) := by decide +kernel
theorem dX0_takeBack_2 : decode cX0_takeBack 2 = .ok (.getfield 22, 3) := by decide +kernel
theorem dX0_takeBack_5 : decode cX0_takeBack 5 = .ok (.bipush 24, 2) := by decide +kernel
theorem dX0_takeBack_7 : decode cX0_takeBack 7 = .ok (.iadd, 1) := by decide +kernel
theorem dX0_takeBack_8 : decode cX0_takeBack 8 = .ok (.iconst 1, 1) := by decide +kernel
theorem dX0_takeBack_9 : decode cX0_takeBack 9 = .ok (.isub, 1) := by decide +kernel
theorem dX0_takeBack_10 : decode cX0_takeBack 10 = .ok (.bipush 24, 2) := by decide +kernel
theorem dX0_takeBack_12 : decode cX0_takeBack 12 = .ok (.irem, 1) := by decide +kernel
theorem dX0_takeBack_13 : decode cX0_takeBack 13 = .ok (.putfield 22, 3) := by decide +kernel
theorem dX0_takeBack_16 : decode cX0_takeBack 16 = .ok (.aload_n 1, 1) := by decide +kernel
theorem dX0_takeBack_17 : decode cX0_takeBack 17 = .ok (.aload_n 0, 1) := by decide +kernel
theorem dX0_takeBack_18 : decode cX0_takeBack 18 = .ok (.getfield 11, 3) := by decide +kernel
theorem dX0_takeBack_21 : decode cX0_takeBack 21 = .ok (.aload_n 0, 1) := by decide +kernel
theorem dX0_takeBack_22 : decode cX0_takeBack 22 = .ok (.getfield 22, 3) := by decide +kernel
theorem dX0_takeBack_25 : decode cX0_takeBack 25 = .ok (.aaload, 1) := by decide +kernel
theorem dX0_takeBack_26 : decode cX0_takeBack 26 = .ok (.invokevirtual 25, 3) := by decide +kernel
theorem dX0_takeBack_29 : decode cX0_takeBack 29 = .ok (.aload_n 0, 1) := by decide +kernel
theorem dX0_takeBack_30 : decode cX0_takeBack 30 = .ok (.dup, 1) := by decide +kernel
theorem dX0_takeBack_31 : decode cX0_takeBack 31 = .ok (.getfield 18, 3) := by decide +kernel
theorem dX0_takeBack_34 : decode cX0_takeBack 34 = .ok (.iconst 1, 1) := by decide +kernel
theorem dX0_takeBack_35 : decode cX0_takeBack 35 = .ok (.isub, 1) := by decide +kernel
theorem dX0_takeBack_36 : decode cX0_takeBack 36 = .ok (.putfield 18, 3) := by decide +kernel
theorem dX0_takeBack_39 : decode cX0_takeBack 39 = .ok (.aload_n 0, 1) := by decide +kernel
theorem dX0_takeBack_40 : decode cX0_takeBack 40 = .ok (.getfield 18, 3) := by decide +kernel
theorem dX0_takeBack_43 : decode cX0_takeBack 43 = .ok (.ireturn, 1) := by decide +kernel
theorem dX1_init_0 : decode cX1_init 0 = .ok (.aload_n 0, 1) := by decide +kernel
theorem dX1_init_1 : decode cX1_init 1 = .ok (.invokespecial 3, 3) := by decide +kernel
theorem dX1_init_4 : decode cX1_init 4 = .ok (.aload_n 0, 1) := by decide +kernel
theorem dX1_init_5 : decode cX1_init 5 = .ok (.bipush 6, 2) := by decide +kernel
theorem dX1_init_7 : decode cX1_init 7 = .ok (.newarray .int, 2) := by decide +kernel
theorem dX1_init_9 : decode cX1_init 9 = .ok (.putfield 9, 3) := by decide +kernel
theorem dX1_init_12 : decode cX1_init 12 = .ok (.aload_n 0, 1) := by decide +kernel
theorem dX1_init_13 : decode cX1_init 13 = .ok (.bipush 6, 2) := by decide +kernel
theorem dX1_init_15 : decode cX1_init 15 = .ok (.newarray .int, 2) := by decide +kernel
theorem dX1_init_17 : decode cX1_init 17 = .ok (.putfield 15, 3) := by decide +kernel
theorem dX1_init_20 : decode cX1_init 20 = .ok (.aload_n 0, 1) := by decide +kernel
theorem dX1_init_21 : decode cX1_init 21 = .ok (.bipush 6, 2) := by decide +kernel
theorem dX1_init_23 : decode cX1_init 23 = .ok (.newarray .int, 2) := by decide +kernel
theorem dX1_init_25 : decode cX1_init 25 = .ok (.putfield 18, 3) := by decide +kernel
theorem dX1_init_28 : decode cX1_init 28 = .ok (.return_, 1) := by decide +kernel
theorem dX1_isLit_0 : decode cX1_isLit 0 = .ok (.aload_n 0, 1) := by decide +kernel
theorem dX1_isLit_1 : decode cX1_isLit 1 = .ok (.getfield 21, 3) := by decide +kernel
theorem dX1_isLit_4 : decode cX1_isLit 4 = .ok (.ifCond .le 7, 3) := by decide +kernel
theorem dX1_isLit_7 : decode cX1_isLit 7 = .ok (.iconst 1, 1) := by decide +kernel
theorem dX1_isLit_8 : decode cX1_isLit 8 = .ok (.goto 4, 3) := by decide +kernel
theorem dX1_isLit_11 : decode cX1_isLit 11 = .ok (.iconst 0, 1) := by decide +kernel
theorem dX1_isLit_12 : decode cX1_isLit 12 = .ok (.ireturn, 1) := by decide +kernel
theorem dX1_clear_0 : decode cX1_clear 0 = .ok (.aload_n 0, 1) := by decide +kernel
theorem dX1_clear_1 : decode cX1_clear 1 = .ok (.iconst 0, 1) := by decide +kernel
theorem dX1_clear_2 : decode cX1_clear 2 = .ok (.putfield 25, 3) := by decide +kernel
theorem dX1_clear_5 : decode cX1_clear 5 = .ok (.aload_n 0, 1) := by decide +kernel
theorem dX1_clear_6 : decode cX1_clear 6 = .ok (.iconst 0, 1) := by decide +kernel
theorem dX1_clear_7 : decode cX1_clear 7 = .ok (.putfield 28, 3) := by decide +kernel
theorem dX1_clear_10 : decode cX1_clear 10 = .ok (.aload_n 0, 1) := by decide +kernel
theorem dX1_clear_11 : decode cX1_clear 11 = .ok (.iconst 0, 1) := by decide +kernel
theorem dX1_clear_12 : decode cX1_clear 12 = .ok (.putfield 31, 3) := by decide +kernel
theorem dX1_clear_15 : decode cX1_clear 15 = .ok (.aload_n 0, 1) := by decide +kernel
theorem dX1_clear_16 : decode cX1_clear 16 = .ok (.iconst 0, 1) := by decide +kernel
theorem dX1_clear_17 : decode cX1_clear 17 = .ok (.putfield 34, 3) := by decide +kernel
theorem dX1_clear_20 : decode cX1_clear 20 = .ok (.aload_n 0, 1) := by decide +kernel
theorem dX1_clear_21 : decode cX1_clear 21 = .ok (.iconst 0, 1) := by decide +kernel
theorem dX1_clear_22 : decode cX1_clear 22 = .ok (.putfield 21, 3) := by decide +kernel
theorem dX1_clear_25 : decode cX1_clear 25 = .ok (.aload_n 0, 1) := by decide +kernel
theorem dX1_clear_26 : decode cX1_clear 26 = .ok (.iconst 0, 1) := by decide +kernel
theorem dX1_clear_27 : decode cX1_clear 27 = .ok (.putfield 37, 3) := by decide +kernel
theorem dX1_clear_30 : decode cX1_clear 30 = .ok (.return_, 1) := by decide +kernel
theorem dX1_takeFrom_0 : decode cX1_takeFrom 0 = .ok (.aload_n 0, 1) := by decide +kernel
theorem dX1_takeFrom_1 : decode cX1_takeFrom 1 = .ok (.aload_n 1, 1) := by decide +kernel
theorem dX1_takeFrom_2 : decode cX1_takeFrom 2 = .ok (.invokevirtual 40, 3) := by decide +kernel
theorem dX1_takeFrom_5 : decode cX1_takeFrom 5 = .ok (.aload_n 0, 1) := by decide +kernel
theorem dX1_takeFrom_6 : decode cX1_takeFrom 6 = .ok (.aload_n 1, 1) := by decide +kernel
theorem dX1_takeFrom_7 : decode cX1_takeFrom 7 = .ok (.invokevirtual 44, 3) := by decide +kernel
theorem dX1_takeFrom_10 : decode cX1_takeFrom 10 = .ok (.return_, 1) := by decide +kernel
theorem dX1_takeOneShip_0 : decode cX1_takeOneShip 0 = .ok (.aload_n 0, 1) := by decide +kernel
theorem dX1_takeOneShip_1 : decode cX1_takeOneShip 1 = .ok (.aload_n 1, 1) := by decide +kernel
theorem dX1_takeOneShip_2 : decode cX1_takeOneShip 2 = .ok (.invokevirtual 40, 3) := by decide +kernel
theorem dX1_takeOneShip_5 : decode cX1_takeOneShip 5 = .ok (.aload_n 0, 1) := by decide +kernel
theorem dX1_takeOneShip_6 : decode cX1_takeOneShip 6 = .ok (.iconst 1, 1) := by decide +kernel
theorem dX1_takeOneShip_7 : decode cX1_takeOneShip 7 = .ok (.putfield 37, 3) := by decide +kernel
theorem dX1_takeOneShip_10 : decode cX1_takeOneShip 10 = .ok (.aload_n 0, 1) := by decide +kernel
theorem dX1_takeOneShip_11 : decode cX1_takeOneShip 11 = .ok (.getfield 15, 3) := by decide +kernel
theorem dX1_takeOneShip_14 : decode cX1_takeOneShip 14 = .ok (.iconst 0, 1) := by decide +kernel
theorem dX1_takeOneShip_15 : decode cX1_takeOneShip 15 = .ok (.aload_n 1, 1) := by decide +kernel
theorem dX1_takeOneShip_16 : decode cX1_takeOneShip 16 = .ok (.getfield 15, 3) := by decide +kernel
theorem dX1_takeOneShip_19 : decode cX1_takeOneShip 19 = .ok (.iload_n 2, 1) := by decide +kernel
theorem dX1_takeOneShip_20 : decode cX1_takeOneShip 20 = .ok (.iaload, 1) := by decide +kernel
theorem dX1_takeOneShip_21 : decode cX1_takeOneShip 21 = .ok (.iastore, 1) := by decide +kernel
theorem dX1_takeOneShip_22 : decode cX1_takeOneShip 22 = .ok (.aload_n 0, 1) := by decide +kernel
theorem dX1_takeOneShip_23 : decode cX1_takeOneShip 23 = .ok (.getfield 18, 3) := by decide +kernel
theorem dX1_takeOneShip_26 : decode cX1_takeOneShip 26 = .ok (.iconst 0, 1) := by decide +kernel
theorem dX1_takeOneShip_27 : decode cX1_takeOneShip 27 = .ok (.aload_n 1, 1) := by decide +kernel
theorem dX1_takeOneShip_28 : decode cX1_takeOneShip 28 = .ok (.getfield 18, 3) := by decide +kernel
theorem dX1_takeOneShip_31 : decode cX1_takeOneShip 31 = .ok (.iload_n 2, 1) := by decide +kernel
theorem dX1_takeOneShip_32 : decode cX1_takeOneShip 32 = .ok (.iaload, 1) := by decide +kernel
theorem dX1_takeOneShip_33 : decode cX1_takeOneShip 33 = .ok (.iastore, 1) := by decide +kernel
theorem dX1_takeOneShip_34 : decode cX1_takeOneShip 34 = .ok (.return_, 1) := by decide +kernel
theorem dX1_takeSea_0 : decode cX1_takeSea 0 = .ok (.aload_n 0, 1) := by decide +kernel
theorem dX1_takeSea_1 : decode cX1_takeSea 1 = .ok (.aload_n 1, 1) := by decide +kernel
theorem dX1_takeSea_2 : decode cX1_takeSea 2 = .ok (.getfield 25, 3) := by decide +kernel
theorem dX1_takeSea_5 : decode cX1_takeSea 5 = .ok (.putfield 25, 3) := by decide +kernel
theorem dX1_takeSea_8 : decode cX1_takeSea 8 = .ok (.aload_n 0, 1) := by decide +kernel
theorem dX1_takeSea_9 : decode cX1_takeSea 9 = .ok (.aload_n 1, 1) := by decide +kernel
theorem dX1_takeSea_10 : decode cX1_takeSea 10 = .ok (.getfield 28, 3) := by decide +kernel
theorem dX1_takeSea_13 : decode cX1_takeSea 13 = .ok (.putfield 28, 3) := by decide +kernel
theorem dX1_takeSea_16 : decode cX1_takeSea 16 = .ok (.aload_n 0, 1) := by decide +kernel
theorem dX1_takeSea_17 : decode cX1_takeSea 17 = .ok (.aload_n 1, 1) := by decide +kernel
theorem dX1_takeSea_18 : decode cX1_takeSea 18 = .ok (.getfield 31, 3) := by decide +kernel
theorem dX1_takeSea_21 : decode cX1_takeSea 21 = .ok (.putfield 31, 3) := by decide +kernel
theorem dX1_takeSea_24 : decode cX1_takeSea 24 = .ok (.aload_n 0, 1) := by decide +kernel
theorem dX1_takeSea_25 : decode cX1_takeSea 25 = .ok (.aload_n 1, 1) := by decide +kernel
theorem dX1_takeSea_26 : decode cX1_takeSea 26 = .ok (.getfield 34, 3) := by decide +kernel
theorem dX1_takeSea_29 : decode cX1_takeSea 29 = .ok (.putfield 34, 3) := by decide +kernel
theorem dX1_takeSea_32 : decode cX1_takeSea 32 = .ok (.aload_n 0, 1) := by decide +kernel
theorem dX1_takeSea_33 : decode cX1_takeSea 33 = .ok (.aload_n 1, 1) := by decide +kernel
theorem dX1_takeSea_34 : decode cX1_takeSea 34 = .ok (.getfield 21, 3) := by decide +kernel
theorem dX1_takeSea_37 : decode cX1_takeSea 37 = .ok (.putfield 21, 3) := by decide +kernel
theorem dX1_takeSea_40 : decode cX1_takeSea 40 = .ok (.iconst 0, 1) := by decide +kernel
theorem dX1_takeSea_41 : decode cX1_takeSea 41 = .ok (.istore_n 2, 1) := by decide +kernel
theorem dX1_takeSea_42 : decode cX1_takeSea 42 = .ok (.iload_n 2, 1) := by decide +kernel
theorem dX1_takeSea_43 : decode cX1_takeSea 43 = .ok (.bipush 6, 2) := by decide +kernel
theorem dX1_takeSea_45 : decode cX1_takeSea 45 = .ok (.if_icmp .ge 21, 3) := by decide +kernel
theorem dX1_takeSea_48 : decode cX1_takeSea 48 = .ok (.aload_n 0, 1) := by decide +kernel
theorem dX1_takeSea_49 : decode cX1_takeSea 49 = .ok (.getfield 9, 3) := by decide +kernel
theorem dX1_takeSea_52 : decode cX1_takeSea 52 = .ok (.iload_n 2, 1) := by decide +kernel
theorem dX1_takeSea_53 : decode cX1_takeSea 53 = .ok (.aload_n 1, 1) := by decide +kernel
theorem dX1_takeSea_54 : decode cX1_takeSea 54 = .ok (.getfield 9, 3) := by decide +kernel
theorem dX1_takeSea_57 : decode cX1_takeSea 57 = .ok (.iload_n 2, 1) := by decide +kernel
theorem dX1_takeSea_58 : decode cX1_takeSea 58 = .ok (.iaload, 1) := by decide +kernel
theorem dX1_takeSea_59 : decode cX1_takeSea 59 = .ok (.iastore, 1) := by decide +kernel
theorem dX1_takeSea_60 : decode cX1_takeSea 60 = .ok (.iinc 2 1, 3) := by decide +kernel
theorem dX1_takeSea_63 : decode cX1_takeSea 63 = .ok (.goto (-21), 3) := by decide +kernel
theorem dX1_takeSea_66 : decode cX1_takeSea 66 = .ok (.return_, 1) := by decide +kernel
theorem dX1_takeShips_0 : decode cX1_takeShips 0 = .ok (.aload_n 0, 1) := by decide +kernel
theorem dX1_takeShips_1 : decode cX1_takeShips 1 = .ok (.aload_n 1, 1) := by decide +kernel
theorem dX1_takeShips_2 : decode cX1_takeShips 2 = .ok (.getfield 37, 3) := by decide +kernel
theorem dX1_takeShips_5 : decode cX1_takeShips 5 = .ok (.putfield 37, 3) := by decide +kernel
theorem dX1_takeShips_8 : decode cX1_takeShips 8 = .ok (.iconst 0, 1) := by decide +kernel
theorem dX1_takeShips_9 : decode cX1_takeShips 9 = .ok (.istore_n 2, 1) := by decide +kernel
theorem dX1_takeShips_10 : decode cX1_takeShips 10 = .ok (.iload_n 2, 1) := by decide +kernel
theorem dX1_takeShips_11 : decode cX1_takeShips 11 = .ok (.bipush 6, 2) := by decide +kernel
theorem dX1_takeShips_13 : decode cX1_takeShips 13 = .ok (.if_icmp .ge 33, 3) := by decide +kernel
theorem dX1_takeShips_16 : decode cX1_takeShips 16 = .ok (.aload_n 0, 1) := by decide +kernel
theorem dX1_takeShips_17 : decode cX1_takeShips 17 = .ok (.getfield 15, 3) := by decide +kernel
theorem dX1_takeShips_20 : decode cX1_takeShips 20 = .ok (.iload_n 2, 1) := by decide +kernel
theorem dX1_takeShips_21 : decode cX1_takeShips 21 = .ok (.aload_n 1, 1) := by decide +kernel
theorem dX1_takeShips_22 : decode cX1_takeShips 22 = .ok (.getfield 15, 3) := by decide +kernel
theorem dX1_takeShips_25 : decode cX1_takeShips 25 = .ok (.iload_n 2, 1) := by decide +kernel
theorem dX1_takeShips_26 : decode cX1_takeShips 26 = .ok (.iaload, 1) := by decide +kernel
theorem dX1_takeShips_27 : decode cX1_takeShips 27 = .ok (.iastore, 1) := by decide +kernel
theorem dX1_takeShips_28 : decode cX1_takeShips 28 = .ok (.aload_n 0, 1) := by decide +kernel
theorem dX1_takeShips_29 : decode cX1_takeShips 29 = .ok (.getfield 18, 3) := by decide +kernel
theorem dX1_takeShips_32 : decode cX1_takeShips 32 = .ok (.iload_n 2, 1) := by decide +kernel
theorem dX1_takeShips_33 : decode cX1_takeShips 33 = .ok (.aload_n 1, 1) := by decide +kernel
theorem dX1_takeShips_34 : decode cX1_takeShips 34 = .ok (.getfield 18, 3) := by decide +kernel
theorem dX1_takeShips_37 : decode cX1_takeShips 37 = .ok (.iload_n 2, 1) := by decide +kernel
theorem dX1_takeShips_38 : decode cX1_takeShips 38 = .ok (.iaload, 1) := by decide +kernel
theorem dX1_takeShips_39 : decode cX1_takeShips 39 = .ok (.iastore, 1) := by decide +kernel
theorem dX1_takeShips_40 : decode cX1_takeShips 40 = .ok (.iinc 2 1, 3) := by decide +kernel
theorem dX1_takeShips_43 : decode cX1_takeShips 43 = .ok (.goto (-33), 3) := by decide +kernel
theorem dX1_takeShips_46 : decode cX1_takeShips 46 = .ok (.return_, 1) := by decide +kernel
theorem dX1_thickOf_0 : decode cX1_thickOf 0 = .ok (.aload_n 0, 1) := by decide +kernel
theorem dX1_thickOf_1 : decode cX1_thickOf 1 = .ok (.getfield 21, 3) := by decide +kernel
theorem dX1_thickOf_4 : decode cX1_thickOf 4 = .ok (.ifCond .le 21, 3) := by decide +kernel
theorem dX1_thickOf_7 : decode cX1_thickOf 7 = .ok (.iload_n 1, 1) := by decide +kernel
theorem dX1_thickOf_8 : decode cX1_thickOf 8 = .ok (.ifCond .lt 17, 3) := by decide +kernel
theorem dX1_thickOf_11 : decode cX1_thickOf 11 = .ok (.aload_n 0, 1) := by decide +kernel
theorem dX1_thickOf_12 : decode cX1_thickOf 12 = .ok (.getfield 9, 3) := by decide +kernel
theorem dX1_thickOf_15 : decode cX1_thickOf 15 = .ok (.iload_n 1, 1) := by decide +kernel
theorem dX1_thickOf_16 : decode cX1_thickOf 16 = .ok (.aload_n 0, 1) := by decide +kernel
theorem dX1_thickOf_17 : decode cX1_thickOf 17 = .ok (.getfield 21, 3) := by decide +kernel
theorem dX1_thickOf_20 : decode cX1_thickOf 20 = .ok (.irem, 1) := by decide +kernel
theorem dX1_thickOf_21 : decode cX1_thickOf 21 = .ok (.iaload, 1) := by decide +kernel
theorem dX1_thickOf_22 : decode cX1_thickOf 22 = .ok (.goto 4, 3) := by decide +kernel
theorem dX1_thickOf_25 : decode cX1_thickOf 25 = .ok (.iconst 0, 1) := by decide +kernel
theorem dX1_thickOf_26 : decode cX1_thickOf 26 = .ok (.ireturn, 1) := by decide +kernel
theorem dX1_allThick_0 : decode cX1_allThick 0 = .ok (.iconst 0, 1) := by decide +kernel
theorem dX1_allThick_1 : decode cX1_allThick 1 = .ok (.istore_n 1, 1) := by decide +kernel
theorem dX1_allThick_2 : decode cX1_allThick 2 = .ok (.iconst 0, 1) := by decide +kernel
theorem dX1_allThick_3 : decode cX1_allThick 3 = .ok (.istore_n 2, 1) := by decide +kernel
theorem dX1_allThick_4 : decode cX1_allThick 4 = .ok (.iload_n 2, 1) := by decide +kernel
theorem dX1_allThick_5 : decode cX1_allThick 5 = .ok (.aload_n 0, 1) := by decide +kernel
theorem dX1_allThick_6 : decode cX1_allThick 6 = .ok (.getfield 21, 3) := by decide +kernel
theorem dX1_allThick_9 : decode cX1_allThick 9 = .ok (.if_icmp .ge 18, 3) := by decide +kernel
theorem dX1_allThick_12 : decode cX1_allThick 12 = .ok (.iload_n 1, 1) := by decide +kernel
theorem dX1_allThick_13 : decode cX1_allThick 13 = .ok (.aload_n 0, 1) := by decide +kernel
theorem dX1_allThick_14 : decode cX1_allThick 14 = .ok (.getfield 9, 3) := by decide +kernel
theorem dX1_allThick_17 : decode cX1_allThick 17 = .ok (.iload_n 2, 1) := by decide +kernel
theorem dX1_allThick_18 : decode cX1_allThick 18 = .ok (.iaload, 1) := by decide +kernel
theorem dX1_allThick_19 : decode cX1_allThick 19 = .ok (.iadd, 1) := by decide +kernel
theorem dX1_allThick_20 : decode cX1_allThick 20 = .ok (.istore_n 1, 1) := by decide +kernel
theorem dX1_allThick_21 : decode cX1_allThick 21 = .ok (.iinc 2 1, 3) := by decide +kernel
theorem dX1_allThick_24 : decode cX1_allThick 24 = .ok (.goto (-20), 3) := by decide +kernel
theorem dX1_allThick_27 : decode cX1_allThick 27 = .ok (.iload_n 1, 1) := by decide +kernel
theorem dX1_allThick_28 : decode cX1_allThick 28 = .ok (.ireturn, 1) := by decide +kernel
theorem dX1_shipsAshore_0 : decode cX1_shipsAshore 0 = .ok (.iconst 0, 1) := by decide +kernel
theorem dX1_shipsAshore_1 : decode cX1_shipsAshore 1 = .ok (.istore_n 1, 1) := by decide +kernel
theorem dX1_shipsAshore_2 : decode cX1_shipsAshore 2 = .ok (.iconst 0, 1) := by decide +kernel
theorem dX1_shipsAshore_3 : decode cX1_shipsAshore 3 = .ok (.istore_n 2, 1) := by decide +kernel
theorem dX1_shipsAshore_4 : decode cX1_shipsAshore 4 = .ok (.iload_n 2, 1) := by decide +kernel
theorem dX1_shipsAshore_5 : decode cX1_shipsAshore 5 = .ok (.aload_n 0, 1) := by decide +kernel
theorem dX1_shipsAshore_6 : decode cX1_shipsAshore 6 = .ok (.getfield 37, 3) := by decide +kernel
theorem dX1_shipsAshore_9 : decode cX1_shipsAshore 9 = .ok (.if_icmp .ge 21, 3) := by decide +kernel
theorem dX1_shipsAshore_12 : decode cX1_shipsAshore 12 = .ok (.aload_n 0, 1) := by decide +kernel
theorem dX1_shipsAshore_13 : decode cX1_shipsAshore 13 = .ok (.getfield 18, 3) := by decide +kernel
theorem dX1_shipsAshore_16 : decode cX1_shipsAshore 16 = .ok (.iload_n 2, 1) := by decide +kernel
theorem dX1_shipsAshore_17 : decode cX1_shipsAshore 17 = .ok (.iaload, 1) := by decide +kernel
theorem dX1_shipsAshore_18 : decode cX1_shipsAshore 18 = .ok (.ifCond .ne 6, 3) := by decide +kernel
theorem dX1_shipsAshore_21 : decode cX1_shipsAshore 21 = .ok (.iinc 1 1, 3) := by decide +kernel
theorem dX1_shipsAshore_24 : decode cX1_shipsAshore 24 = .ok (.iinc 2 1, 3) := by decide +kernel
theorem dX1_shipsAshore_27 : decode cX1_shipsAshore 27 = .ok (.goto (-23), 3) := by decide +kernel
theorem dX1_shipsAshore_30 : decode cX1_shipsAshore 30 = .ok (.iload_n 1, 1) := by decide +kernel
theorem dX1_shipsAshore_31 : decode cX1_shipsAshore 31 = .ok (.ireturn, 1) := by decide +kernel
theorem dX1_loggedOf_0 : decode cX1_loggedOf 0 = .ok (.aload_n 0, 1) := by decide +kernel
theorem dX1_loggedOf_1 : decode cX1_loggedOf 1 = .ok (.getfield 18, 3) := by decide +kernel
theorem dX1_loggedOf_4 : decode cX1_loggedOf 4 = .ok (.iload_n 1, 1) := by decide +kernel
theorem dX1_loggedOf_5 : decode cX1_loggedOf 5 = .ok (.iaload, 1) := by decide +kernel
theorem dX1_loggedOf_6 : decode cX1_loggedOf 6 = .ok (.istore_n 2, 1) := by decide +kernel
theorem dX1_loggedOf_7 : decode cX1_loggedOf 7 = .ok (.aload_n 0, 1) := by decide +kernel
theorem dX1_loggedOf_8 : decode cX1_loggedOf 8 = .ok (.getfield 15, 3) := by decide +kernel
theorem dX1_loggedOf_11 : decode cX1_loggedOf 11 = .ok (.iload_n 1, 1) := by decide +kernel
theorem dX1_loggedOf_12 : decode cX1_loggedOf 12 = .ok (.iaload, 1) := by decide +kernel
theorem dX1_loggedOf_13 : decode cX1_loggedOf 13 = .ok (.iconst 4, 1) := by decide +kernel
theorem dX1_loggedOf_14 : decode cX1_loggedOf 14 = .ok (.if_icmp .eq 13, 3) := by decide +kernel
theorem dX1_loggedOf_17 : decode cX1_loggedOf 17 = .ok (.aload_n 0, 1) := by decide +kernel
theorem dX1_loggedOf_18 : decode cX1_loggedOf 18 = .ok (.getfield 15, 3) := by decide +kernel
theorem dX1_loggedOf_21 : decode cX1_loggedOf 21 = .ok (.iload_n 1, 1) := by decide +kernel
theorem dX1_loggedOf_22 : decode cX1_loggedOf 22 = .ok (.iaload, 1) := by decide +kernel
theorem dX1_loggedOf_23 : decode cX1_loggedOf 23 = .ok (.iconst 5, 1) := by decide +kernel
theorem dX1_loggedOf_24 : decode cX1_loggedOf 24 = .ok (.if_icmp .ne 7, 3) := by decide +kernel
theorem dX1_loggedOf_27 : decode cX1_loggedOf 27 = .ok (.iconst 1, 1) := by decide +kernel
theorem dX1_loggedOf_28 : decode cX1_loggedOf 28 = .ok (.goto 4, 3) := by decide +kernel
theorem dX1_loggedOf_31 : decode cX1_loggedOf 31 = .ok (.iconst 0, 1) := by decide +kernel
theorem dX1_loggedOf_32 : decode cX1_loggedOf 32 = .ok (.istore_n 3, 1) := by decide +kernel
theorem dX1_loggedOf_33 : decode cX1_loggedOf 33 = .ok (.aload_n 0, 1) := by decide +kernel
theorem dX1_loggedOf_34 : decode cX1_loggedOf 34 = .ok (.getfield 15, 3) := by decide +kernel
theorem dX1_loggedOf_37 : decode cX1_loggedOf 37 = .ok (.iload_n 1, 1) := by decide +kernel
theorem dX1_loggedOf_38 : decode cX1_loggedOf 38 = .ok (.iaload, 1) := by decide +kernel
theorem dX1_loggedOf_39 : decode cX1_loggedOf 39 = .ok (.iconst 5, 1) := by decide +kernel
theorem dX1_loggedOf_40 : decode cX1_loggedOf 40 = .ok (.if_icmp .ne 10, 3) := by decide +kernel
theorem dX1_loggedOf_43 : decode cX1_loggedOf 43 = .ok (.iload_n 2, 1) := by decide +kernel
theorem dX1_loggedOf_44 : decode cX1_loggedOf 44 = .ok (.iconst 2, 1) := by decide +kernel
theorem dX1_loggedOf_45 : decode cX1_loggedOf 45 = .ok (.if_icmp .le 5, 3) := by decide +kernel
theorem dX1_loggedOf_48 : decode cX1_loggedOf 48 = .ok (.iconst 0, 1) := by decide +kernel
theorem dX1_loggedOf_49 : decode cX1_loggedOf 49 = .ok (.ireturn, 1) := by decide +kernel
theorem dX1_loggedOf_50 : decode cX1_loggedOf 50 = .ok (.iload_n 2, 1) := by decide +kernel
theorem dX1_loggedOf_51 : decode cX1_loggedOf 51 = .ok (.ifCond .ne 9, 3) := by decide +kernel
theorem dX1_loggedOf_54 : decode cX1_loggedOf 54 = .ok (.iload_n 3, 1) := by decide +kernel
theorem dX1_loggedOf_55 : decode cX1_loggedOf 55 = .ok (.ifCond .ne 5, 3) := by decide +kernel
theorem dX1_loggedOf_58 : decode cX1_loggedOf 58 = .ok (.iconst 3, 1) := by decide +kernel
theorem dX1_loggedOf_59 : decode cX1_loggedOf 59 = .ok (.ireturn, 1) := by decide +kernel
theorem dX1_loggedOf_60 : decode cX1_loggedOf 60 = .ok (.aload_n 0, 1) := by decide +kernel
theorem dX1_loggedOf_61 : decode cX1_loggedOf 61 = .ok (.aload_n 0, 1) := by decide +kernel
theorem dX1_loggedOf_62 : decode cX1_loggedOf 62 = .ok (.getfield 34, 3) := by decide +kernel
theorem dX1_loggedOf_65 : decode cX1_loggedOf 65 = .ok (.invokevirtual 47, 3) := by decide +kernel
theorem dX1_loggedOf_68 : decode cX1_loggedOf 68 = .ok (.istore 4, 2) := by decide +kernel
theorem dX1_loggedOf_70 : decode cX1_loggedOf 70 = .ok (.iload_n 2, 1) := by decide +kernel
theorem dX1_loggedOf_71 : decode cX1_loggedOf 71 = .ok (.aload_n 0, 1) := by decide +kernel
theorem dX1_loggedOf_72 : decode cX1_loggedOf 72 = .ok (.getfield 28, 3) := by decide +kernel
theorem dX1_loggedOf_75 : decode cX1_loggedOf 75 = .ok (.iload 4, 2) := by decide +kernel
theorem dX1_loggedOf_77 : decode cX1_loggedOf 77 = .ok (.isub, 1) := by decide +kernel
theorem dX1_loggedOf_78 : decode cX1_loggedOf 78 = .ok (.if_icmp .gt 7, 3) := by decide +kernel
theorem dX1_loggedOf_81 : decode cX1_loggedOf 81 = .ok (.iconst 1, 1) := by decide +kernel
theorem dX1_loggedOf_82 : decode cX1_loggedOf 82 = .ok (.goto 4, 3) := by decide +kernel
theorem dX1_loggedOf_85 : decode cX1_loggedOf 85 = .ok (.iconst 0, 1) := by decide +kernel
theorem dX1_loggedOf_86 : decode cX1_loggedOf 86 = .ok (.istore 5, 2) := by decide +kernel
theorem dX1_loggedOf_88 : decode cX1_loggedOf 88 = .ok (.aload_n 0, 1) := by decide +kernel
theorem dX1_loggedOf_89 : decode cX1_loggedOf 89 = .ok (.getfield 31, 3) := by decide +kernel
theorem dX1_loggedOf_92 : decode cX1_loggedOf 92 = .ok (.ifCond .le 24, 3) := by decide +kernel
theorem dX1_loggedOf_95 : decode cX1_loggedOf 95 = .ok (.iload_n 2, 1) := by decide +kernel
theorem dX1_loggedOf_96 : decode cX1_loggedOf 96 = .ok (.iconst 4, 1) := by decide +kernel
theorem dX1_loggedOf_97 : decode cX1_loggedOf 97 = .ok (.aload_n 0, 1) := by decide +kernel
theorem dX1_loggedOf_98 : decode cX1_loggedOf 98 = .ok (.getfield 31, 3) := by decide +kernel
theorem dX1_loggedOf_101 : decode cX1_loggedOf 101 = .ok (.bipush 10, 2) := by decide +kernel
theorem dX1_loggedOf_103 : decode cX1_loggedOf 103 = .ok (.idiv, 1) := by decide +kernel
theorem dX1_loggedOf_104 : decode cX1_loggedOf 104 = .ok (.iadd, 1) := by decide +kernel
theorem dX1_loggedOf_105 : decode cX1_loggedOf 105 = .ok (.iload 4, 2) := by decide +kernel
theorem dX1_loggedOf_107 : decode cX1_loggedOf 107 = .ok (.iconst 2, 1) := by decide +kernel
theorem dX1_loggedOf_108 : decode cX1_loggedOf 108 = .ok (.idiv, 1) := by decide +kernel
theorem dX1_loggedOf_109 : decode cX1_loggedOf 109 = .ok (.isub, 1) := by decide +kernel
theorem dX1_loggedOf_110 : decode cX1_loggedOf 110 = .ok (.if_icmp .gt 6, 3) := by decide +kernel
theorem dX1_loggedOf_113 : decode cX1_loggedOf 113 = .ok (.iinc 5 2, 3) := by decide +kernel
theorem dX1_loggedOf_116 : decode cX1_loggedOf 116 = .ok (.iload 5, 2) := by decide +kernel
theorem dX1_loggedOf_118 : decode cX1_loggedOf 118 = .ok (.ireturn, 1) := by decide +kernel
theorem dX1_differOn_0 : decode cX1_differOn 0 = .ok (.aload_n 0, 1) := by decide +kernel
theorem dX1_differOn_1 : decode cX1_differOn 1 = .ok (.iload_n 1, 1) := by decide +kernel
theorem dX1_differOn_2 : decode cX1_differOn 2 = .ok (.invokevirtual 51, 3) := by decide +kernel
theorem dX1_differOn_5 : decode cX1_differOn 5 = .ok (.iconst 2, 1) := by decide +kernel
theorem dX1_differOn_6 : decode cX1_differOn 6 = .ok (.invokestatic 54, 3) := by decide +kernel
theorem dX1_differOn_9 : decode cX1_differOn 9 = .ok (.ireturn, 1) := by decide +kernel
theorem dX1_shipsSeen_0 : decode cX1_shipsSeen 0 = .ok (.iconst 0, 1) := by decide +kernel
theorem dX1_shipsSeen_1 : decode cX1_shipsSeen 1 = .ok (.istore_n 2, 1) := by decide +kernel
theorem dX1_shipsSeen_2 : decode cX1_shipsSeen 2 = .ok (.iconst 0, 1) := by decide +kernel
theorem dX1_shipsSeen_3 : decode cX1_shipsSeen 3 = .ok (.istore_n 3, 1) := by decide +kernel
theorem dX1_shipsSeen_4 : decode cX1_shipsSeen 4 = .ok (.iload_n 3, 1) := by decide +kernel
theorem dX1_shipsSeen_5 : decode cX1_shipsSeen 5 = .ok (.aload_n 0, 1) := by decide +kernel
theorem dX1_shipsSeen_6 : decode cX1_shipsSeen 6 = .ok (.getfield 37, 3) := by decide +kernel
theorem dX1_shipsSeen_9 : decode cX1_shipsSeen 9 = .ok (.if_icmp .ge 25, 3) := by decide +kernel
theorem dX1_shipsSeen_12 : decode cX1_shipsSeen 12 = .ok (.iload_n 2, 1) := by decide +kernel
theorem dX1_shipsSeen_13 : decode cX1_shipsSeen 13 = .ok (.aload_n 0, 1) := by decide +kernel
theorem dX1_shipsSeen_14 : decode cX1_shipsSeen 14 = .ok (.iload_n 3, 1) := by decide +kernel
theorem dX1_shipsSeen_15 : decode cX1_shipsSeen 15 = .ok (.invokevirtual 51, 3) := by decide +kernel
theorem dX1_shipsSeen_18 : decode cX1_shipsSeen 18 = .ok (.iload_n 1, 1) := by decide +kernel
theorem dX1_shipsSeen_19 : decode cX1_shipsSeen 19 = .ok (.invokestatic 54, 3) := by decide +kernel
theorem dX1_shipsSeen_22 : decode cX1_shipsSeen 22 = .ok (.iload_n 3, 1) := by decide +kernel
theorem dX1_shipsSeen_23 : decode cX1_shipsSeen 23 = .ok (.invokestatic 58, 3) := by decide +kernel
theorem dX1_shipsSeen_26 : decode cX1_shipsSeen 26 = .ok (.ior, 1) := by decide +kernel
theorem dX1_shipsSeen_27 : decode cX1_shipsSeen 27 = .ok (.istore_n 2, 1) := by decide +kernel
theorem dX1_shipsSeen_28 : decode cX1_shipsSeen 28 = .ok (.iinc 3 1, 3) := by decide +kernel
theorem dX1_shipsSeen_31 : decode cX1_shipsSeen 31 = .ok (.goto (-27), 3) := by decide +kernel
theorem dX1_shipsSeen_34 : decode cX1_shipsSeen 34 = .ok (.iload_n 2, 1) := by decide +kernel
theorem dX1_shipsSeen_35 : decode cX1_shipsSeen 35 = .ok (.ireturn, 1) := by decide +kernel
theorem dX1_nextPlaceOf_0 : decode cX1_nextPlaceOf 0 = .ok (.aload_n 0, 1) := by decide +kernel
theorem dX1_nextPlaceOf_1 : decode cX1_nextPlaceOf 1 = .ok (.getfield 34, 3) := by decide +kernel
theorem dX1_nextPlaceOf_4 : decode cX1_nextPlaceOf 4 = .ok (.iconst 2, 1) := by decide +kernel
theorem dX1_nextPlaceOf_5 : decode cX1_nextPlaceOf 5 = .ok (.irem, 1) := by decide +kernel
theorem dX1_nextPlaceOf_6 : decode cX1_nextPlaceOf 6 = .ok (.ifCond .ne 7, 3) := by decide +kernel
theorem dX1_nextPlaceOf_9 : decode cX1_nextPlaceOf 9 = .ok (.iconst 1, 1) := by decide +kernel
theorem dX1_nextPlaceOf_10 : decode cX1_nextPlaceOf 10 = .ok (.goto 4, 3) := by decide +kernel
theorem dX1_nextPlaceOf_13 : decode cX1_nextPlaceOf 13 = .ok (.iconst 0, 1) := by decide +kernel
theorem dX1_nextPlaceOf_14 : decode cX1_nextPlaceOf 14 = .ok (.istore_n 2, 1) := by decide +kernel
theorem dX1_nextPlaceOf_15 : decode cX1_nextPlaceOf 15 = .ok (.aload_n 0, 1) := by decide +kernel
theorem dX1_nextPlaceOf_16 : decode cX1_nextPlaceOf 16 = .ok (.getfield 15, 3) := by decide +kernel
theorem dX1_nextPlaceOf_19 : decode cX1_nextPlaceOf 19 = .ok (.iload_n 1, 1) := by decide +kernel
theorem dX1_nextPlaceOf_20 : decode cX1_nextPlaceOf 20 = .ok (.iaload, 1) := by decide +kernel
theorem dX1_nextPlaceOf_21 : decode cX1_nextPlaceOf 21 = .ok (.tableswitch 139 1 5 #[35, 46, 70, 81, 110], 35) := by decide +kernel
theorem dX1_nextPlaceOf_56 : decode cX1_nextPlaceOf 56 = .ok (.aload_n 0, 1) := by decide +kernel
theorem dX1_nextPlaceOf_57 : decode cX1_nextPlaceOf 57 = .ok (.getfield 18, 3) := by decide +kernel
theorem dX1_nextPlaceOf_60 : decode cX1_nextPlaceOf 60 = .ok (.iload_n 1, 1) := by decide +kernel
theorem dX1_nextPlaceOf_61 : decode cX1_nextPlaceOf 61 = .ok (.iaload, 1) := by decide +kernel
theorem dX1_nextPlaceOf_62 : decode cX1_nextPlaceOf 62 = .ok (.iconst 1, 1) := by decide +kernel
theorem dX1_nextPlaceOf_63 : decode cX1_nextPlaceOf 63 = .ok (.invokestatic 62, 3) := by decide +kernel
theorem dX1_nextPlaceOf_66 : decode cX1_nextPlaceOf 66 = .ok (.ireturn, 1) := by decide +kernel
theorem dX1_nextPlaceOf_67 : decode cX1_nextPlaceOf 67 = .ok (.iload_n 2, 1) := by decide +kernel
theorem dX1_nextPlaceOf_68 : decode cX1_nextPlaceOf 68 = .ok (.ifCond .eq 16, 3) := by decide +kernel
theorem dX1_nextPlaceOf_71 : decode cX1_nextPlaceOf 71 = .ok (.aload_n 0, 1) := by decide +kernel
theorem dX1_nextPlaceOf_72 : decode cX1_nextPlaceOf 72 = .ok (.getfield 18, 3) := by decide +kernel
theorem dX1_nextPlaceOf_75 : decode cX1_nextPlaceOf 75 = .ok (.iload_n 1, 1) := by decide +kernel
theorem dX1_nextPlaceOf_76 : decode cX1_nextPlaceOf 76 = .ok (.iaload, 1) := by decide +kernel
theorem dX1_nextPlaceOf_77 : decode cX1_nextPlaceOf 77 = .ok (.iconst 1, 1) := by decide +kernel
theorem dX1_nextPlaceOf_78 : decode cX1_nextPlaceOf 78 = .ok (.invokestatic 62, 3) := by decide +kernel
theorem dX1_nextPlaceOf_81 : decode cX1_nextPlaceOf 81 = .ok (.goto 9, 3) := by decide +kernel
theorem dX1_nextPlaceOf_84 : decode cX1_nextPlaceOf 84 = .ok (.aload_n 0, 1) := by decide +kernel
theorem dX1_nextPlaceOf_85 : decode cX1_nextPlaceOf 85 = .ok (.getfield 18, 3) := by decide +kernel
theorem dX1_nextPlaceOf_88 : decode cX1_nextPlaceOf 88 = .ok (.iload_n 1, 1) := by decide +kernel
theorem dX1_nextPlaceOf_89 : decode cX1_nextPlaceOf 89 = .ok (.iaload, 1) := by decide +kernel
theorem dX1_nextPlaceOf_90 : decode cX1_nextPlaceOf 90 = .ok (.ireturn, 1) := by decide +kernel
theorem dX1_nextPlaceOf_91 : decode cX1_nextPlaceOf 91 = .ok (.aload_n 0, 1) := by decide +kernel
theorem dX1_nextPlaceOf_92 : decode cX1_nextPlaceOf 92 = .ok (.getfield 18, 3) := by decide +kernel
theorem dX1_nextPlaceOf_95 : decode cX1_nextPlaceOf 95 = .ok (.iload_n 1, 1) := by decide +kernel
theorem dX1_nextPlaceOf_96 : decode cX1_nextPlaceOf 96 = .ok (.iaload, 1) := by decide +kernel
theorem dX1_nextPlaceOf_97 : decode cX1_nextPlaceOf 97 = .ok (.iconst 2, 1) := by decide +kernel
theorem dX1_nextPlaceOf_98 : decode cX1_nextPlaceOf 98 = .ok (.invokestatic 62, 3) := by decide +kernel
theorem dX1_nextPlaceOf_101 : decode cX1_nextPlaceOf 101 = .ok (.ireturn, 1) := by decide +kernel
theorem dX1_nextPlaceOf_102 : decode cX1_nextPlaceOf 102 = .ok (.iload_n 2, 1) := by decide +kernel
theorem dX1_nextPlaceOf_103 : decode cX1_nextPlaceOf 103 = .ok (.ifCond .eq 17, 3) := by decide +kernel
theorem dX1_nextPlaceOf_106 : decode cX1_nextPlaceOf 106 = .ok (.aload_n 0, 1) := by decide +kernel
theorem dX1_nextPlaceOf_107 : decode cX1_nextPlaceOf 107 = .ok (.aload_n 0, 1) := by decide +kernel
theorem dX1_nextPlaceOf_108 : decode cX1_nextPlaceOf 108 = .ok (.getfield 18, 3) := by decide +kernel
theorem dX1_nextPlaceOf_111 : decode cX1_nextPlaceOf 111 = .ok (.iload_n 1, 1) := by decide +kernel
theorem dX1_nextPlaceOf_112 : decode cX1_nextPlaceOf 112 = .ok (.iaload, 1) := by decide +kernel
theorem dX1_nextPlaceOf_113 : decode cX1_nextPlaceOf 113 = .ok (.iconst 1, 1) := by decide +kernel
theorem dX1_nextPlaceOf_114 : decode cX1_nextPlaceOf 114 = .ok (.invokevirtual 66, 3) := by decide +kernel
theorem dX1_nextPlaceOf_117 : decode cX1_nextPlaceOf 117 = .ok (.goto 13, 3) := by decide +kernel
theorem dX1_nextPlaceOf_120 : decode cX1_nextPlaceOf 120 = .ok (.aload_n 0, 1) := by decide +kernel
theorem dX1_nextPlaceOf_121 : decode cX1_nextPlaceOf 121 = .ok (.getfield 18, 3) := by decide +kernel
theorem dX1_nextPlaceOf_124 : decode cX1_nextPlaceOf 124 = .ok (.iload_n 1, 1) := by decide +kernel
theorem dX1_nextPlaceOf_125 : decode cX1_nextPlaceOf 125 = .ok (.iaload, 1) := by decide +kernel
theorem dX1_nextPlaceOf_126 : decode cX1_nextPlaceOf 126 = .ok (.iconst 1, 1) := by decide +kernel
theorem dX1_nextPlaceOf_127 : decode cX1_nextPlaceOf 127 = .ok (.invokestatic 62, 3) := by decide +kernel
theorem dX1_nextPlaceOf_130 : decode cX1_nextPlaceOf 130 = .ok (.ireturn, 1) := by decide +kernel
theorem dX1_nextPlaceOf_131 : decode cX1_nextPlaceOf 131 = .ok (.iload_n 2, 1) := by decide +kernel
theorem dX1_nextPlaceOf_132 : decode cX1_nextPlaceOf 132 = .ok (.ifCond .eq 17, 3) := by decide +kernel
theorem dX1_nextPlaceOf_135 : decode cX1_nextPlaceOf 135 = .ok (.aload_n 0, 1) := by decide +kernel
theorem dX1_nextPlaceOf_136 : decode cX1_nextPlaceOf 136 = .ok (.aload_n 0, 1) := by decide +kernel
theorem dX1_nextPlaceOf_137 : decode cX1_nextPlaceOf 137 = .ok (.getfield 18, 3) := by decide +kernel
theorem dX1_nextPlaceOf_140 : decode cX1_nextPlaceOf 140 = .ok (.iload_n 1, 1) := by decide +kernel
theorem dX1_nextPlaceOf_141 : decode cX1_nextPlaceOf 141 = .ok (.iaload, 1) := by decide +kernel
theorem dX1_nextPlaceOf_142 : decode cX1_nextPlaceOf 142 = .ok (.iconst 2, 1) := by decide +kernel
theorem dX1_nextPlaceOf_143 : decode cX1_nextPlaceOf 143 = .ok (.invokevirtual 66, 3) := by decide +kernel
theorem dX1_nextPlaceOf_146 : decode cX1_nextPlaceOf 146 = .ok (.goto 13, 3) := by decide +kernel
theorem dX1_nextPlaceOf_149 : decode cX1_nextPlaceOf 149 = .ok (.aload_n 0, 1) := by decide +kernel
theorem dX1_nextPlaceOf_150 : decode cX1_nextPlaceOf 150 = .ok (.getfield 18, 3) := by decide +kernel
theorem dX1_nextPlaceOf_153 : decode cX1_nextPlaceOf 153 = .ok (.iload_n 1, 1) := by decide +kernel
theorem dX1_nextPlaceOf_154 : decode cX1_nextPlaceOf 154 = .ok (.iaload, 1) := by decide +kernel
theorem dX1_nextPlaceOf_155 : decode cX1_nextPlaceOf 155 = .ok (.iconst 2, 1) := by decide +kernel
theorem dX1_nextPlaceOf_156 : decode cX1_nextPlaceOf 156 = .ok (.invokestatic 62, 3) := by decide +kernel
theorem dX1_nextPlaceOf_159 : decode cX1_nextPlaceOf 159 = .ok (.ireturn, 1) := by decide +kernel
theorem dX1_nextPlaceOf_160 : decode cX1_nextPlaceOf 160 = .ok (.aload_n 0, 1) := by decide +kernel
theorem dX1_nextPlaceOf_161 : decode cX1_nextPlaceOf 161 = .ok (.getfield 18, 3) := by decide +kernel
theorem dX1_nextPlaceOf_164 : decode cX1_nextPlaceOf 164 = .ok (.iload_n 1, 1) := by decide +kernel
theorem dX1_nextPlaceOf_165 : decode cX1_nextPlaceOf 165 = .ok (.iaload, 1) := by decide +kernel
theorem dX1_nextPlaceOf_166 : decode cX1_nextPlaceOf 166 = .ok (.ireturn, 1) := by decide +kernel
theorem dX1_inward_0 : decode cX1_inward 0 = .ok (.iconst 0, 1) := by decide +kernel
theorem dX1_inward_1 : decode cX1_inward 1 = .ok (.iload_n 0, 1) := by decide +kernel
theorem dX1_inward_2 : decode cX1_inward 2 = .ok (.iload_n 1, 1) := by decide +kernel
theorem dX1_inward_3 : decode cX1_inward 3 = .ok (.isub, 1) := by decide +kernel
theorem dX1_inward_4 : decode cX1_inward 4 = .ok (.invokestatic 69, 3) := by decide +kernel
theorem dX1_inward_7 : decode cX1_inward 7 = .ok (.ireturn, 1) := by decide +kernel
theorem dX1_outward_0 : decode cX1_outward 0 = .ok (.aload_n 0, 1) := by decide +kernel
theorem dX1_outward_1 : decode cX1_outward 1 = .ok (.getfield 25, 3) := by decide +kernel
theorem dX1_outward_4 : decode cX1_outward 4 = .ok (.iconst 1, 1) := by decide +kernel
theorem dX1_outward_5 : decode cX1_outward 5 = .ok (.isub, 1) := by decide +kernel
theorem dX1_outward_6 : decode cX1_outward 6 = .ok (.iload_n 1, 1) := by decide +kernel
theorem dX1_outward_7 : decode cX1_outward 7 = .ok (.iload_n 2, 1) := by decide +kernel
theorem dX1_outward_8 : decode cX1_outward 8 = .ok (.iadd, 1) := by decide +kernel
theorem dX1_outward_9 : decode cX1_outward 9 = .ok (.invokestatic 74, 3) := by decide +kernel
theorem dX1_outward_12 : decode cX1_outward 12 = .ok (.ireturn, 1) := by decide +kernel
theorem dX1_addOil_0 : decode cX1_addOil 0 = .ok (.aload_n 0, 1) := by decide +kernel
theorem dX1_addOil_1 : decode cX1_addOil 1 = .ok (.bipush 60, 2) := by decide +kernel
theorem dX1_addOil_3 : decode cX1_addOil 3 = .ok (.aload_n 0, 1) := by decide +kernel
theorem dX1_addOil_4 : decode cX1_addOil 4 = .ok (.getfield 31, 3) := by decide +kernel
theorem dX1_addOil_7 : decode cX1_addOil 7 = .ok (.iload_n 1, 1) := by decide +kernel
theorem dX1_addOil_8 : decode cX1_addOil 8 = .ok (.iadd, 1) := by decide +kernel
theorem dX1_addOil_9 : decode cX1_addOil 9 = .ok (.invokestatic 74, 3) := by decide +kernel
theorem dX1_addOil_12 : decode cX1_addOil 12 = .ok (.putfield 31, 3) := by decide +kernel
theorem dX1_addOil_15 : decode cX1_addOil 15 = .ok (.return_, 1) := by decide +kernel
theorem dX1_passWatch_0 : decode cX1_passWatch 0 = .ok (.iconst 0, 1) := by decide +kernel
theorem dX1_passWatch_1 : decode cX1_passWatch 1 = .ok (.istore_n 1, 1) := by decide +kernel
theorem dX1_passWatch_2 : decode cX1_passWatch 2 = .ok (.iload_n 1, 1) := by decide +kernel
theorem dX1_passWatch_3 : decode cX1_passWatch 3 = .ok (.aload_n 0, 1) := by decide +kernel
theorem dX1_passWatch_4 : decode cX1_passWatch 4 = .ok (.getfield 37, 3) := by decide +kernel
theorem dX1_passWatch_7 : decode cX1_passWatch 7 = .ok (.if_icmp .ge 20, 3) := by decide +kernel
theorem dX1_passWatch_10 : decode cX1_passWatch 10 = .ok (.aload_n 0, 1) := by decide +kernel
theorem dX1_passWatch_11 : decode cX1_passWatch 11 = .ok (.getfield 18, 3) := by decide +kernel
theorem dX1_passWatch_14 : decode cX1_passWatch 14 = .ok (.iload_n 1, 1) := by decide +kernel
theorem dX1_passWatch_15 : decode cX1_passWatch 15 = .ok (.aload_n 0, 1) := by decide +kernel
theorem dX1_passWatch_16 : decode cX1_passWatch 16 = .ok (.iload_n 1, 1) := by decide +kernel
theorem dX1_passWatch_17 : decode cX1_passWatch 17 = .ok (.invokevirtual 77, 3) := by decide +kernel
theorem dX1_passWatch_20 : decode cX1_passWatch 20 = .ok (.iastore, 1) := by decide +kernel
theorem dX1_passWatch_21 : decode cX1_passWatch 21 = .ok (.iinc 1 1, 3) := by decide +kernel
theorem dX1_passWatch_24 : decode cX1_passWatch 24 = .ok (.goto (-22), 3) := by decide +kernel
theorem dX1_passWatch_27 : decode cX1_passWatch 27 = .ok (.aload_n 0, 1) := by decide +kernel
theorem dX1_passWatch_28 : decode cX1_passWatch 28 = .ok (.aload_n 0, 1) := by decide +kernel
theorem dX1_passWatch_29 : decode cX1_passWatch 29 = .ok (.getfield 34, 3) := by decide +kernel
theorem dX1_passWatch_32 : decode cX1_passWatch 32 = .ok (.invokevirtual 47, 3) := by decide +kernel
theorem dX1_passWatch_35 : decode cX1_passWatch 35 = .ok (.iconst 5, 1) := by decide +kernel
theorem dX1_passWatch_36 : decode cX1_passWatch 36 = .ok (.if_icmp .lt 7, 3) := by decide +kernel
theorem dX1_passWatch_39 : decode cX1_passWatch 39 = .ok (.iconst 2, 1) := by decide +kernel
theorem dX1_passWatch_40 : decode cX1_passWatch 40 = .ok (.goto 4, 3) := by decide +kernel
theorem dX1_passWatch_43 : decode cX1_passWatch 43 = .ok (.iconst 1, 1) := by decide +kernel
theorem dX1_passWatch_44 : decode cX1_passWatch 44 = .ok (.istore_n 1, 1) := by decide +kernel
theorem dX1_passWatch_45 : decode cX1_passWatch 45 = .ok (.aload_n 0, 1) := by decide +kernel
theorem dX1_passWatch_46 : decode cX1_passWatch 46 = .ok (.iconst 0, 1) := by decide +kernel
theorem dX1_passWatch_47 : decode cX1_passWatch 47 = .ok (.aload_n 0, 1) := by decide +kernel
theorem dX1_passWatch_48 : decode cX1_passWatch 48 = .ok (.getfield 31, 3) := by decide +kernel
theorem dX1_passWatch_51 : decode cX1_passWatch 51 = .ok (.iload_n 1, 1) := by decide +kernel
theorem dX1_passWatch_52 : decode cX1_passWatch 52 = .ok (.isub, 1) := by decide +kernel
theorem dX1_passWatch_53 : decode cX1_passWatch 53 = .ok (.invokestatic 69, 3) := by decide +kernel
theorem dX1_passWatch_56 : decode cX1_passWatch 56 = .ok (.putfield 31, 3) := by decide +kernel
theorem dX1_passWatch_59 : decode cX1_passWatch 59 = .ok (.aload_n 0, 1) := by decide +kernel
theorem dX1_passWatch_60 : decode cX1_passWatch 60 = .ok (.dup, 1) := by decide +kernel
theorem dX1_passWatch_61 : decode cX1_passWatch 61 = .ok (.getfield 34, 3) := by decide +kernel
theorem dX1_passWatch_64 : decode cX1_passWatch 64 = .ok (.iconst 1, 1) := by decide +kernel
theorem dX1_passWatch_65 : decode cX1_passWatch 65 = .ok (.iadd, 1) := by decide +kernel
theorem dX1_passWatch_66 : decode cX1_passWatch 66 = .ok (.putfield 34, 3) := by decide +kernel
theorem dX1_passWatch_69 : decode cX1_passWatch 69 = .ok (.return_, 1) := by decide +kernel
theorem dX1_passWatches_0 : decode cX1_passWatches 0 = .ok (.iconst 0, 1) := by decide +kernel
theorem dX1_passWatches_1 : decode cX1_passWatches 1 = .ok (.istore_n 2, 1) := by decide +kernel
theorem dX1_passWatches_2 : decode cX1_passWatches 2 = .ok (.iload_n 2, 1) := by decide +kernel
theorem dX1_passWatches_3 : decode cX1_passWatches 3 = .ok (.iload_n 1, 1) := by decide +kernel
theorem dX1_passWatches_4 : decode cX1_passWatches 4 = .ok (.if_icmp .ge 13, 3) := by decide +kernel
theorem dX1_passWatches_7 : decode cX1_passWatches 7 = .ok (.aload_n 0, 1) := by decide +kernel
theorem dX1_passWatches_8 : decode cX1_passWatches 8 = .ok (.invokevirtual 80, 3) := by decide +kernel
theorem dX1_passWatches_11 : decode cX1_passWatches 11 = .ok (.iinc 2 1, 3) := by decide +kernel
theorem dX1_passWatches_14 : decode cX1_passWatches 14 = .ok (.goto (-12), 3) := by decide +kernel
theorem dX1_passWatches_17 : decode cX1_passWatches 17 = .ok (.return_, 1) := by decide +kernel
theorem dX1_befall_0 : decode cX1_befall 0 = .ok (.aload_n 0, 1) := by decide +kernel
theorem dX1_befall_1 : decode cX1_befall 1 = .ok (.getfield 21, 3) := by decide +kernel
theorem dX1_befall_4 : decode cX1_befall 4 = .ok (.iconst 1, 1) := by decide +kernel
theorem dX1_befall_5 : decode cX1_befall 5 = .ok (.if_icmp .lt 17, 3) := by decide +kernel
theorem dX1_befall_8 : decode cX1_befall 8 = .ok (.aload_n 0, 1) := by decide +kernel
theorem dX1_befall_9 : decode cX1_befall 9 = .ok (.getfield 37, 3) := by decide +kernel
theorem dX1_befall_12 : decode cX1_befall 12 = .ok (.iconst 1, 1) := by decide +kernel
theorem dX1_befall_13 : decode cX1_befall 13 = .ok (.if_icmp .lt 9, 3) := by decide +kernel
theorem dX1_befall_16 : decode cX1_befall 16 = .ok (.lload_n 1, 1) := by decide +kernel
theorem dX1_befall_17 : decode cX1_befall 17 = .ok (.lconst 0, 1) := by decide +kernel
theorem dX1_befall_18 : decode cX1_befall 18 = .ok (.lcmp, 1) := by decide +kernel
theorem dX1_befall_19 : decode cX1_befall 19 = .ok (.ifCond .ge 4, 3) := by decide +kernel
theorem dX1_befall_22 : decode cX1_befall 22 = .ok (.return_, 1) := by decide +kernel
theorem dX1_befall_23 : decode cX1_befall 23 = .ok (.lload_n 1, 1) := by decide +kernel
theorem dX1_befall_24 : decode cX1_befall 24 = .ok (.ldc2_w 83, 3) := by decide +kernel
theorem dX1_befall_27 : decode cX1_befall 27 = .ok (.lrem, 1) := by decide +kernel
theorem dX1_befall_28 : decode cX1_befall 28 = .ok (.lconst 0, 1) := by decide +kernel
theorem dX1_befall_29 : decode cX1_befall 29 = .ok (.lcmp, 1) := by decide +kernel
theorem dX1_befall_30 : decode cX1_befall 30 = .ok (.ifCond .ne 22, 3) := by decide +kernel
theorem dX1_befall_33 : decode cX1_befall 33 = .ok (.aload_n 0, 1) := by decide +kernel
theorem dX1_befall_34 : decode cX1_befall 34 = .ok (.getfield 9, 3) := by decide +kernel
theorem dX1_befall_37 : decode cX1_befall 37 = .ok (.lload_n 1, 1) := by decide +kernel
theorem dX1_befall_38 : decode cX1_befall 38 = .ok (.aload_n 0, 1) := by decide +kernel
theorem dX1_befall_39 : decode cX1_befall 39 = .ok (.getfield 21, 3) := by decide +kernel
theorem dX1_befall_42 : decode cX1_befall 42 = .ok (.i2l, 1) := by decide +kernel
theorem dX1_befall_43 : decode cX1_befall 43 = .ok (.lrem, 1) := by decide +kernel
theorem dX1_befall_44 : decode cX1_befall 44 = .ok (.l2i, 1) := by decide +kernel
theorem dX1_befall_45 : decode cX1_befall 45 = .ok (.lload_n 1, 1) := by decide +kernel
theorem dX1_befall_46 : decode cX1_befall 46 = .ok (.ldc2_w 85, 3) := by decide +kernel
theorem dX1_befall_49 : decode cX1_befall 49 = .ok (.lrem, 1) := by decide +kernel
theorem dX1_befall_50 : decode cX1_befall 50 = .ok (.l2i, 1) := by decide +kernel
theorem dX1_befall_51 : decode cX1_befall 51 = .ok (.iastore, 1) := by decide +kernel
theorem dX1_befall_52 : decode cX1_befall 52 = .ok (.lload_n 1, 1) := by decide +kernel
theorem dX1_befall_53 : decode cX1_befall 53 = .ok (.aload_n 0, 1) := by decide +kernel
theorem dX1_befall_54 : decode cX1_befall 54 = .ok (.getfield 37, 3) := by decide +kernel
theorem dX1_befall_57 : decode cX1_befall 57 = .ok (.i2l, 1) := by decide +kernel
theorem dX1_befall_58 : decode cX1_befall 58 = .ok (.lrem, 1) := by decide +kernel
theorem dX1_befall_59 : decode cX1_befall 59 = .ok (.l2i, 1) := by decide +kernel
theorem dX1_befall_60 : decode cX1_befall 60 = .ok (.istore_n 3, 1) := by decide +kernel
theorem dX1_befall_61 : decode cX1_befall 61 = .ok (.aload_n 0, 1) := by decide +kernel
theorem dX1_befall_62 : decode cX1_befall 62 = .ok (.getfield 18, 3) := by decide +kernel
theorem dX1_befall_65 : decode cX1_befall 65 = .ok (.iload_n 3, 1) := by decide +kernel
theorem dX1_befall_66 : decode cX1_befall 66 = .ok (.iaload, 1) := by decide +kernel
theorem dX1_befall_67 : decode cX1_befall 67 = .ok (.ifCond .ne 15, 3) := by decide +kernel
theorem dX1_befall_70 : decode cX1_befall 70 = .ok (.aload_n 0, 1) := by decide +kernel
theorem dX1_befall_71 : decode cX1_befall 71 = .ok (.getfield 18, 3) := by decide +kernel
theorem dX1_befall_74 : decode cX1_befall 74 = .ok (.iload_n 3, 1) := by decide +kernel
theorem dX1_befall_75 : decode cX1_befall 75 = .ok (.aload_n 0, 1) := by decide +kernel
theorem dX1_befall_76 : decode cX1_befall 76 = .ok (.getfield 25, 3) := by decide +kernel
theorem dX1_befall_79 : decode cX1_befall 79 = .ok (.iconst 1, 1) := by decide +kernel
theorem dX1_befall_80 : decode cX1_befall 80 = .ok (.isub, 1) := by decide +kernel
theorem dX1_befall_81 : decode cX1_befall 81 = .ok (.iastore, 1) := by decide +kernel
theorem dX1_befall_82 : decode cX1_befall 82 = .ok (.aload_n 0, 1) := by decide +kernel
theorem dX1_befall_83 : decode cX1_befall 83 = .ok (.getfield 31, 3) := by decide +kernel
theorem dX1_befall_86 : decode cX1_befall 86 = .ok (.ifCond .ne 9, 3) := by decide +kernel
theorem dX1_befall_89 : decode cX1_befall 89 = .ok (.aload_n 0, 1) := by decide +kernel
theorem dX1_befall_90 : decode cX1_befall 90 = .ok (.bipush 9, 2) := by decide +kernel
theorem dX1_befall_92 : decode cX1_befall 92 = .ok (.invokevirtual 87, 3) := by decide +kernel
theorem dX1_befall_95 : decode cX1_befall 95 = .ok (.return_, 1) := by decide +kernel
theorem dX2_init_0 : decode cX2_init 0 = .ok (.aload_n 0, 1) := by decide +kernel
theorem dX2_init_1 : decode cX2_init 1 = .ok (.invokespecial 3, 3) := by decide +kernel
theorem dX2_init_4 : decode cX2_init 4 = .ok (.aload_n 0, 1) := by decide +kernel
theorem dX2_init_5 : decode cX2_init 5 = .ok (.bipush 40, 2) := by decide +kernel
theorem dX2_init_7 : decode cX2_init 7 = .ok (.newarray .int, 2) := by decide +kernel
theorem dX2_init_9 : decode cX2_init 9 = .ok (.putfield 9, 3) := by decide +kernel
theorem dX2_init_12 : decode cX2_init 12 = .ok (.aload_n 0, 1) := by decide +kernel
theorem dX2_init_13 : decode cX2_init 13 = .ok (.iconst 1, 1) := by decide +kernel
theorem dX2_init_14 : decode cX2_init 14 = .ok (.putfield 15, 3) := by decide +kernel
theorem dX2_init_17 : decode cX2_init 17 = .ok (.return_, 1) := by decide +kernel
theorem dX2_begin_0 : decode cX2_begin 0 = .ok (.aload_n 0, 1) := by decide +kernel
theorem dX2_begin_1 : decode cX2_begin 1 = .ok (.iconst 0, 1) := by decide +kernel
theorem dX2_begin_2 : decode cX2_begin 2 = .ok (.putfield 15, 3) := by decide +kernel
theorem dX2_begin_5 : decode cX2_begin 5 = .ok (.aload_n 0, 1) := by decide +kernel
theorem dX2_begin_6 : decode cX2_begin 6 = .ok (.iload_n 1, 1) := by decide +kernel
theorem dX2_begin_7 : decode cX2_begin 7 = .ok (.putfield 19, 3) := by decide +kernel
theorem dX2_begin_10 : decode cX2_begin 10 = .ok (.aload_n 0, 1) := by decide +kernel
theorem dX2_begin_11 : decode cX2_begin 11 = .ok (.iload_n 2, 1) := by decide +kernel
theorem dX2_begin_12 : decode cX2_begin 12 = .ok (.putfield 23, 3) := by decide +kernel
theorem dX2_begin_15 : decode cX2_begin 15 = .ok (.iconst 0, 1) := by decide +kernel
theorem dX2_begin_16 : decode cX2_begin 16 = .ok (.istore_n 3, 1) := by decide +kernel
theorem dX2_begin_17 : decode cX2_begin 17 = .ok (.iload_n 3, 1) := by decide +kernel
theorem dX2_begin_18 : decode cX2_begin 18 = .ok (.bipush 40, 2) := by decide +kernel
theorem dX2_begin_20 : decode cX2_begin 20 = .ok (.if_icmp .ge 16, 3) := by decide +kernel
theorem dX2_begin_23 : decode cX2_begin 23 = .ok (.aload_n 0, 1) := by decide +kernel
theorem dX2_begin_24 : decode cX2_begin 24 = .ok (.getfield 9, 3) := by decide +kernel
theorem dX2_begin_27 : decode cX2_begin 27 = .ok (.iload_n 3, 1) := by decide +kernel
theorem dX2_begin_28 : decode cX2_begin 28 = .ok (.iconst 0, 1) := by decide +kernel
theorem dX2_begin_29 : decode cX2_begin 29 = .ok (.iastore, 1) := by decide +kernel
theorem dX2_begin_30 : decode cX2_begin 30 = .ok (.iinc 3 1, 3) := by decide +kernel
theorem dX2_begin_33 : decode cX2_begin 33 = .ok (.goto (-16), 3) := by decide +kernel
theorem dX2_begin_36 : decode cX2_begin 36 = .ok (.return_, 1) := by decide +kernel
theorem dX2_hasSpan_0 : decode cX2_hasSpan 0 = .ok (.iload_n 1, 1) := by decide +kernel
theorem dX2_hasSpan_1 : decode cX2_hasSpan 1 = .ok (.ifCond .lt 29, 3) := by decide +kernel
theorem dX2_hasSpan_4 : decode cX2_hasSpan 4 = .ok (.iload_n 2, 1) := by decide +kernel
theorem dX2_hasSpan_5 : decode cX2_hasSpan 5 = .ok (.ifCond .lt 25, 3) := by decide +kernel
theorem dX2_hasSpan_8 : decode cX2_hasSpan 8 = .ok (.iload_n 2, 1) := by decide +kernel
theorem dX2_hasSpan_9 : decode cX2_hasSpan 9 = .ok (.aload_n 0, 1) := by decide +kernel
theorem dX2_hasSpan_10 : decode cX2_hasSpan 10 = .ok (.getfield 23, 3) := by decide +kernel
theorem dX2_hasSpan_13 : decode cX2_hasSpan 13 = .ok (.if_icmp .gt 17, 3) := by decide +kernel
theorem dX2_hasSpan_16 : decode cX2_hasSpan 16 = .ok (.iload_n 1, 1) := by decide +kernel
theorem dX2_hasSpan_17 : decode cX2_hasSpan 17 = .ok (.aload_n 0, 1) := by decide +kernel
theorem dX2_hasSpan_18 : decode cX2_hasSpan 18 = .ok (.getfield 23, 3) := by decide +kernel
theorem dX2_hasSpan_21 : decode cX2_hasSpan 21 = .ok (.iload_n 2, 1) := by decide +kernel
theorem dX2_hasSpan_22 : decode cX2_hasSpan 22 = .ok (.isub, 1) := by decide +kernel
theorem dX2_hasSpan_23 : decode cX2_hasSpan 23 = .ok (.if_icmp .gt 7, 3) := by decide +kernel
theorem dX2_hasSpan_26 : decode cX2_hasSpan 26 = .ok (.iconst 1, 1) := by decide +kernel
theorem dX2_hasSpan_27 : decode cX2_hasSpan 27 = .ok (.goto 4, 3) := by decide +kernel
theorem dX2_hasSpan_30 : decode cX2_hasSpan 30 = .ok (.iconst 0, 1) := by decide +kernel
theorem dX2_hasSpan_31 : decode cX2_hasSpan 31 = .ok (.ireturn, 1) := by decide +kernel
theorem dX2_findingOf_0 : decode cX2_findingOf 0 = .ok (.aload_n 0, 1) := by decide +kernel
theorem dX2_findingOf_1 : decode cX2_findingOf 1 = .ok (.getfield 15, 3) := by decide +kernel
theorem dX2_findingOf_4 : decode cX2_findingOf 4 = .ok (.ifCond .eq 5, 3) := by decide +kernel
theorem dX2_findingOf_7 : decode cX2_findingOf 7 = .ok (.iconst 1, 1) := by decide +kernel
theorem dX2_findingOf_8 : decode cX2_findingOf 8 = .ok (.ireturn, 1) := by decide +kernel
theorem dX2_findingOf_9 : decode cX2_findingOf 9 = .ok (.aload_n 0, 1) := by decide +kernel
theorem dX2_findingOf_10 : decode cX2_findingOf 10 = .ok (.iload_n 1, 1) := by decide +kernel
theorem dX2_findingOf_11 : decode cX2_findingOf 11 = .ok (.iload_n 2, 1) := by decide +kernel
theorem dX2_findingOf_12 : decode cX2_findingOf 12 = .ok (.invokevirtual 26, 3) := by decide +kernel
theorem dX2_findingOf_15 : decode cX2_findingOf 15 = .ok (.ifCond .eq 7, 3) := by decide +kernel
theorem dX2_findingOf_18 : decode cX2_findingOf 18 = .ok (.iconst 0, 1) := by decide +kernel
theorem dX2_findingOf_19 : decode cX2_findingOf 19 = .ok (.goto 4, 3) := by decide +kernel
theorem dX2_findingOf_22 : decode cX2_findingOf 22 = .ok (.iconst 2, 1) := by decide +kernel
theorem dX2_findingOf_23 : decode cX2_findingOf 23 = .ok (.ireturn, 1) := by decide +kernel
theorem dX2_put_0 : decode cX2_put 0 = .ok (.aload_n 0, 1) := by decide +kernel
theorem dX2_put_1 : decode cX2_put 1 = .ok (.getfield 19, 3) := by decide +kernel
theorem dX2_put_4 : decode cX2_put 4 = .ok (.ifCond .ne 8, 3) := by decide +kernel
theorem dX2_put_7 : decode cX2_put 7 = .ok (.iload_n 2, 1) := by decide +kernel
theorem dX2_put_8 : decode cX2_put 8 = .ok (.i2b, 1) := by decide +kernel
theorem dX2_put_9 : decode cX2_put 9 = .ok (.goto 17, 3) := by decide +kernel
theorem dX2_put_12 : decode cX2_put 12 = .ok (.aload_n 0, 1) := by decide +kernel
theorem dX2_put_13 : decode cX2_put 13 = .ok (.getfield 19, 3) := by decide +kernel
theorem dX2_put_16 : decode cX2_put 16 = .ok (.iconst 1, 1) := by decide +kernel
theorem dX2_put_17 : decode cX2_put 17 = .ok (.if_icmp .ne 8, 3) := by decide +kernel
theorem dX2_put_20 : decode cX2_put 20 = .ok (.iload_n 2, 1) := by decide +kernel
theorem dX2_put_21 : decode cX2_put 21 = .ok (.i2s, 1) := by decide +kernel
theorem dX2_put_22 : decode cX2_put 22 = .ok (.goto 4, 3) := by decide +kernel
theorem dX2_put_25 : decode cX2_put 25 = .ok (.iload_n 2, 1) := by decide +kernel
theorem dX2_put_26 : decode cX2_put 26 = .ok (.istore_n 3, 1) := by decide +kernel
theorem dX2_put_27 : decode cX2_put 27 = .ok (.aload_n 0, 1) := by decide +kernel
theorem dX2_put_28 : decode cX2_put 28 = .ok (.getfield 9, 3) := by decide +kernel
theorem dX2_put_31 : decode cX2_put 31 = .ok (.iload_n 1, 1) := by decide +kernel
theorem dX2_put_32 : decode cX2_put 32 = .ok (.iload_n 3, 1) := by decide +kernel
theorem dX2_put_33 : decode cX2_put 33 = .ok (.iastore, 1) := by decide +kernel
theorem dX2_put_34 : decode cX2_put 34 = .ok (.iload_n 3, 1) := by decide +kernel
theorem dX2_put_35 : decode cX2_put 35 = .ok (.ireturn, 1) := by decide +kernel
theorem dX3_init_0 : decode cX3_init 0 = .ok (.aload_n 0, 1) := by decide +kernel
theorem dX3_init_1 : decode cX3_init 1 = .ok (.invokespecial 3, 3) := by decide +kernel
theorem dX3_init_4 : decode cX3_init 4 = .ok (.aload_n 0, 1) := by decide +kernel
theorem dX3_init_5 : decode cX3_init 5 = .ok (.bipush 120, 2) := by decide +kernel
theorem dX3_init_7 : decode cX3_init 7 = .ok (.newarray .int, 2) := by decide +kernel
theorem dX3_init_9 : decode cX3_init 9 = .ok (.putfield 9, 3) := by decide +kernel
theorem dX3_init_12 : decode cX3_init 12 = .ok (.return_, 1) := by decide +kernel
theorem dX3_append_0 : decode cX3_append 0 = .ok (.aload_n 0, 1) := by decide +kernel
theorem dX3_append_1 : decode cX3_append 1 = .ok (.getfield 9, 3) := by decide +kernel
theorem dX3_append_4 : decode cX3_append 4 = .ok (.aload_n 0, 1) := by decide +kernel
theorem dX3_append_5 : decode cX3_append 5 = .ok (.getfield 15, 3) := by decide +kernel
theorem dX3_append_8 : decode cX3_append 8 = .ok (.iload_n 1, 1) := by decide +kernel
theorem dX3_append_9 : decode cX3_append 9 = .ok (.iastore, 1) := by decide +kernel
theorem dX3_append_10 : decode cX3_append 10 = .ok (.aload_n 0, 1) := by decide +kernel
theorem dX3_append_11 : decode cX3_append 11 = .ok (.dup, 1) := by decide +kernel
theorem dX3_append_12 : decode cX3_append 12 = .ok (.getfield 15, 3) := by decide +kernel
theorem dX3_append_15 : decode cX3_append 15 = .ok (.iconst 1, 1) := by decide +kernel
theorem dX3_append_16 : decode cX3_append 16 = .ok (.iadd, 1) := by decide +kernel
theorem dX3_append_17 : decode cX3_append 17 = .ok (.putfield 15, 3) := by decide +kernel
theorem dX3_append_20 : decode cX3_append 20 = .ok (.aload_n 0, 1) := by decide +kernel
theorem dX3_append_21 : decode cX3_append 21 = .ok (.getfield 15, 3) := by decide +kernel
theorem dX3_append_24 : decode cX3_append 24 = .ok (.ireturn, 1) := by decide +kernel
theorem dX3_readInto_0 : decode cX3_readInto 0 = .ok (.aload_n 0, 1) := by decide +kernel
theorem dX3_readInto_1 : decode cX3_readInto 1 = .ok (.iconst 0, 1) := by decide +kernel
theorem dX3_readInto_2 : decode cX3_readInto 2 = .ok (.putfield 19, 3) := by decide +kernel
theorem dX3_readInto_5 : decode cX3_readInto 5 = .ok (.aload_n 1, 1) := by decide +kernel
theorem dX3_readInto_6 : decode cX3_readInto 6 = .ok (.invokevirtual 22, 3) := by decide +kernel
theorem dX3_readInto_9 : decode cX3_readInto 9 = .ok (.aload_n 0, 1) := by decide +kernel
theorem dX3_readInto_10 : decode cX3_readInto 10 = .ok (.aload_n 1, 1) := by decide +kernel
theorem dX3_readInto_11 : decode cX3_readInto 11 = .ok (.invokevirtual 27, 3) := by decide +kernel
theorem dX3_readInto_14 : decode cX3_readInto 14 = .ok (.ifCond .eq 23, 3) := by decide +kernel
theorem dX3_readInto_17 : decode cX3_readInto 17 = .ok (.aload_n 0, 1) := by decide +kernel
theorem dX3_readInto_18 : decode cX3_readInto 18 = .ok (.aload_n 1, 1) := by decide +kernel
theorem dX3_readInto_19 : decode cX3_readInto 19 = .ok (.invokevirtual 31, 3) := by decide +kernel
theorem dX3_readInto_22 : decode cX3_readInto 22 = .ok (.ifCond .eq 15, 3) := by decide +kernel
theorem dX3_readInto_25 : decode cX3_readInto 25 = .ok (.aload_n 0, 1) := by decide +kernel
theorem dX3_readInto_26 : decode cX3_readInto 26 = .ok (.aload_n 1, 1) := by decide +kernel
theorem dX3_readInto_27 : decode cX3_readInto 27 = .ok (.invokevirtual 34, 3) := by decide +kernel
theorem dX3_readInto_30 : decode cX3_readInto 30 = .ok (.ifCond .eq 7, 3) := by decide +kernel
theorem dX3_readInto_33 : decode cX3_readInto 33 = .ok (.iconst 1, 1) := by decide +kernel
theorem dX3_readInto_34 : decode cX3_readInto 34 = .ok (.goto 4, 3) := by decide +kernel
theorem dX3_readInto_37 : decode cX3_readInto 37 = .ok (.iconst 0, 1) := by decide +kernel
theorem dX3_readInto_38 : decode cX3_readInto 38 = .ok (.ireturn, 1) := by decide +kernel
theorem dX3_failAt_0 : decode cX3_failAt 0 = .ok (.aload_n 0, 1) := by decide +kernel
theorem dX3_failAt_1 : decode cX3_failAt 1 = .ok (.iload_n 1, 1) := by decide +kernel
theorem dX3_failAt_2 : decode cX3_failAt 2 = .ok (.putfield 37, 3) := by decide +kernel
theorem dX3_failAt_5 : decode cX3_failAt 5 = .ok (.aload_n 0, 1) := by decide +kernel
theorem dX3_failAt_6 : decode cX3_failAt 6 = .ok (.iload_n 2, 1) := by decide +kernel
theorem dX3_failAt_7 : decode cX3_failAt 7 = .ok (.putfield 40, 3) := by decide +kernel
theorem dX3_failAt_10 : decode cX3_failAt 10 = .ok (.iconst 0, 1) := by decide +kernel
theorem dX3_failAt_11 : decode cX3_failAt 11 = .ok (.ireturn, 1) := by decide +kernel
theorem dX3_byteHere_0 : decode cX3_byteHere 0 = .ok (.aload_n 0, 1) := by decide +kernel
theorem dX3_byteHere_1 : decode cX3_byteHere 1 = .ok (.getfield 19, 3) := by decide +kernel
theorem dX3_byteHere_4 : decode cX3_byteHere 4 = .ok (.aload_n 0, 1) := by decide +kernel
theorem dX3_byteHere_5 : decode cX3_byteHere 5 = .ok (.getfield 15, 3) := by decide +kernel
theorem dX3_byteHere_8 : decode cX3_byteHere 8 = .ok (.if_icmp .ge 15, 3) := by decide +kernel
theorem dX3_byteHere_11 : decode cX3_byteHere 11 = .ok (.aload_n 0, 1) := by decide +kernel
theorem dX3_byteHere_12 : decode cX3_byteHere 12 = .ok (.getfield 9, 3) := by decide +kernel
theorem dX3_byteHere_15 : decode cX3_byteHere 15 = .ok (.aload_n 0, 1) := by decide +kernel
theorem dX3_byteHere_16 : decode cX3_byteHere 16 = .ok (.getfield 19, 3) := by decide +kernel
theorem dX3_byteHere_19 : decode cX3_byteHere 19 = .ok (.iaload, 1) := by decide +kernel
theorem dX3_byteHere_20 : decode cX3_byteHere 20 = .ok (.goto 4, 3) := by decide +kernel
theorem dX3_byteHere_23 : decode cX3_byteHere 23 = .ok (.iconst (-1), 1) := by decide +kernel
theorem dX3_byteHere_24 : decode cX3_byteHere 24 = .ok (.ireturn, 1) := by decide +kernel
theorem dX3_readSign_0 : decode cX3_readSign 0 = .ok (.aload_n 0, 1) := by decide +kernel
theorem dX3_readSign_1 : decode cX3_readSign 1 = .ok (.invokevirtual 43, 3) := by decide +kernel
theorem dX3_readSign_4 : decode cX3_readSign 4 = .ok (.iload_n 1, 1) := by decide +kernel
theorem dX3_readSign_5 : decode cX3_readSign 5 = .ok (.if_icmp .eq 13, 3) := by decide +kernel
theorem dX3_readSign_8 : decode cX3_readSign 8 = .ok (.aload_n 0, 1) := by decide +kernel
theorem dX3_readSign_9 : decode cX3_readSign 9 = .ok (.aload_n 0, 1) := by decide +kernel
theorem dX3_readSign_10 : decode cX3_readSign 10 = .ok (.getfield 19, 3) := by decide +kernel
theorem dX3_readSign_13 : decode cX3_readSign 13 = .ok (.iconst 1, 1) := by decide +kernel
theorem dX3_readSign_14 : decode cX3_readSign 14 = .ok (.invokevirtual 47, 3) := by decide +kernel
theorem dX3_readSign_17 : decode cX3_readSign 17 = .ok (.ireturn, 1) := by decide +kernel
theorem dX3_readSign_18 : decode cX3_readSign 18 = .ok (.aload_n 0, 1) := by decide +kernel
theorem dX3_readSign_19 : decode cX3_readSign 19 = .ok (.dup, 1) := by decide +kernel
theorem dX3_readSign_20 : decode cX3_readSign 20 = .ok (.getfield 19, 3) := by decide +kernel
theorem dX3_readSign_23 : decode cX3_readSign 23 = .ok (.iconst 1, 1) := by decide +kernel
theorem dX3_readSign_24 : decode cX3_readSign 24 = .ok (.iadd, 1) := by decide +kernel
theorem dX3_readSign_25 : decode cX3_readSign 25 = .ok (.putfield 19, 3) := by decide +kernel
theorem dX3_readSign_28 : decode cX3_readSign 28 = .ok (.iconst 1, 1) := by decide +kernel
theorem dX3_readSign_29 : decode cX3_readSign 29 = .ok (.ireturn, 1) := by decide +kernel
theorem dX3_readNumber_0 : decode cX3_readNumber 0 = .ok (.iconst 0, 1) := by decide +kernel
theorem dX3_readNumber_1 : decode cX3_readNumber 1 = .ok (.istore_n 3, 1) := by decide +kernel
theorem dX3_readNumber_2 : decode cX3_readNumber 2 = .ok (.aload_n 0, 1) := by decide +kernel
theorem dX3_readNumber_3 : decode cX3_readNumber 3 = .ok (.getfield 19, 3) := by decide +kernel
theorem dX3_readNumber_6 : decode cX3_readNumber 6 = .ok (.istore 4, 2) := by decide +kernel
theorem dX3_readNumber_8 : decode cX3_readNumber 8 = .ok (.iload 4, 2) := by decide +kernel
theorem dX3_readNumber_10 : decode cX3_readNumber 10 = .ok (.aload_n 0, 1) := by decide +kernel
theorem dX3_readNumber_11 : decode cX3_readNumber 11 = .ok (.getfield 15, 3) := by decide +kernel
theorem dX3_readNumber_14 : decode cX3_readNumber 14 = .ok (.if_icmp .ge 60, 3) := by decide +kernel
theorem dX3_readNumber_17 : decode cX3_readNumber 17 = .ok (.aload_n 0, 1) := by decide +kernel
theorem dX3_readNumber_18 : decode cX3_readNumber 18 = .ok (.getfield 9, 3) := by decide +kernel
theorem dX3_readNumber_21 : decode cX3_readNumber 21 = .ok (.iload 4, 2) := by decide +kernel
theorem dX3_readNumber_23 : decode cX3_readNumber 23 = .ok (.iaload, 1) := by decide +kernel
theorem dX3_readNumber_24 : decode cX3_readNumber 24 = .ok (.bipush 48, 2) := by decide +kernel
theorem dX3_readNumber_26 : decode cX3_readNumber 26 = .ok (.if_icmp .lt 48, 3) := by decide +kernel
theorem dX3_readNumber_29 : decode cX3_readNumber 29 = .ok (.aload_n 0, 1) := by decide +kernel
theorem dX3_readNumber_30 : decode cX3_readNumber 30 = .ok (.getfield 9, 3) := by decide +kernel
theorem dX3_readNumber_33 : decode cX3_readNumber 33 = .ok (.iload 4, 2) := by decide +kernel
theorem dX3_readNumber_35 : decode cX3_readNumber 35 = .ok (.iaload, 1) := by decide +kernel
theorem dX3_readNumber_36 : decode cX3_readNumber 36 = .ok (.bipush 57, 2) := by decide +kernel
theorem dX3_readNumber_38 : decode cX3_readNumber 38 = .ok (.if_icmp .gt 36, 3) := by decide +kernel
theorem dX3_readNumber_41 : decode cX3_readNumber 41 = .ok (.iload 4, 2) := by decide +kernel
theorem dX3_readNumber_43 : decode cX3_readNumber 43 = .ok (.aload_n 0, 1) := by decide +kernel
theorem dX3_readNumber_44 : decode cX3_readNumber 44 = .ok (.getfield 19, 3) := by decide +kernel
theorem dX3_readNumber_47 : decode cX3_readNumber 47 = .ok (.isub, 1) := by decide +kernel
theorem dX3_readNumber_48 : decode cX3_readNumber 48 = .ok (.iconst 3, 1) := by decide +kernel
theorem dX3_readNumber_49 : decode cX3_readNumber 49 = .ok (.if_icmp .ge 25, 3) := by decide +kernel
theorem dX3_readNumber_52 : decode cX3_readNumber 52 = .ok (.iload_n 3, 1) := by decide +kernel
theorem dX3_readNumber_53 : decode cX3_readNumber 53 = .ok (.bipush 10, 2) := by decide +kernel
theorem dX3_readNumber_55 : decode cX3_readNumber 55 = .ok (.imul, 1) := by decide +kernel
theorem dX3_readNumber_56 : decode cX3_readNumber 56 = .ok (.aload_n 0, 1) := by decide +kernel
theorem dX3_readNumber_57 : decode cX3_readNumber 57 = .ok (.getfield 9, 3) := by decide +kernel
theorem dX3_readNumber_60 : decode cX3_readNumber 60 = .ok (.iload 4, 2) := by decide +kernel
theorem dX3_readNumber_62 : decode cX3_readNumber 62 = .ok (.iaload, 1) := by decide +kernel
theorem dX3_readNumber_63 : decode cX3_readNumber 63 = .ok (.iadd, 1) := by decide +kernel
theorem dX3_readNumber_64 : decode cX3_readNumber 64 = .ok (.bipush 48, 2) := by decide +kernel
theorem dX3_readNumber_66 : decode cX3_readNumber 66 = .ok (.isub, 1) := by decide +kernel
theorem dX3_readNumber_67 : decode cX3_readNumber 67 = .ok (.istore_n 3, 1) := by decide +kernel
theorem dX3_readNumber_68 : decode cX3_readNumber 68 = .ok (.iinc 4 1, 3) := by decide +kernel
theorem dX3_readNumber_71 : decode cX3_readNumber 71 = .ok (.goto (-63), 3) := by decide +kernel
theorem dX3_readNumber_74 : decode cX3_readNumber 74 = .ok (.iload 4, 2) := by decide +kernel
theorem dX3_readNumber_76 : decode cX3_readNumber 76 = .ok (.aload_n 0, 1) := by decide +kernel
theorem dX3_readNumber_77 : decode cX3_readNumber 77 = .ok (.getfield 19, 3) := by decide +kernel
theorem dX3_readNumber_80 : decode cX3_readNumber 80 = .ok (.if_icmp .eq 14, 3) := by decide +kernel
theorem dX3_readNumber_83 : decode cX3_readNumber 83 = .ok (.iload 4, 2) := by decide +kernel
theorem dX3_readNumber_85 : decode cX3_readNumber 85 = .ok (.aload_n 0, 1) := by decide +kernel
theorem dX3_readNumber_86 : decode cX3_readNumber 86 = .ok (.getfield 19, 3) := by decide +kernel
theorem dX3_readNumber_89 : decode cX3_readNumber 89 = .ok (.isub, 1) := by decide +kernel
theorem dX3_readNumber_90 : decode cX3_readNumber 90 = .ok (.iconst 2, 1) := by decide +kernel
theorem dX3_readNumber_91 : decode cX3_readNumber 91 = .ok (.if_icmp .le 15, 3) := by decide +kernel
theorem dX3_readNumber_94 : decode cX3_readNumber 94 = .ok (.aload_n 0, 1) := by decide +kernel
theorem dX3_readNumber_95 : decode cX3_readNumber 95 = .ok (.aload_n 0, 1) := by decide +kernel
theorem dX3_readNumber_96 : decode cX3_readNumber 96 = .ok (.getfield 19, 3) := by decide +kernel
theorem dX3_readNumber_99 : decode cX3_readNumber 99 = .ok (.iconst 1, 1) := by decide +kernel
theorem dX3_readNumber_100 : decode cX3_readNumber 100 = .ok (.invokevirtual 47, 3) := by decide +kernel
theorem dX3_readNumber_103 : decode cX3_readNumber 103 = .ok (.pop, 1) := by decide +kernel
theorem dX3_readNumber_104 : decode cX3_readNumber 104 = .ok (.iconst (-1), 1) := by decide +kernel
theorem dX3_readNumber_105 : decode cX3_readNumber 105 = .ok (.ireturn, 1) := by decide +kernel
theorem dX3_readNumber_106 : decode cX3_readNumber 106 = .ok (.iload_n 3, 1) := by decide +kernel
theorem dX3_readNumber_107 : decode cX3_readNumber 107 = .ok (.iload_n 1, 1) := by decide +kernel
theorem dX3_readNumber_108 : decode cX3_readNumber 108 = .ok (.iload_n 2, 1) := by decide +kernel
theorem dX3_readNumber_109 : decode cX3_readNumber 109 = .ok (.invokestatic 51, 3) := by decide +kernel
theorem dX3_readNumber_112 : decode cX3_readNumber 112 = .ok (.ifCond .ne 15, 3) := by decide +kernel
theorem dX3_readNumber_115 : decode cX3_readNumber 115 = .ok (.aload_n 0, 1) := by decide +kernel
theorem dX3_readNumber_116 : decode cX3_readNumber 116 = .ok (.aload_n 0, 1) := by decide +kernel
theorem dX3_readNumber_117 : decode cX3_readNumber 117 = .ok (.getfield 19, 3) := by decide +kernel
theorem dX3_readNumber_120 : decode cX3_readNumber 120 = .ok (.iconst 2, 1) := by decide +kernel
theorem dX3_readNumber_121 : decode cX3_readNumber 121 = .ok (.invokevirtual 47, 3) := by decide +kernel
theorem dX3_readNumber_124 : decode cX3_readNumber 124 = .ok (.pop, 1) := by decide +kernel
theorem dX3_readNumber_125 : decode cX3_readNumber 125 = .ok (.iconst (-1), 1) := by decide +kernel
theorem dX3_readNumber_126 : decode cX3_readNumber 126 = .ok (.ireturn, 1) := by decide +kernel
theorem dX3_readNumber_127 : decode cX3_readNumber 127 = .ok (.aload_n 0, 1) := by decide +kernel
theorem dX3_readNumber_128 : decode cX3_readNumber 128 = .ok (.iload 4, 2) := by decide +kernel
theorem dX3_readNumber_130 : decode cX3_readNumber 130 = .ok (.putfield 19, 3) := by decide +kernel
theorem dX3_readNumber_133 : decode cX3_readNumber 133 = .ok (.iload_n 3, 1) := by decide +kernel
theorem dX3_readNumber_134 : decode cX3_readNumber 134 = .ok (.ireturn, 1) := by decide +kernel
theorem dX3_readLaw_0 : decode cX3_readLaw 0 = .ok (.aload_n 0, 1) := by decide +kernel
theorem dX3_readLaw_1 : decode cX3_readLaw 1 = .ok (.bipush 108, 2) := by decide +kernel
theorem dX3_readLaw_3 : decode cX3_readLaw 3 = .ok (.invokevirtual 55, 3) := by decide +kernel
theorem dX3_readLaw_6 : decode cX3_readLaw 6 = .ok (.ifCond .ne 5, 3) := by decide +kernel
theorem dX3_readLaw_9 : decode cX3_readLaw 9 = .ok (.iconst 0, 1) := by decide +kernel
theorem dX3_readLaw_10 : decode cX3_readLaw 10 = .ok (.ireturn, 1) := by decide +kernel
theorem dX3_readLaw_11 : decode cX3_readLaw 11 = .ok (.aload_n 1, 1) := by decide +kernel
theorem dX3_readLaw_12 : decode cX3_readLaw 12 = .ok (.aload_n 0, 1) := by decide +kernel
theorem dX3_readLaw_13 : decode cX3_readLaw 13 = .ok (.iconst 4, 1) := by decide +kernel
theorem dX3_readLaw_14 : decode cX3_readLaw 14 = .ok (.bipush 12, 2) := by decide +kernel
theorem dX3_readLaw_16 : decode cX3_readLaw 16 = .ok (.invokevirtual 59, 3) := by decide +kernel
theorem dX3_readLaw_19 : decode cX3_readLaw 19 = .ok (.putfield 63, 3) := by decide +kernel
theorem dX3_readLaw_22 : decode cX3_readLaw 22 = .ok (.aload_n 1, 1) := by decide +kernel
theorem dX3_readLaw_23 : decode cX3_readLaw 23 = .ok (.getfield 63, 3) := by decide +kernel
theorem dX3_readLaw_26 : decode cX3_readLaw 26 = .ok (.ifCond .lt 12, 3) := by decide +kernel
theorem dX3_readLaw_29 : decode cX3_readLaw 29 = .ok (.aload_n 0, 1) := by decide +kernel
theorem dX3_readLaw_30 : decode cX3_readLaw 30 = .ok (.bipush 44, 2) := by decide +kernel
theorem dX3_readLaw_32 : decode cX3_readLaw 32 = .ok (.invokevirtual 55, 3) := by decide +kernel
theorem dX3_readLaw_35 : decode cX3_readLaw 35 = .ok (.ifCond .ne 5, 3) := by decide +kernel
theorem dX3_readLaw_38 : decode cX3_readLaw 38 = .ok (.iconst 0, 1) := by decide +kernel
theorem dX3_readLaw_39 : decode cX3_readLaw 39 = .ok (.ireturn, 1) := by decide +kernel
theorem dX3_readLaw_40 : decode cX3_readLaw 40 = .ok (.aload_n 1, 1) := by decide +kernel
theorem dX3_readLaw_41 : decode cX3_readLaw 41 = .ok (.aload_n 0, 1) := by decide +kernel
theorem dX3_readLaw_42 : decode cX3_readLaw 42 = .ok (.iconst 0, 1) := by decide +kernel
theorem dX3_readLaw_43 : decode cX3_readLaw 43 = .ok (.bipush 12, 2) := by decide +kernel
theorem dX3_readLaw_45 : decode cX3_readLaw 45 = .ok (.invokevirtual 59, 3) := by decide +kernel
theorem dX3_readLaw_48 : decode cX3_readLaw 48 = .ok (.putfield 66, 3) := by decide +kernel
theorem dX3_readLaw_51 : decode cX3_readLaw 51 = .ok (.aload_n 1, 1) := by decide +kernel
theorem dX3_readLaw_52 : decode cX3_readLaw 52 = .ok (.getfield 66, 3) := by decide +kernel
theorem dX3_readLaw_55 : decode cX3_readLaw 55 = .ok (.ifCond .lt 12, 3) := by decide +kernel
theorem dX3_readLaw_58 : decode cX3_readLaw 58 = .ok (.aload_n 0, 1) := by decide +kernel
theorem dX3_readLaw_59 : decode cX3_readLaw 59 = .ok (.bipush 44, 2) := by decide +kernel
theorem dX3_readLaw_61 : decode cX3_readLaw 61 = .ok (.invokevirtual 55, 3) := by decide +kernel
theorem dX3_readLaw_64 : decode cX3_readLaw 64 = .ok (.ifCond .ne 5, 3) := by decide +kernel
theorem dX3_readLaw_67 : decode cX3_readLaw 67 = .ok (.iconst 0, 1) := by decide +kernel
theorem dX3_readLaw_68 : decode cX3_readLaw 68 = .ok (.ireturn, 1) := by decide +kernel
theorem dX3_readLaw_69 : decode cX3_readLaw 69 = .ok (.aload_n 1, 1) := by decide +kernel
theorem dX3_readLaw_70 : decode cX3_readLaw 70 = .ok (.aload_n 0, 1) := by decide +kernel
theorem dX3_readLaw_71 : decode cX3_readLaw 71 = .ok (.iconst 0, 1) := by decide +kernel
theorem dX3_readLaw_72 : decode cX3_readLaw 72 = .ok (.bipush 60, 2) := by decide +kernel
theorem dX3_readLaw_74 : decode cX3_readLaw 74 = .ok (.invokevirtual 59, 3) := by decide +kernel
theorem dX3_readLaw_77 : decode cX3_readLaw 77 = .ok (.putfield 69, 3) := by decide +kernel
theorem dX3_readLaw_80 : decode cX3_readLaw 80 = .ok (.aload_n 1, 1) := by decide +kernel
theorem dX3_readLaw_81 : decode cX3_readLaw 81 = .ok (.getfield 69, 3) := by decide +kernel
theorem dX3_readLaw_84 : decode cX3_readLaw 84 = .ok (.ifCond .lt 16, 3) := by decide +kernel
theorem dX3_readLaw_87 : decode cX3_readLaw 87 = .ok (.aload_n 0, 1) := by decide +kernel
theorem dX3_readLaw_88 : decode cX3_readLaw 88 = .ok (.bipush 59, 2) := by decide +kernel
theorem dX3_readLaw_90 : decode cX3_readLaw 90 = .ok (.invokevirtual 55, 3) := by decide +kernel
theorem dX3_readLaw_93 : decode cX3_readLaw 93 = .ok (.ifCond .eq 7, 3) := by decide +kernel
theorem dX3_readLaw_96 : decode cX3_readLaw 96 = .ok (.iconst 1, 1) := by decide +kernel
theorem dX3_readLaw_97 : decode cX3_readLaw 97 = .ok (.goto 4, 3) := by decide +kernel
theorem dX3_readLaw_100 : decode cX3_readLaw 100 = .ok (.iconst 0, 1) := by decide +kernel
theorem dX3_readLaw_101 : decode cX3_readLaw 101 = .ok (.ireturn, 1) := by decide +kernel
theorem dX3_readFogs_0 : decode cX3_readFogs 0 = .ok (.iconst 0, 1) := by decide +kernel
theorem dX3_readFogs_1 : decode cX3_readFogs 1 = .ok (.istore_n 2, 1) := by decide +kernel
theorem dX3_readFogs_2 : decode cX3_readFogs 2 = .ok (.iload_n 2, 1) := by decide +kernel
theorem dX3_readFogs_3 : decode cX3_readFogs 3 = .ok (.bipush 6, 2) := by decide +kernel
theorem dX3_readFogs_5 : decode cX3_readFogs 5 = .ok (.if_icmp .gt 91, 3) := by decide +kernel
theorem dX3_readFogs_8 : decode cX3_readFogs 8 = .ok (.iload_n 2, 1) := by decide +kernel
theorem dX3_readFogs_9 : decode cX3_readFogs 9 = .ok (.ifCond .le 14, 3) := by decide +kernel
theorem dX3_readFogs_12 : decode cX3_readFogs 12 = .ok (.aload_n 0, 1) := by decide +kernel
theorem dX3_readFogs_13 : decode cX3_readFogs 13 = .ok (.invokevirtual 43, 3) := by decide +kernel
theorem dX3_readFogs_16 : decode cX3_readFogs 16 = .ok (.bipush 102, 2) := by decide +kernel
theorem dX3_readFogs_18 : decode cX3_readFogs 18 = .ok (.if_icmp .eq 5, 3) := by decide +kernel
theorem dX3_readFogs_21 : decode cX3_readFogs 21 = .ok (.iconst 1, 1) := by decide +kernel
theorem dX3_readFogs_22 : decode cX3_readFogs 22 = .ok (.ireturn, 1) := by decide +kernel
theorem dX3_readFogs_23 : decode cX3_readFogs 23 = .ok (.iload_n 2, 1) := by decide +kernel
theorem dX3_readFogs_24 : decode cX3_readFogs 24 = .ok (.bipush 6, 2) := by decide +kernel
theorem dX3_readFogs_26 : decode cX3_readFogs 26 = .ok (.if_icmp .ne 13, 3) := by decide +kernel
theorem dX3_readFogs_29 : decode cX3_readFogs 29 = .ok (.aload_n 0, 1) := by decide +kernel
theorem dX3_readFogs_30 : decode cX3_readFogs 30 = .ok (.aload_n 0, 1) := by decide +kernel
theorem dX3_readFogs_31 : decode cX3_readFogs 31 = .ok (.getfield 19, 3) := by decide +kernel
theorem dX3_readFogs_34 : decode cX3_readFogs 34 = .ok (.iconst 3, 1) := by decide +kernel
theorem dX3_readFogs_35 : decode cX3_readFogs 35 = .ok (.invokevirtual 47, 3) := by decide +kernel
theorem dX3_readFogs_38 : decode cX3_readFogs 38 = .ok (.ireturn, 1) := by decide +kernel
theorem dX3_readFogs_39 : decode cX3_readFogs 39 = .ok (.aload_n 0, 1) := by decide +kernel
theorem dX3_readFogs_40 : decode cX3_readFogs 40 = .ok (.bipush 102, 2) := by decide +kernel
theorem dX3_readFogs_42 : decode cX3_readFogs 42 = .ok (.invokevirtual 55, 3) := by decide +kernel
theorem dX3_readFogs_45 : decode cX3_readFogs 45 = .ok (.ifCond .ne 5, 3) := by decide +kernel
theorem dX3_readFogs_48 : decode cX3_readFogs 48 = .ok (.iconst 0, 1) := by decide +kernel
theorem dX3_readFogs_49 : decode cX3_readFogs 49 = .ok (.ireturn, 1) := by decide +kernel
theorem dX3_readFogs_50 : decode cX3_readFogs 50 = .ok (.aload_n 1, 1) := by decide +kernel
theorem dX3_readFogs_51 : decode cX3_readFogs 51 = .ok (.getfield 72, 3) := by decide +kernel
theorem dX3_readFogs_54 : decode cX3_readFogs 54 = .ok (.iload_n 2, 1) := by decide +kernel
theorem dX3_readFogs_55 : decode cX3_readFogs 55 = .ok (.aload_n 0, 1) := by decide +kernel
theorem dX3_readFogs_56 : decode cX3_readFogs 56 = .ok (.iconst 0, 1) := by decide +kernel
theorem dX3_readFogs_57 : decode cX3_readFogs 57 = .ok (.bipush 9, 2) := by decide +kernel
theorem dX3_readFogs_59 : decode cX3_readFogs 59 = .ok (.invokevirtual 59, 3) := by decide +kernel
theorem dX3_readFogs_62 : decode cX3_readFogs 62 = .ok (.iastore, 1) := by decide +kernel
theorem dX3_readFogs_63 : decode cX3_readFogs 63 = .ok (.aload_n 1, 1) := by decide +kernel
theorem dX3_readFogs_64 : decode cX3_readFogs 64 = .ok (.getfield 72, 3) := by decide +kernel
theorem dX3_readFogs_67 : decode cX3_readFogs 67 = .ok (.iload_n 2, 1) := by decide +kernel
theorem dX3_readFogs_68 : decode cX3_readFogs 68 = .ok (.iaload, 1) := by decide +kernel
theorem dX3_readFogs_69 : decode cX3_readFogs 69 = .ok (.ifCond .lt 12, 3) := by decide +kernel
theorem dX3_readFogs_72 : decode cX3_readFogs 72 = .ok (.aload_n 0, 1) := by decide +kernel
theorem dX3_readFogs_73 : decode cX3_readFogs 73 = .ok (.bipush 59, 2) := by decide +kernel
theorem dX3_readFogs_75 : decode cX3_readFogs 75 = .ok (.invokevirtual 55, 3) := by decide +kernel
theorem dX3_readFogs_78 : decode cX3_readFogs 78 = .ok (.ifCond .ne 5, 3) := by decide +kernel
theorem dX3_readFogs_81 : decode cX3_readFogs 81 = .ok (.iconst 0, 1) := by decide +kernel
theorem dX3_readFogs_82 : decode cX3_readFogs 82 = .ok (.ireturn, 1) := by decide +kernel
theorem dX3_readFogs_83 : decode cX3_readFogs 83 = .ok (.aload_n 1, 1) := by decide +kernel
theorem dX3_readFogs_84 : decode cX3_readFogs 84 = .ok (.iload_n 2, 1) := by decide +kernel
theorem dX3_readFogs_85 : decode cX3_readFogs 85 = .ok (.iconst 1, 1) := by decide +kernel
theorem dX3_readFogs_86 : decode cX3_readFogs 86 = .ok (.iadd, 1) := by decide +kernel
theorem dX3_readFogs_87 : decode cX3_readFogs 87 = .ok (.putfield 75, 3) := by decide +kernel
theorem dX3_readFogs_90 : decode cX3_readFogs 90 = .ok (.iinc 2 1, 3) := by decide +kernel
theorem dX3_readFogs_93 : decode cX3_readFogs 93 = .ok (.goto (-91), 3) := by decide +kernel
theorem dX3_readFogs_96 : decode cX3_readFogs 96 = .ok (.iconst 1, 1) := by decide +kernel
theorem dX3_readFogs_97 : decode cX3_readFogs 97 = .ok (.ireturn, 1) := by decide +kernel
theorem dX3_readShips_0 : decode cX3_readShips 0 = .ok (.iconst 0, 1) := by decide +kernel
theorem dX3_readShips_1 : decode cX3_readShips 1 = .ok (.istore_n 2, 1) := by decide +kernel
theorem dX3_readShips_2 : decode cX3_readShips 2 = .ok (.iload_n 2, 1) := by decide +kernel
theorem dX3_readShips_3 : decode cX3_readShips 3 = .ok (.bipush 6, 2) := by decide +kernel
theorem dX3_readShips_5 : decode cX3_readShips 5 = .ok (.if_icmp .gt 125, 3) := by decide +kernel
theorem dX3_readShips_8 : decode cX3_readShips 8 = .ok (.iload_n 2, 1) := by decide +kernel
theorem dX3_readShips_9 : decode cX3_readShips 9 = .ok (.ifCond .le 16, 3) := by decide +kernel
theorem dX3_readShips_12 : decode cX3_readShips 12 = .ok (.aload_n 0, 1) := by decide +kernel
theorem dX3_readShips_13 : decode cX3_readShips 13 = .ok (.getfield 19, 3) := by decide +kernel
theorem dX3_readShips_16 : decode cX3_readShips 16 = .ok (.aload_n 0, 1) := by decide +kernel
theorem dX3_readShips_17 : decode cX3_readShips 17 = .ok (.getfield 15, 3) := by decide +kernel
theorem dX3_readShips_20 : decode cX3_readShips 20 = .ok (.if_icmp .lt 5, 3) := by decide +kernel
theorem dX3_readShips_23 : decode cX3_readShips 23 = .ok (.iconst 1, 1) := by decide +kernel
theorem dX3_readShips_24 : decode cX3_readShips 24 = .ok (.ireturn, 1) := by decide +kernel
theorem dX3_readShips_25 : decode cX3_readShips 25 = .ok (.aload_n 0, 1) := by decide +kernel
theorem dX3_readShips_26 : decode cX3_readShips 26 = .ok (.invokevirtual 43, 3) := by decide +kernel
theorem dX3_readShips_29 : decode cX3_readShips 29 = .ok (.invokestatic 78, 3) := by decide +kernel
theorem dX3_readShips_32 : decode cX3_readShips 32 = .ok (.istore_n 3, 1) := by decide +kernel
theorem dX3_readShips_33 : decode cX3_readShips 33 = .ok (.iload_n 3, 1) := by decide +kernel
theorem dX3_readShips_34 : decode cX3_readShips 34 = .ok (.ifCond .ne 13, 3) := by decide +kernel
theorem dX3_readShips_37 : decode cX3_readShips 37 = .ok (.aload_n 0, 1) := by decide +kernel
theorem dX3_readShips_38 : decode cX3_readShips 38 = .ok (.aload_n 0, 1) := by decide +kernel
theorem dX3_readShips_39 : decode cX3_readShips 39 = .ok (.getfield 19, 3) := by decide +kernel
theorem dX3_readShips_42 : decode cX3_readShips 42 = .ok (.iconst 1, 1) := by decide +kernel
theorem dX3_readShips_43 : decode cX3_readShips 43 = .ok (.invokevirtual 47, 3) := by decide +kernel
theorem dX3_readShips_46 : decode cX3_readShips 46 = .ok (.ireturn, 1) := by decide +kernel
theorem dX3_readShips_47 : decode cX3_readShips 47 = .ok (.iload_n 2, 1) := by decide +kernel
theorem dX3_readShips_48 : decode cX3_readShips 48 = .ok (.bipush 6, 2) := by decide +kernel
theorem dX3_readShips_50 : decode cX3_readShips 50 = .ok (.if_icmp .ne 13, 3) := by decide +kernel
theorem dX3_readShips_53 : decode cX3_readShips 53 = .ok (.aload_n 0, 1) := by decide +kernel
theorem dX3_readShips_54 : decode cX3_readShips 54 = .ok (.aload_n 0, 1) := by decide +kernel
theorem dX3_readShips_55 : decode cX3_readShips 55 = .ok (.getfield 19, 3) := by decide +kernel
theorem dX3_readShips_58 : decode cX3_readShips 58 = .ok (.iconst 3, 1) := by decide +kernel
theorem dX3_readShips_59 : decode cX3_readShips 59 = .ok (.invokevirtual 47, 3) := by decide +kernel
theorem dX3_readShips_62 : decode cX3_readShips 62 = .ok (.ireturn, 1) := by decide +kernel
theorem dX3_readShips_63 : decode cX3_readShips 63 = .ok (.aload_n 0, 1) := by decide +kernel
theorem dX3_readShips_64 : decode cX3_readShips 64 = .ok (.dup, 1) := by decide +kernel
theorem dX3_readShips_65 : decode cX3_readShips 65 = .ok (.getfield 19, 3) := by decide +kernel
theorem dX3_readShips_68 : decode cX3_readShips 68 = .ok (.iconst 1, 1) := by decide +kernel
theorem dX3_readShips_69 : decode cX3_readShips 69 = .ok (.iadd, 1) := by decide +kernel
theorem dX3_readShips_70 : decode cX3_readShips 70 = .ok (.putfield 19, 3) := by decide +kernel
theorem dX3_readShips_73 : decode cX3_readShips 73 = .ok (.aload_n 1, 1) := by decide +kernel
theorem dX3_readShips_74 : decode cX3_readShips 74 = .ok (.getfield 82, 3) := by decide +kernel
theorem dX3_readShips_77 : decode cX3_readShips 77 = .ok (.iload_n 2, 1) := by decide +kernel
theorem dX3_readShips_78 : decode cX3_readShips 78 = .ok (.iload_n 3, 1) := by decide +kernel
theorem dX3_readShips_79 : decode cX3_readShips 79 = .ok (.iastore, 1) := by decide +kernel
theorem dX3_readShips_80 : decode cX3_readShips 80 = .ok (.aload_n 1, 1) := by decide +kernel
theorem dX3_readShips_81 : decode cX3_readShips 81 = .ok (.getfield 85, 3) := by decide +kernel
theorem dX3_readShips_84 : decode cX3_readShips 84 = .ok (.iload_n 2, 1) := by decide +kernel
theorem dX3_readShips_85 : decode cX3_readShips 85 = .ok (.aload_n 0, 1) := by decide +kernel
theorem dX3_readShips_86 : decode cX3_readShips 86 = .ok (.iconst 0, 1) := by decide +kernel
theorem dX3_readShips_87 : decode cX3_readShips 87 = .ok (.aload_n 1, 1) := by decide +kernel
theorem dX3_readShips_88 : decode cX3_readShips 88 = .ok (.getfield 63, 3) := by decide +kernel
theorem dX3_readShips_91 : decode cX3_readShips 91 = .ok (.iconst 1, 1) := by decide +kernel
theorem dX3_readShips_92 : decode cX3_readShips 92 = .ok (.isub, 1) := by decide +kernel
theorem dX3_readShips_93 : decode cX3_readShips 93 = .ok (.invokevirtual 59, 3) := by decide +kernel
theorem dX3_readShips_96 : decode cX3_readShips 96 = .ok (.iastore, 1) := by decide +kernel
theorem dX3_readShips_97 : decode cX3_readShips 97 = .ok (.aload_n 1, 1) := by decide +kernel
theorem dX3_readShips_98 : decode cX3_readShips 98 = .ok (.getfield 85, 3) := by decide +kernel
theorem dX3_readShips_101 : decode cX3_readShips 101 = .ok (.iload_n 2, 1) := by decide +kernel
theorem dX3_readShips_102 : decode cX3_readShips 102 = .ok (.iaload, 1) := by decide +kernel
theorem dX3_readShips_103 : decode cX3_readShips 103 = .ok (.ifCond .lt 12, 3) := by decide +kernel
theorem dX3_readShips_106 : decode cX3_readShips 106 = .ok (.aload_n 0, 1) := by decide +kernel
theorem dX3_readShips_107 : decode cX3_readShips 107 = .ok (.bipush 59, 2) := by decide +kernel
theorem dX3_readShips_109 : decode cX3_readShips 109 = .ok (.invokevirtual 55, 3) := by decide +kernel
theorem dX3_readShips_112 : decode cX3_readShips 112 = .ok (.ifCond .ne 5, 3) := by decide +kernel
theorem dX3_readShips_115 : decode cX3_readShips 115 = .ok (.iconst 0, 1) := by decide +kernel
theorem dX3_readShips_116 : decode cX3_readShips 116 = .ok (.ireturn, 1) := by decide +kernel
theorem dX3_readShips_117 : decode cX3_readShips 117 = .ok (.aload_n 1, 1) := by decide +kernel
theorem dX3_readShips_118 : decode cX3_readShips 118 = .ok (.iload_n 2, 1) := by decide +kernel
theorem dX3_readShips_119 : decode cX3_readShips 119 = .ok (.iconst 1, 1) := by decide +kernel
theorem dX3_readShips_120 : decode cX3_readShips 120 = .ok (.iadd, 1) := by decide +kernel
theorem dX3_readShips_121 : decode cX3_readShips 121 = .ok (.putfield 88, 3) := by decide +kernel
theorem dX3_readShips_124 : decode cX3_readShips 124 = .ok (.iinc 2 1, 3) := by decide +kernel
theorem dX3_readShips_127 : decode cX3_readShips 127 = .ok (.goto (-125), 3) := by decide +kernel
theorem dX3_readShips_130 : decode cX3_readShips 130 = .ok (.iconst 1, 1) := by decide +kernel
theorem dX3_readShips_131 : decode cX3_readShips 131 = .ok (.ireturn, 1) := by decide +kernel
theorem dX3_kindOfSort_0 : decode cX3_kindOfSort 0 = .ok (.iload_n 0, 1) := by decide +kernel
theorem dX3_kindOfSort_1 : decode cX3_kindOfSort 1 = .ok (.lookupswitch 61 #[(98, 53), (103, 57), (109, 55), (111, 59), (115, 51)], 51) := by decide +kernel
theorem dX3_kindOfSort_52 : decode cX3_kindOfSort 52 = .ok (.iconst 1, 1) := by decide +kernel
theorem dX3_kindOfSort_53 : decode cX3_kindOfSort 53 = .ok (.ireturn, 1) := by decide +kernel
theorem dX3_kindOfSort_54 : decode cX3_kindOfSort 54 = .ok (.iconst 2, 1) := by decide +kernel
theorem dX3_kindOfSort_55 : decode cX3_kindOfSort 55 = .ok (.ireturn, 1) := by decide +kernel
theorem dX3_kindOfSort_56 : decode cX3_kindOfSort 56 = .ok (.iconst 3, 1) := by decide +kernel
theorem dX3_kindOfSort_57 : decode cX3_kindOfSort 57 = .ok (.ireturn, 1) := by decide +kernel
theorem dX3_kindOfSort_58 : decode cX3_kindOfSort 58 = .ok (.iconst 4, 1) := by decide +kernel
theorem dX3_kindOfSort_59 : decode cX3_kindOfSort 59 = .ok (.ireturn, 1) := by decide +kernel
theorem dX3_kindOfSort_60 : decode cX3_kindOfSort 60 = .ok (.iconst 5, 1) := by decide +kernel
theorem dX3_kindOfSort_61 : decode cX3_kindOfSort 61 = .ok (.ireturn, 1) := by decide +kernel
theorem dX3_kindOfSort_62 : decode cX3_kindOfSort 62 = .ok (.iconst 0, 1) := by decide +kernel
theorem dX3_kindOfSort_63 : decode cX3_kindOfSort 63 = .ok (.ireturn, 1) := by decide +kernel
theorem dX4_init_0 : decode cX4_init 0 = .ok (.aload_n 0, 1) := by decide +kernel
theorem dX4_init_1 : decode cX4_init 1 = .ok (.invokespecial 1, 3) := by decide +kernel
theorem dX4_init_4 : decode cX4_init 4 = .ok (.aload_n 0, 1) := by decide +kernel
theorem dX4_init_5 : decode cX4_init 5 = .ok (.bipush 8, 2) := by decide +kernel
theorem dX4_init_7 : decode cX4_init 7 = .ok (.anewarray 9, 3) := by decide +kernel
theorem dX4_init_10 : decode cX4_init 10 = .ok (.putfield 11, 3) := by decide +kernel
theorem dX4_init_13 : decode cX4_init 13 = .ok (.aload_n 0, 1) := by decide +kernel
theorem dX4_init_14 : decode cX4_init 14 = .ok (.new 15, 3) := by decide +kernel
theorem dX4_init_17 : decode cX4_init 17 = .ok (.dup, 1) := by decide +kernel
theorem dX4_init_18 : decode cX4_init 18 = .ok (.invokespecial 17, 3) := by decide +kernel
theorem dX4_init_21 : decode cX4_init 21 = .ok (.putfield 18, 3) := by decide +kernel
theorem dX4_init_24 : decode cX4_init 24 = .ok (.aload_n 0, 1) := by decide +kernel
theorem dX4_init_25 : decode cX4_init 25 = .ok (.new 22, 3) := by decide +kernel
theorem dX4_init_28 : decode cX4_init 28 = .ok (.dup, 1) := by decide +kernel
theorem dX4_init_29 : decode cX4_init 29 = .ok (.invokespecial 24, 3) := by decide +kernel
theorem dX4_init_32 : decode cX4_init 32 = .ok (.putfield 25, 3) := by decide +kernel
theorem dX4_init_35 : decode cX4_init 35 = .ok (.aload_n 0, 1) := by decide +kernel
theorem dX4_init_36 : decode cX4_init 36 = .ok (.new 22, 3) := by decide +kernel
theorem dX4_init_39 : decode cX4_init 39 = .ok (.dup, 1) := by decide +kernel
theorem dX4_init_40 : decode cX4_init 40 = .ok (.invokespecial 24, 3) := by decide +kernel
theorem dX4_init_43 : decode cX4_init 43 = .ok (.putfield 29, 3) := by decide +kernel
theorem dX4_init_46 : decode cX4_init 46 = .ok (.aload_n 0, 1) := by decide +kernel
theorem dX4_init_47 : decode cX4_init 47 = .ok (.new 22, 3) := by decide +kernel
theorem dX4_init_50 : decode cX4_init 50 = .ok (.dup, 1) := by decide +kernel
theorem dX4_init_51 : decode cX4_init 51 = .ok (.invokespecial 24, 3) := by decide +kernel
theorem dX4_init_54 : decode cX4_init 54 = .ok (.putfield 32, 3) := by decide +kernel
theorem dX4_init_57 : decode cX4_init 57 = .ok (.aload_n 0, 1) := by decide +kernel
theorem dX4_init_58 : decode cX4_init 58 = .ok (.new 35, 3) := by decide +kernel
theorem dX4_init_61 : decode cX4_init 61 = .ok (.dup, 1) := by decide +kernel
theorem dX4_init_62 : decode cX4_init 62 = .ok (.invokespecial 37, 3) := by decide +kernel
theorem dX4_init_65 : decode cX4_init 65 = .ok (.putfield 38, 3) := by decide +kernel
theorem dX4_init_68 : decode cX4_init 68 = .ok (.aload_n 0, 1) := by decide +kernel
theorem dX4_init_69 : decode cX4_init 69 = .ok (.iconst 2, 1) := by decide +kernel
theorem dX4_init_70 : decode cX4_init 70 = .ok (.anewarray 22, 3) := by decide +kernel
theorem dX4_init_73 : decode cX4_init 73 = .ok (.putfield 42, 3) := by decide +kernel
theorem dX4_init_76 : decode cX4_init 76 = .ok (.aload_n 0, 1) := by decide +kernel
theorem dX4_init_77 : decode cX4_init 77 = .ok (.bipush 16, 2) := by decide +kernel
theorem dX4_init_79 : decode cX4_init 79 = .ok (.newarray .int, 2) := by decide +kernel
theorem dX4_init_81 : decode cX4_init 81 = .ok (.putfield 46, 3) := by decide +kernel
theorem dX4_init_84 : decode cX4_init 84 = .ok (.iconst 0, 1) := by decide +kernel
theorem dX4_init_85 : decode cX4_init 85 = .ok (.istore_n 1, 1) := by decide +kernel
theorem dX4_init_86 : decode cX4_init 86 = .ok (.iload_n 1, 1) := by decide +kernel
theorem dX4_init_87 : decode cX4_init 87 = .ok (.bipush 8, 2) := by decide +kernel
theorem dX4_init_89 : decode cX4_init 89 = .ok (.if_icmp .ge 22, 3) := by decide +kernel
theorem dX4_init_92 : decode cX4_init 92 = .ok (.aload_n 0, 1) := by decide +kernel
theorem dX4_init_93 : decode cX4_init 93 = .ok (.getfield 11, 3) := by decide +kernel
theorem dX4_init_96 : decode cX4_init 96 = .ok (.iload_n 1, 1) := by decide +kernel
theorem dX4_init_97 : decode cX4_init 97 = .ok (.new 9, 3) := by decide +kernel
theorem dX4_init_100 : decode cX4_init 100 = .ok (.dup, 1) := by decide +kernel
theorem dX4_init_101 : decode cX4_init 101 = .ok (.invokespecial 50, 3) := by decide +kernel
theorem dX4_init_104 : decode cX4_init 104 = .ok (.aastore, 1) := by decide +kernel
theorem dX4_init_105 : decode cX4_init 105 = .ok (.iinc 1 1, 3) := by decide +kernel
theorem dX4_init_108 : decode cX4_init 108 = .ok (.goto (-22), 3) := by decide +kernel
theorem dX4_init_111 : decode cX4_init 111 = .ok (.iconst 0, 1) := by decide +kernel
theorem dX4_init_112 : decode cX4_init 112 = .ok (.istore_n 1, 1) := by decide +kernel
theorem dX4_init_113 : decode cX4_init 113 = .ok (.iload_n 1, 1) := by decide +kernel
theorem dX4_init_114 : decode cX4_init 114 = .ok (.iconst 2, 1) := by decide +kernel
theorem dX4_init_115 : decode cX4_init 115 = .ok (.if_icmp .ge 22, 3) := by decide +kernel
theorem dX4_init_118 : decode cX4_init 118 = .ok (.aload_n 0, 1) := by decide +kernel
theorem dX4_init_119 : decode cX4_init 119 = .ok (.getfield 42, 3) := by decide +kernel
theorem dX4_init_122 : decode cX4_init 122 = .ok (.iload_n 1, 1) := by decide +kernel
theorem dX4_init_123 : decode cX4_init 123 = .ok (.new 22, 3) := by decide +kernel
theorem dX4_init_126 : decode cX4_init 126 = .ok (.dup, 1) := by decide +kernel
theorem dX4_init_127 : decode cX4_init 127 = .ok (.invokespecial 24, 3) := by decide +kernel
theorem dX4_init_130 : decode cX4_init 130 = .ok (.aastore, 1) := by decide +kernel
theorem dX4_init_131 : decode cX4_init 131 = .ok (.iinc 1 1, 3) := by decide +kernel
theorem dX4_init_134 : decode cX4_init 134 = .ok (.goto (-21), 3) := by decide +kernel
theorem dX4_init_137 : decode cX4_init 137 = .ok (.return_, 1) := by decide +kernel
theorem dX4_row_0 : decode cX4_row 0 = .ok (.iload_n 1, 1) := by decide +kernel
theorem dX4_row_1 : decode cX4_row 1 = .ok (.bipush 8, 2) := by decide +kernel
theorem dX4_row_3 : decode cX4_row 3 = .ok (.invokestatic 51, 3) := by decide +kernel
theorem dX4_row_6 : decode cX4_row 6 = .ok (.ifCond .eq 17, 3) := by decide +kernel
theorem dX4_row_9 : decode cX4_row 9 = .ok (.iload_n 2, 1) := by decide +kernel
theorem dX4_row_10 : decode cX4_row 10 = .ok (.iconst 3, 1) := by decide +kernel
theorem dX4_row_11 : decode cX4_row 11 = .ok (.invokestatic 51, 3) := by decide +kernel
theorem dX4_row_14 : decode cX4_row 14 = .ok (.ifCond .eq 9, 3) := by decide +kernel
theorem dX4_row_17 : decode cX4_row 17 = .ok (.iload_n 3, 1) := by decide +kernel
theorem dX4_row_18 : decode cX4_row 18 = .ok (.bipush 40, 2) := by decide +kernel
theorem dX4_row_20 : decode cX4_row 20 = .ok (.if_icmp .le 6, 3) := by decide +kernel
theorem dX4_row_23 : decode cX4_row 23 = .ok (.ldc 55, 2) := by decide +kernel
theorem dX4_row_25 : decode cX4_row 25 = .ok (.ireturn, 1) := by decide +kernel
theorem dX4_row_26 : decode cX4_row 26 = .ok (.iload_n 3, 1) := by decide +kernel
theorem dX4_row_27 : decode cX4_row 27 = .ok (.ifCond .ge 9, 3) := by decide +kernel
theorem dX4_row_30 : decode cX4_row 30 = .ok (.aload_n 0, 1) := by decide +kernel
theorem dX4_row_31 : decode cX4_row 31 = .ok (.iconst 4, 1) := by decide +kernel
theorem dX4_row_32 : decode cX4_row 32 = .ok (.invokevirtual 56, 3) := by decide +kernel
theorem dX4_row_35 : decode cX4_row 35 = .ok (.ireturn, 1) := by decide +kernel
theorem dX4_row_36 : decode cX4_row 36 = .ok (.aload_n 0, 1) := by decide +kernel
theorem dX4_row_37 : decode cX4_row 37 = .ok (.getfield 11, 3) := by decide +kernel
theorem dX4_row_40 : decode cX4_row 40 = .ok (.iload_n 1, 1) := by decide +kernel
theorem dX4_row_41 : decode cX4_row 41 = .ok (.aaload, 1) := by decide +kernel
theorem dX4_row_42 : decode cX4_row 42 = .ok (.iload_n 2, 1) := by decide +kernel
theorem dX4_row_43 : decode cX4_row 43 = .ok (.iload_n 3, 1) := by decide +kernel
theorem dX4_row_44 : decode cX4_row 44 = .ok (.invokevirtual 60, 3) := by decide +kernel
theorem dX4_row_47 : decode cX4_row 47 = .ok (.aload_n 0, 1) := by decide +kernel
theorem dX4_row_48 : decode cX4_row 48 = .ok (.iload_n 3, 1) := by decide +kernel
theorem dX4_row_49 : decode cX4_row 49 = .ok (.invokevirtual 64, 3) := by decide +kernel
theorem dX4_row_52 : decode cX4_row 52 = .ok (.ireturn, 1) := by decide +kernel
theorem dX4_set_0 : decode cX4_set 0 = .ok (.iload_n 1, 1) := by decide +kernel
theorem dX4_set_1 : decode cX4_set 1 = .ok (.bipush 8, 2) := by decide +kernel
theorem dX4_set_3 : decode cX4_set 3 = .ok (.invokestatic 51, 3) := by decide +kernel
theorem dX4_set_6 : decode cX4_set 6 = .ok (.ifCond .ne 6, 3) := by decide +kernel
theorem dX4_set_9 : decode cX4_set 9 = .ok (.ldc 55, 2) := by decide +kernel
theorem dX4_set_11 : decode cX4_set 11 = .ok (.ireturn, 1) := by decide +kernel
theorem dX4_set_12 : decode cX4_set 12 = .ok (.aload_n 0, 1) := by decide +kernel
theorem dX4_set_13 : decode cX4_set 13 = .ok (.getfield 11, 3) := by decide +kernel
theorem dX4_set_16 : decode cX4_set 16 = .ok (.iload_n 1, 1) := by decide +kernel
theorem dX4_set_17 : decode cX4_set 17 = .ok (.aaload, 1) := by decide +kernel
theorem dX4_set_18 : decode cX4_set 18 = .ok (.astore 4, 2) := by decide +kernel
theorem dX4_set_20 : decode cX4_set 20 = .ok (.aload 4, 2) := by decide +kernel
theorem dX4_set_22 : decode cX4_set 22 = .ok (.iload_n 2, 1) := by decide +kernel
theorem dX4_set_23 : decode cX4_set 23 = .ok (.iconst 1, 1) := by decide +kernel
theorem dX4_set_24 : decode cX4_set 24 = .ok (.invokevirtual 67, 3) := by decide +kernel
theorem dX4_set_27 : decode cX4_set 27 = .ok (.istore 5, 2) := by decide +kernel
theorem dX4_set_29 : decode cX4_set 29 = .ok (.iload 5, 2) := by decide +kernel
theorem dX4_set_31 : decode cX4_set 31 = .ok (.ifCond .eq 10, 3) := by decide +kernel
theorem dX4_set_34 : decode cX4_set 34 = .ok (.aload_n 0, 1) := by decide +kernel
theorem dX4_set_35 : decode cX4_set 35 = .ok (.iload 5, 2) := by decide +kernel
theorem dX4_set_37 : decode cX4_set 37 = .ok (.invokevirtual 56, 3) := by decide +kernel
theorem dX4_set_40 : decode cX4_set 40 = .ok (.ireturn, 1) := by decide +kernel
theorem dX4_set_41 : decode cX4_set 41 = .ok (.aload_n 0, 1) := by decide +kernel
theorem dX4_set_42 : decode cX4_set 42 = .ok (.aload 4, 2) := by decide +kernel
theorem dX4_set_44 : decode cX4_set 44 = .ok (.iload_n 2, 1) := by decide +kernel
theorem dX4_set_45 : decode cX4_set 45 = .ok (.iload_n 3, 1) := by decide +kernel
theorem dX4_set_46 : decode cX4_set 46 = .ok (.invokevirtual 71, 3) := by decide +kernel
theorem dX4_set_49 : decode cX4_set 49 = .ok (.invokevirtual 64, 3) := by decide +kernel
theorem dX4_set_52 : decode cX4_set 52 = .ok (.ireturn, 1) := by decide +kernel
theorem dX4_copy_0 : decode cX4_copy 0 = .ok (.iload_n 1, 1) := by decide +kernel
theorem dX4_copy_1 : decode cX4_copy 1 = .ok (.bipush 8, 2) := by decide +kernel
theorem dX4_copy_3 : decode cX4_copy 3 = .ok (.invokestatic 51, 3) := by decide +kernel
theorem dX4_copy_6 : decode cX4_copy 6 = .ok (.ifCond .eq 12, 3) := by decide +kernel
theorem dX4_copy_9 : decode cX4_copy 9 = .ok (.iload_n 3, 1) := by decide +kernel
theorem dX4_copy_10 : decode cX4_copy 10 = .ok (.bipush 8, 2) := by decide +kernel
theorem dX4_copy_12 : decode cX4_copy 12 = .ok (.invokestatic 51, 3) := by decide +kernel
theorem dX4_copy_15 : decode cX4_copy 15 = .ok (.ifCond .ne 6, 3) := by decide +kernel
theorem dX4_copy_18 : decode cX4_copy 18 = .ok (.ldc 55, 2) := by decide +kernel
theorem dX4_copy_20 : decode cX4_copy 20 = .ok (.ireturn, 1) := by decide +kernel
theorem dX4_copy_21 : decode cX4_copy 21 = .ok (.aload_n 0, 1) := by decide +kernel
theorem dX4_copy_22 : decode cX4_copy 22 = .ok (.getfield 11, 3) := by decide +kernel
theorem dX4_copy_25 : decode cX4_copy 25 = .ok (.iload_n 1, 1) := by decide +kernel
theorem dX4_copy_26 : decode cX4_copy 26 = .ok (.aaload, 1) := by decide +kernel
theorem dX4_copy_27 : decode cX4_copy 27 = .ok (.astore 6, 2) := by decide +kernel
theorem dX4_copy_29 : decode cX4_copy 29 = .ok (.aload_n 0, 1) := by decide +kernel
theorem dX4_copy_30 : decode cX4_copy 30 = .ok (.getfield 11, 3) := by decide +kernel
theorem dX4_copy_33 : decode cX4_copy 33 = .ok (.iload_n 3, 1) := by decide +kernel
theorem dX4_copy_34 : decode cX4_copy 34 = .ok (.aaload, 1) := by decide +kernel
theorem dX4_copy_35 : decode cX4_copy 35 = .ok (.astore 7, 2) := by decide +kernel
theorem dX4_copy_37 : decode cX4_copy 37 = .ok (.aload 6, 2) := by decide +kernel
theorem dX4_copy_39 : decode cX4_copy 39 = .ok (.getfield 74, 3) := by decide +kernel
theorem dX4_copy_42 : decode cX4_copy 42 = .ok (.ifCond .ne 11, 3) := by decide +kernel
theorem dX4_copy_45 : decode cX4_copy 45 = .ok (.aload 7, 2) := by decide +kernel
theorem dX4_copy_47 : decode cX4_copy 47 = .ok (.getfield 74, 3) := by decide +kernel
theorem dX4_copy_50 : decode cX4_copy 50 = .ok (.ifCond .eq 9, 3) := by decide +kernel
theorem dX4_copy_53 : decode cX4_copy 53 = .ok (.aload_n 0, 1) := by decide +kernel
theorem dX4_copy_54 : decode cX4_copy 54 = .ok (.iconst 1, 1) := by decide +kernel
theorem dX4_copy_55 : decode cX4_copy 55 = .ok (.invokevirtual 56, 3) := by decide +kernel
theorem dX4_copy_58 : decode cX4_copy 58 = .ok (.ireturn, 1) := by decide +kernel
theorem dX4_copy_59 : decode cX4_copy 59 = .ok (.aload 6, 2) := by decide +kernel
theorem dX4_copy_61 : decode cX4_copy 61 = .ok (.getfield 78, 3) := by decide +kernel
theorem dX4_copy_64 : decode cX4_copy 64 = .ok (.aload 7, 2) := by decide +kernel
theorem dX4_copy_66 : decode cX4_copy 66 = .ok (.getfield 78, 3) := by decide +kernel
theorem dX4_copy_69 : decode cX4_copy 69 = .ok (.if_icmp .eq 9, 3) := by decide +kernel
theorem dX4_copy_72 : decode cX4_copy 72 = .ok (.aload_n 0, 1) := by decide +kernel
theorem dX4_copy_73 : decode cX4_copy 73 = .ok (.iconst 5, 1) := by decide +kernel
theorem dX4_copy_74 : decode cX4_copy 74 = .ok (.invokevirtual 56, 3) := by decide +kernel
theorem dX4_copy_77 : decode cX4_copy 77 = .ok (.ireturn, 1) := by decide +kernel
theorem dX4_copy_78 : decode cX4_copy 78 = .ok (.aload 6, 2) := by decide +kernel
theorem dX4_copy_80 : decode cX4_copy 80 = .ok (.iload_n 2, 1) := by decide +kernel
theorem dX4_copy_81 : decode cX4_copy 81 = .ok (.iload 5, 2) := by decide +kernel
theorem dX4_copy_83 : decode cX4_copy 83 = .ok (.invokevirtual 82, 3) := by decide +kernel
theorem dX4_copy_86 : decode cX4_copy 86 = .ok (.ifCond .eq 15, 3) := by decide +kernel
theorem dX4_copy_89 : decode cX4_copy 89 = .ok (.aload 7, 2) := by decide +kernel
theorem dX4_copy_91 : decode cX4_copy 91 = .ok (.iload 4, 2) := by decide +kernel
theorem dX4_copy_93 : decode cX4_copy 93 = .ok (.iload 5, 2) := by decide +kernel
theorem dX4_copy_95 : decode cX4_copy 95 = .ok (.invokevirtual 82, 3) := by decide +kernel
theorem dX4_copy_98 : decode cX4_copy 98 = .ok (.ifCond .ne 9, 3) := by decide +kernel
theorem dX4_copy_101 : decode cX4_copy 101 = .ok (.aload_n 0, 1) := by decide +kernel
theorem dX4_copy_102 : decode cX4_copy 102 = .ok (.iconst 2, 1) := by decide +kernel
theorem dX4_copy_103 : decode cX4_copy 103 = .ok (.invokevirtual 56, 3) := by decide +kernel
theorem dX4_copy_106 : decode cX4_copy 106 = .ok (.ireturn, 1) := by decide +kernel
theorem dX4_copy_107 : decode cX4_copy 107 = .ok (.aload 6, 2) := by decide +kernel
theorem dX4_copy_109 : decode cX4_copy 109 = .ok (.getfield 85, 3) := by decide +kernel
theorem dX4_copy_112 : decode cX4_copy 112 = .ok (.iload_n 2, 1) := by decide +kernel
theorem dX4_copy_113 : decode cX4_copy 113 = .ok (.aload 7, 2) := by decide +kernel
theorem dX4_copy_115 : decode cX4_copy 115 = .ok (.getfield 85, 3) := by decide +kernel
theorem dX4_copy_118 : decode cX4_copy 118 = .ok (.iload 4, 2) := by decide +kernel
theorem dX4_copy_120 : decode cX4_copy 120 = .ok (.iload 5, 2) := by decide +kernel
theorem dX4_copy_122 : decode cX4_copy 122 = .ok (.invokestatic 88, 3) := by decide +kernel
theorem dX4_copy_125 : decode cX4_copy 125 = .ok (.aload_n 0, 1) := by decide +kernel
theorem dX4_copy_126 : decode cX4_copy 126 = .ok (.iload 5, 2) := by decide +kernel
theorem dX4_copy_128 : decode cX4_copy 128 = .ok (.invokevirtual 64, 3) := by decide +kernel
theorem dX4_copy_131 : decode cX4_copy 131 = .ok (.ireturn, 1) := by decide +kernel
theorem dX4_drop_0 : decode cX4_drop 0 = .ok (.iload_n 1, 1) := by decide +kernel
theorem dX4_drop_1 : decode cX4_drop 1 = .ok (.bipush 8, 2) := by decide +kernel
theorem dX4_drop_3 : decode cX4_drop 3 = .ok (.invokestatic 51, 3) := by decide +kernel
theorem dX4_drop_6 : decode cX4_drop 6 = .ok (.ifCond .ne 6, 3) := by decide +kernel
theorem dX4_drop_9 : decode cX4_drop 9 = .ok (.ldc 55, 2) := by decide +kernel
theorem dX4_drop_11 : decode cX4_drop 11 = .ok (.ireturn, 1) := by decide +kernel
theorem dX4_drop_12 : decode cX4_drop 12 = .ok (.aload_n 0, 1) := by decide +kernel
theorem dX4_drop_13 : decode cX4_drop 13 = .ok (.getfield 11, 3) := by decide +kernel
theorem dX4_drop_16 : decode cX4_drop 16 = .ok (.iload_n 1, 1) := by decide +kernel
theorem dX4_drop_17 : decode cX4_drop 17 = .ok (.aaload, 1) := by decide +kernel
theorem dX4_drop_18 : decode cX4_drop 18 = .ok (.astore_n 2, 1) := by decide +kernel
theorem dX4_drop_19 : decode cX4_drop 19 = .ok (.aload_n 2, 1) := by decide +kernel
theorem dX4_drop_20 : decode cX4_drop 20 = .ok (.getfield 74, 3) := by decide +kernel
theorem dX4_drop_23 : decode cX4_drop 23 = .ok (.ifCond .eq 9, 3) := by decide +kernel
theorem dX4_drop_26 : decode cX4_drop 26 = .ok (.aload_n 0, 1) := by decide +kernel
theorem dX4_drop_27 : decode cX4_drop 27 = .ok (.iconst 1, 1) := by decide +kernel
theorem dX4_drop_28 : decode cX4_drop 28 = .ok (.invokevirtual 56, 3) := by decide +kernel
theorem dX4_drop_31 : decode cX4_drop 31 = .ok (.ireturn, 1) := by decide +kernel
theorem dX4_drop_32 : decode cX4_drop 32 = .ok (.aload_n 2, 1) := by decide +kernel
theorem dX4_drop_33 : decode cX4_drop 33 = .ok (.iconst 1, 1) := by decide +kernel
theorem dX4_drop_34 : decode cX4_drop 34 = .ok (.putfield 74, 3) := by decide +kernel
theorem dX4_drop_37 : decode cX4_drop 37 = .ok (.aload_n 0, 1) := by decide +kernel
theorem dX4_drop_38 : decode cX4_drop 38 = .ok (.aload_n 2, 1) := by decide +kernel
theorem dX4_drop_39 : decode cX4_drop 39 = .ok (.getfield 94, 3) := by decide +kernel
theorem dX4_drop_42 : decode cX4_drop 42 = .ok (.invokevirtual 64, 3) := by decide +kernel
theorem dX4_drop_45 : decode cX4_drop 45 = .ok (.ireturn, 1) := by decide +kernel
theorem dX4_feed_0 : decode cX4_feed 0 = .ok (.iload_n 1, 1) := by decide +kernel
theorem dX4_feed_1 : decode cX4_feed 1 = .ok (.sipush 256, 3) := by decide +kernel
theorem dX4_feed_4 : decode cX4_feed 4 = .ok (.invokestatic 51, 3) := by decide +kernel
theorem dX4_feed_7 : decode cX4_feed 7 = .ok (.ifCond .ne 6, 3) := by decide +kernel
theorem dX4_feed_10 : decode cX4_feed 10 = .ok (.ldc 55, 2) := by decide +kernel
theorem dX4_feed_12 : decode cX4_feed 12 = .ok (.ireturn, 1) := by decide +kernel
theorem dX4_feed_13 : decode cX4_feed 13 = .ok (.aload_n 0, 1) := by decide +kernel
theorem dX4_feed_14 : decode cX4_feed 14 = .ok (.getfield 18, 3) := by decide +kernel
theorem dX4_feed_17 : decode cX4_feed 17 = .ok (.getfield 97, 3) := by decide +kernel
theorem dX4_feed_20 : decode cX4_feed 20 = .ok (.bipush 120, 2) := by decide +kernel
theorem dX4_feed_22 : decode cX4_feed 22 = .ok (.if_icmp .lt 6, 3) := by decide +kernel
theorem dX4_feed_25 : decode cX4_feed 25 = .ok (.ldc 98, 2) := by decide +kernel
theorem dX4_feed_27 : decode cX4_feed 27 = .ok (.ireturn, 1) := by decide +kernel
theorem dX4_feed_28 : decode cX4_feed 28 = .ok (.aload_n 0, 1) := by decide +kernel
theorem dX4_feed_29 : decode cX4_feed 29 = .ok (.getfield 18, 3) := by decide +kernel
theorem dX4_feed_32 : decode cX4_feed 32 = .ok (.iload_n 1, 1) := by decide +kernel
theorem dX4_feed_33 : decode cX4_feed 33 = .ok (.invokevirtual 99, 3) := by decide +kernel
theorem dX4_feed_36 : decode cX4_feed 36 = .ok (.ireturn, 1) := by decide +kernel
theorem dX4_light_0 : decode cX4_light 0 = .ok (.aload_n 0, 1) := by decide +kernel
theorem dX4_light_1 : decode cX4_light 1 = .ok (.getfield 18, 3) := by decide +kernel
theorem dX4_light_4 : decode cX4_light 4 = .ok (.aload_n 0, 1) := by decide +kernel
theorem dX4_light_5 : decode cX4_light 5 = .ok (.getfield 29, 3) := by decide +kernel
theorem dX4_light_8 : decode cX4_light 8 = .ok (.invokevirtual 102, 3) := by decide +kernel
theorem dX4_light_11 : decode cX4_light 11 = .ok (.istore_n 1, 1) := by decide +kernel
theorem dX4_light_12 : decode cX4_light 12 = .ok (.aload_n 0, 1) := by decide +kernel
theorem dX4_light_13 : decode cX4_light 13 = .ok (.getfield 18, 3) := by decide +kernel
theorem dX4_light_16 : decode cX4_light 16 = .ok (.iconst 0, 1) := by decide +kernel
theorem dX4_light_17 : decode cX4_light 17 = .ok (.putfield 97, 3) := by decide +kernel
theorem dX4_light_20 : decode cX4_light 20 = .ok (.iload_n 1, 1) := by decide +kernel
theorem dX4_light_21 : decode cX4_light 21 = .ok (.ifCond .ne 25, 3) := by decide +kernel
theorem dX4_light_24 : decode cX4_light 24 = .ok (.aload_n 0, 1) := by decide +kernel
theorem dX4_light_25 : decode cX4_light 25 = .ok (.aload_n 0, 1) := by decide +kernel
theorem dX4_light_26 : decode cX4_light 26 = .ok (.getfield 18, 3) := by decide +kernel
theorem dX4_light_29 : decode cX4_light 29 = .ok (.getfield 106, 3) := by decide +kernel
theorem dX4_light_32 : decode cX4_light 32 = .ok (.putfield 109, 3) := by decide +kernel
theorem dX4_light_35 : decode cX4_light 35 = .ok (.ldc 112, 2) := by decide +kernel
theorem dX4_light_37 : decode cX4_light 37 = .ok (.aload_n 0, 1) := by decide +kernel
theorem dX4_light_38 : decode cX4_light 38 = .ok (.getfield 18, 3) := by decide +kernel
theorem dX4_light_41 : decode cX4_light 41 = .ok (.getfield 113, 3) := by decide +kernel
theorem dX4_light_44 : decode cX4_light 44 = .ok (.isub, 1) := by decide +kernel
theorem dX4_light_45 : decode cX4_light 45 = .ok (.ireturn, 1) := by decide +kernel
theorem dX4_light_46 : decode cX4_light 46 = .ok (.aload_n 0, 1) := by decide +kernel
theorem dX4_light_47 : decode cX4_light 47 = .ok (.getfield 25, 3) := by decide +kernel
theorem dX4_light_50 : decode cX4_light 50 = .ok (.aload_n 0, 1) := by decide +kernel
theorem dX4_light_51 : decode cX4_light 51 = .ok (.getfield 29, 3) := by decide +kernel
theorem dX4_light_54 : decode cX4_light 54 = .ok (.invokevirtual 116, 3) := by decide +kernel
theorem dX4_light_57 : decode cX4_light 57 = .ok (.aload_n 0, 1) := by decide +kernel
theorem dX4_light_58 : decode cX4_light 58 = .ok (.getfield 38, 3) := by decide +kernel
theorem dX4_light_61 : decode cX4_light 61 = .ok (.invokevirtual 120, 3) := by decide +kernel
theorem dX4_light_64 : decode cX4_light 64 = .ok (.aload_n 0, 1) := by decide +kernel
theorem dX4_light_65 : decode cX4_light 65 = .ok (.getfield 25, 3) := by decide +kernel
theorem dX4_light_68 : decode cX4_light 68 = .ok (.getfield 123, 3) := by decide +kernel
theorem dX4_light_71 : decode cX4_light 71 = .ok (.ireturn, 1) := by decide +kernel
theorem dX4_fault_0 : decode cX4_fault 0 = .ok (.aload_n 0, 1) := by decide +kernel
theorem dX4_fault_1 : decode cX4_fault 1 = .ok (.getfield 109, 3) := by decide +kernel
theorem dX4_fault_4 : decode cX4_fault 4 = .ok (.ireturn, 1) := by decide +kernel
theorem dX4_undo_0 : decode cX4_undo 0 = .ok (.aload_n 0, 1) := by decide +kernel
theorem dX4_undo_1 : decode cX4_undo 1 = .ok (.getfield 38, 3) := by decide +kernel
theorem dX4_undo_4 : decode cX4_undo 4 = .ok (.getfield 126, 3) := by decide +kernel
theorem dX4_undo_7 : decode cX4_undo 7 = .ok (.iconst 1, 1) := by decide +kernel
theorem dX4_undo_8 : decode cX4_undo 8 = .ok (.if_icmp .ge 6, 3) := by decide +kernel
theorem dX4_undo_11 : decode cX4_undo 11 = .ok (.ldc 129, 2) := by decide +kernel
theorem dX4_undo_13 : decode cX4_undo 13 = .ok (.ireturn, 1) := by decide +kernel
theorem dX4_undo_14 : decode cX4_undo 14 = .ok (.aload_n 0, 1) := by decide +kernel
theorem dX4_undo_15 : decode cX4_undo 15 = .ok (.getfield 38, 3) := by decide +kernel
theorem dX4_undo_18 : decode cX4_undo 18 = .ok (.aload_n 0, 1) := by decide +kernel
theorem dX4_undo_19 : decode cX4_undo 19 = .ok (.getfield 25, 3) := by decide +kernel
theorem dX4_undo_22 : decode cX4_undo 22 = .ok (.invokevirtual 130, 3) := by decide +kernel
theorem dX4_undo_25 : decode cX4_undo 25 = .ok (.ireturn, 1) := by decide +kernel
theorem dX4_watches_0 : decode cX4_watches 0 = .ok (.aload_n 0, 1) := by decide +kernel
theorem dX4_watches_1 : decode cX4_watches 1 = .ok (.getfield 25, 3) := by decide +kernel
theorem dX4_watches_4 : decode cX4_watches 4 = .ok (.invokevirtual 134, 3) := by decide +kernel
theorem dX4_watches_7 : decode cX4_watches 7 = .ok (.ifCond .ne 6, 3) := by decide +kernel
theorem dX4_watches_10 : decode cX4_watches 10 = .ok (.ldc 129, 2) := by decide +kernel
theorem dX4_watches_12 : decode cX4_watches 12 = .ok (.ireturn, 1) := by decide +kernel
theorem dX4_watches_13 : decode cX4_watches 13 = .ok (.iload_n 1, 1) := by decide +kernel
theorem dX4_watches_14 : decode cX4_watches 14 = .ok (.iconst 1, 1) := by decide +kernel
theorem dX4_watches_15 : decode cX4_watches 15 = .ok (.bipush 24, 2) := by decide +kernel
theorem dX4_watches_17 : decode cX4_watches 17 = .ok (.invokestatic 138, 3) := by decide +kernel
theorem dX4_watches_20 : decode cX4_watches 20 = .ok (.ifCond .ne 6, 3) := by decide +kernel
theorem dX4_watches_23 : decode cX4_watches 23 = .ok (.ldc 55, 2) := by decide +kernel
theorem dX4_watches_25 : decode cX4_watches 25 = .ok (.ireturn, 1) := by decide +kernel
theorem dX4_watches_26 : decode cX4_watches 26 = .ok (.aload_n 0, 1) := by decide +kernel
theorem dX4_watches_27 : decode cX4_watches 27 = .ok (.getfield 25, 3) := by decide +kernel
theorem dX4_watches_30 : decode cX4_watches 30 = .ok (.getfield 142, 3) := by decide +kernel
theorem dX4_watches_33 : decode cX4_watches 33 = .ok (.iload_n 1, 1) := by decide +kernel
theorem dX4_watches_34 : decode cX4_watches 34 = .ok (.iadd, 1) := by decide +kernel
theorem dX4_watches_35 : decode cX4_watches 35 = .ok (.sipush 999, 3) := by decide +kernel
theorem dX4_watches_38 : decode cX4_watches 38 = .ok (.if_icmp .le 6, 3) := by decide +kernel
theorem dX4_watches_41 : decode cX4_watches 41 = .ok (.ldc 98, 2) := by decide +kernel
theorem dX4_watches_43 : decode cX4_watches 43 = .ok (.ireturn, 1) := by decide +kernel
theorem dX4_watches_44 : decode cX4_watches 44 = .ok (.iconst 0, 1) := by decide +kernel
theorem dX4_watches_45 : decode cX4_watches 45 = .ok (.istore_n 2, 1) := by decide +kernel
theorem dX4_watches_46 : decode cX4_watches 46 = .ok (.iload_n 2, 1) := by decide +kernel
theorem dX4_watches_47 : decode cX4_watches 47 = .ok (.iload_n 1, 1) := by decide +kernel
theorem dX4_watches_48 : decode cX4_watches 48 = .ok (.if_icmp .ge 27, 3) := by decide +kernel
theorem dX4_watches_51 : decode cX4_watches 51 = .ok (.aload_n 0, 1) := by decide +kernel
theorem dX4_watches_52 : decode cX4_watches 52 = .ok (.getfield 38, 3) := by decide +kernel
theorem dX4_watches_55 : decode cX4_watches 55 = .ok (.aload_n 0, 1) := by decide +kernel
theorem dX4_watches_56 : decode cX4_watches 56 = .ok (.getfield 25, 3) := by decide +kernel
theorem dX4_watches_59 : decode cX4_watches 59 = .ok (.invokevirtual 145, 3) := by decide +kernel
theorem dX4_watches_62 : decode cX4_watches 62 = .ok (.aload_n 0, 1) := by decide +kernel
theorem dX4_watches_63 : decode cX4_watches 63 = .ok (.getfield 25, 3) := by decide +kernel
theorem dX4_watches_66 : decode cX4_watches 66 = .ok (.invokevirtual 148, 3) := by decide +kernel
theorem dX4_watches_69 : decode cX4_watches 69 = .ok (.iinc 2 1, 3) := by decide +kernel
theorem dX4_watches_72 : decode cX4_watches 72 = .ok (.goto (-26), 3) := by decide +kernel
theorem dX4_watches_75 : decode cX4_watches 75 = .ok (.aload_n 0, 1) := by decide +kernel
theorem dX4_watches_76 : decode cX4_watches 76 = .ok (.getfield 25, 3) := by decide +kernel
theorem dX4_watches_79 : decode cX4_watches 79 = .ok (.iconst 2, 1) := by decide +kernel
theorem dX4_watches_80 : decode cX4_watches 80 = .ok (.invokevirtual 151, 3) := by decide +kernel
theorem dX4_watches_83 : decode cX4_watches 83 = .ok (.ireturn, 1) := by decide +kernel
theorem dX4_pour_0 : decode cX4_pour 0 = .ok (.aload_n 0, 1) := by decide +kernel
theorem dX4_pour_1 : decode cX4_pour 1 = .ok (.getfield 25, 3) := by decide +kernel
theorem dX4_pour_4 : decode cX4_pour 4 = .ok (.invokevirtual 134, 3) := by decide +kernel
theorem dX4_pour_7 : decode cX4_pour 7 = .ok (.ifCond .ne 6, 3) := by decide +kernel
theorem dX4_pour_10 : decode cX4_pour 10 = .ok (.ldc 129, 2) := by decide +kernel
theorem dX4_pour_12 : decode cX4_pour 12 = .ok (.ireturn, 1) := by decide +kernel
theorem dX4_pour_13 : decode cX4_pour 13 = .ok (.iload_n 1, 1) := by decide +kernel
theorem dX4_pour_14 : decode cX4_pour 14 = .ok (.iconst 1, 1) := by decide +kernel
theorem dX4_pour_15 : decode cX4_pour 15 = .ok (.bipush 60, 2) := by decide +kernel
theorem dX4_pour_17 : decode cX4_pour 17 = .ok (.invokestatic 138, 3) := by decide +kernel
theorem dX4_pour_20 : decode cX4_pour 20 = .ok (.ifCond .ne 6, 3) := by decide +kernel
theorem dX4_pour_23 : decode cX4_pour 23 = .ok (.ldc 55, 2) := by decide +kernel
theorem dX4_pour_25 : decode cX4_pour 25 = .ok (.ireturn, 1) := by decide +kernel
theorem dX4_pour_26 : decode cX4_pour 26 = .ok (.aload_n 0, 1) := by decide +kernel
theorem dX4_pour_27 : decode cX4_pour 27 = .ok (.getfield 38, 3) := by decide +kernel
theorem dX4_pour_30 : decode cX4_pour 30 = .ok (.aload_n 0, 1) := by decide +kernel
theorem dX4_pour_31 : decode cX4_pour 31 = .ok (.getfield 25, 3) := by decide +kernel
theorem dX4_pour_34 : decode cX4_pour 34 = .ok (.invokevirtual 145, 3) := by decide +kernel
theorem dX4_pour_37 : decode cX4_pour 37 = .ok (.aload_n 0, 1) := by decide +kernel
theorem dX4_pour_38 : decode cX4_pour 38 = .ok (.getfield 25, 3) := by decide +kernel
theorem dX4_pour_41 : decode cX4_pour 41 = .ok (.iload_n 1, 1) := by decide +kernel
theorem dX4_pour_42 : decode cX4_pour 42 = .ok (.invokevirtual 154, 3) := by decide +kernel
theorem dX4_pour_45 : decode cX4_pour 45 = .ok (.aload_n 0, 1) := by decide +kernel
theorem dX4_pour_46 : decode cX4_pour 46 = .ok (.getfield 25, 3) := by decide +kernel
theorem dX4_pour_49 : decode cX4_pour 49 = .ok (.getfield 158, 3) := by decide +kernel
theorem dX4_pour_52 : decode cX4_pour 52 = .ok (.ireturn, 1) := by decide +kernel
theorem dX4_fog_0 : decode cX4_fog 0 = .ok (.iload_n 1, 1) := by decide +kernel
theorem dX4_fog_1 : decode cX4_fog 1 = .ok (.aload_n 0, 1) := by decide +kernel
theorem dX4_fog_2 : decode cX4_fog 2 = .ok (.getfield 25, 3) := by decide +kernel
theorem dX4_fog_5 : decode cX4_fog 5 = .ok (.getfield 161, 3) := by decide +kernel
theorem dX4_fog_8 : decode cX4_fog 8 = .ok (.invokestatic 51, 3) := by decide +kernel
theorem dX4_fog_11 : decode cX4_fog 11 = .ok (.ifCond .eq 13, 3) := by decide +kernel
theorem dX4_fog_14 : decode cX4_fog 14 = .ok (.iload_n 2, 1) := by decide +kernel
theorem dX4_fog_15 : decode cX4_fog 15 = .ok (.iconst 0, 1) := by decide +kernel
theorem dX4_fog_16 : decode cX4_fog 16 = .ok (.bipush 9, 2) := by decide +kernel
theorem dX4_fog_18 : decode cX4_fog 18 = .ok (.invokestatic 138, 3) := by decide +kernel
theorem dX4_fog_21 : decode cX4_fog 21 = .ok (.ifCond .ne 6, 3) := by decide +kernel
theorem dX4_fog_24 : decode cX4_fog 24 = .ok (.ldc 55, 2) := by decide +kernel
theorem dX4_fog_26 : decode cX4_fog 26 = .ok (.ireturn, 1) := by decide +kernel
theorem dX4_fog_27 : decode cX4_fog 27 = .ok (.aload_n 0, 1) := by decide +kernel
theorem dX4_fog_28 : decode cX4_fog 28 = .ok (.getfield 38, 3) := by decide +kernel
theorem dX4_fog_31 : decode cX4_fog 31 = .ok (.aload_n 0, 1) := by decide +kernel
theorem dX4_fog_32 : decode cX4_fog 32 = .ok (.getfield 25, 3) := by decide +kernel
theorem dX4_fog_35 : decode cX4_fog 35 = .ok (.invokevirtual 145, 3) := by decide +kernel
theorem dX4_fog_38 : decode cX4_fog 38 = .ok (.aload_n 0, 1) := by decide +kernel
theorem dX4_fog_39 : decode cX4_fog 39 = .ok (.getfield 25, 3) := by decide +kernel
theorem dX4_fog_42 : decode cX4_fog 42 = .ok (.getfield 164, 3) := by decide +kernel
theorem dX4_fog_45 : decode cX4_fog 45 = .ok (.iload_n 1, 1) := by decide +kernel
theorem dX4_fog_46 : decode cX4_fog 46 = .ok (.iaload, 1) := by decide +kernel
theorem dX4_fog_47 : decode cX4_fog 47 = .ok (.istore_n 3, 1) := by decide +kernel
theorem dX4_fog_48 : decode cX4_fog 48 = .ok (.aload_n 0, 1) := by decide +kernel
theorem dX4_fog_49 : decode cX4_fog 49 = .ok (.getfield 25, 3) := by decide +kernel
theorem dX4_fog_52 : decode cX4_fog 52 = .ok (.getfield 164, 3) := by decide +kernel
theorem dX4_fog_55 : decode cX4_fog 55 = .ok (.iload_n 1, 1) := by decide +kernel
theorem dX4_fog_56 : decode cX4_fog 56 = .ok (.iload_n 2, 1) := by decide +kernel
theorem dX4_fog_57 : decode cX4_fog 57 = .ok (.iastore, 1) := by decide +kernel
theorem dX4_fog_58 : decode cX4_fog 58 = .ok (.iload_n 3, 1) := by decide +kernel
theorem dX4_fog_59 : decode cX4_fog 59 = .ok (.ireturn, 1) := by decide +kernel
theorem dX4_eyes_0 : decode cX4_eyes 0 = .ok (.aload_n 0, 1) := by decide +kernel
theorem dX4_eyes_1 : decode cX4_eyes 1 = .ok (.getfield 25, 3) := by decide +kernel
theorem dX4_eyes_4 : decode cX4_eyes 4 = .ok (.invokevirtual 134, 3) := by decide +kernel
theorem dX4_eyes_7 : decode cX4_eyes 7 = .ok (.ifCond .ne 6, 3) := by decide +kernel
theorem dX4_eyes_10 : decode cX4_eyes 10 = .ok (.ldc 129, 2) := by decide +kernel
theorem dX4_eyes_12 : decode cX4_eyes 12 = .ok (.ireturn, 1) := by decide +kernel
theorem dX4_eyes_13 : decode cX4_eyes 13 = .ok (.iload_n 1, 1) := by decide +kernel
theorem dX4_eyes_14 : decode cX4_eyes 14 = .ok (.iconst 0, 1) := by decide +kernel
theorem dX4_eyes_15 : decode cX4_eyes 15 = .ok (.bipush 12, 2) := by decide +kernel
theorem dX4_eyes_17 : decode cX4_eyes 17 = .ok (.invokestatic 138, 3) := by decide +kernel
theorem dX4_eyes_20 : decode cX4_eyes 20 = .ok (.ifCond .ne 6, 3) := by decide +kernel
theorem dX4_eyes_23 : decode cX4_eyes 23 = .ok (.ldc 55, 2) := by decide +kernel
theorem dX4_eyes_25 : decode cX4_eyes 25 = .ok (.ireturn, 1) := by decide +kernel
theorem dX4_eyes_26 : decode cX4_eyes 26 = .ok (.aload_n 0, 1) := by decide +kernel
theorem dX4_eyes_27 : decode cX4_eyes 27 = .ok (.getfield 38, 3) := by decide +kernel
theorem dX4_eyes_30 : decode cX4_eyes 30 = .ok (.aload_n 0, 1) := by decide +kernel
theorem dX4_eyes_31 : decode cX4_eyes 31 = .ok (.getfield 25, 3) := by decide +kernel
theorem dX4_eyes_34 : decode cX4_eyes 34 = .ok (.invokevirtual 145, 3) := by decide +kernel
theorem dX4_eyes_37 : decode cX4_eyes 37 = .ok (.aload_n 0, 1) := by decide +kernel
theorem dX4_eyes_38 : decode cX4_eyes 38 = .ok (.getfield 25, 3) := by decide +kernel
theorem dX4_eyes_41 : decode cX4_eyes 41 = .ok (.getfield 167, 3) := by decide +kernel
theorem dX4_eyes_44 : decode cX4_eyes 44 = .ok (.istore_n 2, 1) := by decide +kernel
theorem dX4_eyes_45 : decode cX4_eyes 45 = .ok (.aload_n 0, 1) := by decide +kernel
theorem dX4_eyes_46 : decode cX4_eyes 46 = .ok (.getfield 25, 3) := by decide +kernel
theorem dX4_eyes_49 : decode cX4_eyes 49 = .ok (.iload_n 1, 1) := by decide +kernel
theorem dX4_eyes_50 : decode cX4_eyes 50 = .ok (.putfield 167, 3) := by decide +kernel
theorem dX4_eyes_53 : decode cX4_eyes 53 = .ok (.iload_n 2, 1) := by decide +kernel
theorem dX4_eyes_54 : decode cX4_eyes 54 = .ok (.ireturn, 1) := by decide +kernel
theorem dX4_move_0 : decode cX4_move 0 = .ok (.iload_n 1, 1) := by decide +kernel
theorem dX4_move_1 : decode cX4_move 1 = .ok (.aload_n 0, 1) := by decide +kernel
theorem dX4_move_2 : decode cX4_move 2 = .ok (.getfield 25, 3) := by decide +kernel
theorem dX4_move_5 : decode cX4_move 5 = .ok (.getfield 123, 3) := by decide +kernel
theorem dX4_move_8 : decode cX4_move 8 = .ok (.invokestatic 51, 3) := by decide +kernel
theorem dX4_move_11 : decode cX4_move 11 = .ok (.ifCond .eq 17, 3) := by decide +kernel
theorem dX4_move_14 : decode cX4_move 14 = .ok (.iload_n 2, 1) := by decide +kernel
theorem dX4_move_15 : decode cX4_move 15 = .ok (.aload_n 0, 1) := by decide +kernel
theorem dX4_move_16 : decode cX4_move 16 = .ok (.getfield 25, 3) := by decide +kernel
theorem dX4_move_19 : decode cX4_move 19 = .ok (.getfield 170, 3) := by decide +kernel
theorem dX4_move_22 : decode cX4_move 22 = .ok (.invokestatic 51, 3) := by decide +kernel
theorem dX4_move_25 : decode cX4_move 25 = .ok (.ifCond .ne 6, 3) := by decide +kernel
theorem dX4_move_28 : decode cX4_move 28 = .ok (.ldc 55, 2) := by decide +kernel
theorem dX4_move_30 : decode cX4_move 30 = .ok (.ireturn, 1) := by decide +kernel
theorem dX4_move_31 : decode cX4_move 31 = .ok (.aload_n 0, 1) := by decide +kernel
theorem dX4_move_32 : decode cX4_move 32 = .ok (.getfield 25, 3) := by decide +kernel
theorem dX4_move_35 : decode cX4_move 35 = .ok (.getfield 173, 3) := by decide +kernel
theorem dX4_move_38 : decode cX4_move 38 = .ok (.iload_n 1, 1) := by decide +kernel
theorem dX4_move_39 : decode cX4_move 39 = .ok (.iaload, 1) := by decide +kernel
theorem dX4_move_40 : decode cX4_move 40 = .ok (.istore_n 3, 1) := by decide +kernel
theorem dX4_move_41 : decode cX4_move 41 = .ok (.iload_n 3, 1) := by decide +kernel
theorem dX4_move_42 : decode cX4_move 42 = .ok (.iload_n 2, 1) := by decide +kernel
theorem dX4_move_43 : decode cX4_move 43 = .ok (.if_icmp .ne 6, 3) := by decide +kernel
theorem dX4_move_46 : decode cX4_move 46 = .ok (.ldc 129, 2) := by decide +kernel
theorem dX4_move_48 : decode cX4_move 48 = .ok (.ireturn, 1) := by decide +kernel
theorem dX4_move_49 : decode cX4_move 49 = .ok (.aload_n 0, 1) := by decide +kernel
theorem dX4_move_50 : decode cX4_move 50 = .ok (.getfield 38, 3) := by decide +kernel
theorem dX4_move_53 : decode cX4_move 53 = .ok (.aload_n 0, 1) := by decide +kernel
theorem dX4_move_54 : decode cX4_move 54 = .ok (.getfield 25, 3) := by decide +kernel
theorem dX4_move_57 : decode cX4_move 57 = .ok (.invokevirtual 145, 3) := by decide +kernel
theorem dX4_move_60 : decode cX4_move 60 = .ok (.aload_n 0, 1) := by decide +kernel
theorem dX4_move_61 : decode cX4_move 61 = .ok (.getfield 25, 3) := by decide +kernel
theorem dX4_move_64 : decode cX4_move 64 = .ok (.getfield 173, 3) := by decide +kernel
theorem dX4_move_67 : decode cX4_move 67 = .ok (.iload_n 1, 1) := by decide +kernel
theorem dX4_move_68 : decode cX4_move 68 = .ok (.iload_n 2, 1) := by decide +kernel
theorem dX4_move_69 : decode cX4_move 69 = .ok (.iastore, 1) := by decide +kernel
theorem dX4_move_70 : decode cX4_move 70 = .ok (.iload_n 3, 1) := by decide +kernel
theorem dX4_move_71 : decode cX4_move 71 = .ok (.ireturn, 1) := by decide +kernel
theorem dX4_ship_0 : decode cX4_ship 0 = .ok (.iload_n 1, 1) := by decide +kernel
theorem dX4_ship_1 : decode cX4_ship 1 = .ok (.aload_n 0, 1) := by decide +kernel
theorem dX4_ship_2 : decode cX4_ship 2 = .ok (.getfield 25, 3) := by decide +kernel
theorem dX4_ship_5 : decode cX4_ship 5 = .ok (.getfield 123, 3) := by decide +kernel
theorem dX4_ship_8 : decode cX4_ship 8 = .ok (.invokestatic 51, 3) := by decide +kernel
theorem dX4_ship_11 : decode cX4_ship 11 = .ok (.ifCond .ne 6, 3) := by decide +kernel
theorem dX4_ship_14 : decode cX4_ship 14 = .ok (.ldc 55, 2) := by decide +kernel
theorem dX4_ship_16 : decode cX4_ship 16 = .ok (.ireturn, 1) := by decide +kernel
theorem dX4_ship_17 : decode cX4_ship 17 = .ok (.iload_n 2, 1) := by decide +kernel
theorem dX4_ship_18 : decode cX4_ship 18 = .ok (.tableswitch 54 0 2 #[26, 36, 45], 26) := by decide +kernel
theorem dX4_ship_44 : decode cX4_ship 44 = .ok (.aload_n 0, 1) := by decide +kernel
theorem dX4_ship_45 : decode cX4_ship 45 = .ok (.getfield 25, 3) := by decide +kernel
theorem dX4_ship_48 : decode cX4_ship 48 = .ok (.getfield 173, 3) := by decide +kernel
theorem dX4_ship_51 : decode cX4_ship 51 = .ok (.iload_n 1, 1) := by decide +kernel
theorem dX4_ship_52 : decode cX4_ship 52 = .ok (.iaload, 1) := by decide +kernel
theorem dX4_ship_53 : decode cX4_ship 53 = .ok (.ireturn, 1) := by decide +kernel
theorem dX4_ship_54 : decode cX4_ship 54 = .ok (.aload_n 0, 1) := by decide +kernel
theorem dX4_ship_55 : decode cX4_ship 55 = .ok (.getfield 25, 3) := by decide +kernel
theorem dX4_ship_58 : decode cX4_ship 58 = .ok (.iload_n 1, 1) := by decide +kernel
theorem dX4_ship_59 : decode cX4_ship 59 = .ok (.invokevirtual 176, 3) := by decide +kernel
theorem dX4_ship_62 : decode cX4_ship 62 = .ok (.ireturn, 1) := by decide +kernel
theorem dX4_ship_63 : decode cX4_ship 63 = .ok (.aload_n 0, 1) := by decide +kernel
theorem dX4_ship_64 : decode cX4_ship 64 = .ok (.getfield 25, 3) := by decide +kernel
theorem dX4_ship_67 : decode cX4_ship 67 = .ok (.iload_n 1, 1) := by decide +kernel
theorem dX4_ship_68 : decode cX4_ship 68 = .ok (.invokevirtual 179, 3) := by decide +kernel
theorem dX4_ship_71 : decode cX4_ship 71 = .ok (.ireturn, 1) := by decide +kernel
theorem dX4_ship_72 : decode cX4_ship 72 = .ok (.ldc 55, 2) := by decide +kernel
theorem dX4_ship_74 : decode cX4_ship 74 = .ok (.ireturn, 1) := by decide +kernel
theorem dX4_stand_0 : decode cX4_stand 0 = .ok (.aload_n 0, 1) := by decide +kernel
theorem dX4_stand_1 : decode cX4_stand 1 = .ok (.getfield 25, 3) := by decide +kernel
theorem dX4_stand_4 : decode cX4_stand 4 = .ok (.invokevirtual 134, 3) := by decide +kernel
theorem dX4_stand_7 : decode cX4_stand 7 = .ok (.ifCond .ne 6, 3) := by decide +kernel
theorem dX4_stand_10 : decode cX4_stand 10 = .ok (.ldc 129, 2) := by decide +kernel
theorem dX4_stand_12 : decode cX4_stand 12 = .ok (.ireturn, 1) := by decide +kernel
theorem dX4_stand_13 : decode cX4_stand 13 = .ok (.iload_n 1, 1) := by decide +kernel
theorem dX4_stand_14 : decode cX4_stand 14 = .ok (.tableswitch 108 0 6 #[42, 51, 60, 69, 77, 85, 93], 42) := by decide +kernel
theorem dX4_stand_56 : decode cX4_stand 56 = .ok (.aload_n 0, 1) := by decide +kernel
theorem dX4_stand_57 : decode cX4_stand 57 = .ok (.getfield 25, 3) := by decide +kernel
theorem dX4_stand_60 : decode cX4_stand 60 = .ok (.iconst 0, 1) := by decide +kernel
theorem dX4_stand_61 : decode cX4_stand 61 = .ok (.invokevirtual 151, 3) := by decide +kernel
theorem dX4_stand_64 : decode cX4_stand 64 = .ok (.ireturn, 1) := by decide +kernel
theorem dX4_stand_65 : decode cX4_stand 65 = .ok (.aload_n 0, 1) := by decide +kernel
theorem dX4_stand_66 : decode cX4_stand 66 = .ok (.getfield 25, 3) := by decide +kernel
theorem dX4_stand_69 : decode cX4_stand 69 = .ok (.iconst 1, 1) := by decide +kernel
theorem dX4_stand_70 : decode cX4_stand 70 = .ok (.invokevirtual 151, 3) := by decide +kernel
theorem dX4_stand_73 : decode cX4_stand 73 = .ok (.ireturn, 1) := by decide +kernel
theorem dX4_stand_74 : decode cX4_stand 74 = .ok (.aload_n 0, 1) := by decide +kernel
theorem dX4_stand_75 : decode cX4_stand 75 = .ok (.getfield 25, 3) := by decide +kernel
theorem dX4_stand_78 : decode cX4_stand 78 = .ok (.iconst 2, 1) := by decide +kernel
theorem dX4_stand_79 : decode cX4_stand 79 = .ok (.invokevirtual 151, 3) := by decide +kernel
theorem dX4_stand_82 : decode cX4_stand 82 = .ok (.ireturn, 1) := by decide +kernel
theorem dX4_stand_83 : decode cX4_stand 83 = .ok (.aload_n 0, 1) := by decide +kernel
theorem dX4_stand_84 : decode cX4_stand 84 = .ok (.getfield 25, 3) := by decide +kernel
theorem dX4_stand_87 : decode cX4_stand 87 = .ok (.getfield 167, 3) := by decide +kernel
theorem dX4_stand_90 : decode cX4_stand 90 = .ok (.ireturn, 1) := by decide +kernel
theorem dX4_stand_91 : decode cX4_stand 91 = .ok (.aload_n 0, 1) := by decide +kernel
theorem dX4_stand_92 : decode cX4_stand 92 = .ok (.getfield 25, 3) := by decide +kernel
theorem dX4_stand_95 : decode cX4_stand 95 = .ok (.getfield 158, 3) := by decide +kernel
theorem dX4_stand_98 : decode cX4_stand 98 = .ok (.ireturn, 1) := by decide +kernel
theorem dX4_stand_99 : decode cX4_stand 99 = .ok (.aload_n 0, 1) := by decide +kernel
theorem dX4_stand_100 : decode cX4_stand 100 = .ok (.getfield 25, 3) := by decide +kernel
theorem dX4_stand_103 : decode cX4_stand 103 = .ok (.getfield 170, 3) := by decide +kernel
theorem dX4_stand_106 : decode cX4_stand 106 = .ok (.ireturn, 1) := by decide +kernel
theorem dX4_stand_107 : decode cX4_stand 107 = .ok (.aload_n 0, 1) := by decide +kernel
theorem dX4_stand_108 : decode cX4_stand 108 = .ok (.getfield 25, 3) := by decide +kernel
theorem dX4_stand_111 : decode cX4_stand 111 = .ok (.aload_n 0, 1) := by decide +kernel
theorem dX4_stand_112 : decode cX4_stand 112 = .ok (.getfield 25, 3) := by decide +kernel
theorem dX4_stand_115 : decode cX4_stand 115 = .ok (.getfield 142, 3) := by decide +kernel
theorem dX4_stand_118 : decode cX4_stand 118 = .ok (.invokevirtual 182, 3) := by decide +kernel
theorem dX4_stand_121 : decode cX4_stand 121 = .ok (.ireturn, 1) := by decide +kernel
theorem dX4_stand_122 : decode cX4_stand 122 = .ok (.ldc 55, 2) := by decide +kernel
theorem dX4_stand_124 : decode cX4_stand 124 = .ok (.ireturn, 1) := by decide +kernel
theorem dX4_thick_0 : decode cX4_thick 0 = .ok (.aload_n 0, 1) := by decide +kernel
theorem dX4_thick_1 : decode cX4_thick 1 = .ok (.getfield 25, 3) := by decide +kernel
theorem dX4_thick_4 : decode cX4_thick 4 = .ok (.invokevirtual 134, 3) := by decide +kernel
theorem dX4_thick_7 : decode cX4_thick 7 = .ok (.ifCond .ne 6, 3) := by decide +kernel
theorem dX4_thick_10 : decode cX4_thick 10 = .ok (.ldc 129, 2) := by decide +kernel
theorem dX4_thick_12 : decode cX4_thick 12 = .ok (.ireturn, 1) := by decide +kernel
theorem dX4_thick_13 : decode cX4_thick 13 = .ok (.iload_n 1, 1) := by decide +kernel
theorem dX4_thick_14 : decode cX4_thick 14 = .ok (.iconst 0, 1) := by decide +kernel
theorem dX4_thick_15 : decode cX4_thick 15 = .ok (.bipush 60, 2) := by decide +kernel
theorem dX4_thick_17 : decode cX4_thick 17 = .ok (.invokestatic 138, 3) := by decide +kernel
theorem dX4_thick_20 : decode cX4_thick 20 = .ok (.ifCond .ne 6, 3) := by decide +kernel
theorem dX4_thick_23 : decode cX4_thick 23 = .ok (.ldc 55, 2) := by decide +kernel
theorem dX4_thick_25 : decode cX4_thick 25 = .ok (.ireturn, 1) := by decide +kernel
theorem dX4_thick_26 : decode cX4_thick 26 = .ok (.aload_n 0, 1) := by decide +kernel
theorem dX4_thick_27 : decode cX4_thick 27 = .ok (.getfield 25, 3) := by decide +kernel
theorem dX4_thick_30 : decode cX4_thick 30 = .ok (.aload_n 0, 1) := by decide +kernel
theorem dX4_thick_31 : decode cX4_thick 31 = .ok (.getfield 25, 3) := by decide +kernel
theorem dX4_thick_34 : decode cX4_thick 34 = .ok (.getfield 142, 3) := by decide +kernel
theorem dX4_thick_37 : decode cX4_thick 37 = .ok (.iload_n 1, 1) := by decide +kernel
theorem dX4_thick_38 : decode cX4_thick 38 = .ok (.iadd, 1) := by decide +kernel
theorem dX4_thick_39 : decode cX4_thick 39 = .ok (.invokevirtual 182, 3) := by decide +kernel
theorem dX4_thick_42 : decode cX4_thick 42 = .ok (.ireturn, 1) := by decide +kernel
theorem dX4_ahead_0 : decode cX4_ahead 0 = .ok (.iload_n 1, 1) := by decide +kernel
theorem dX4_ahead_1 : decode cX4_ahead 1 = .ok (.aload_n 0, 1) := by decide +kernel
theorem dX4_ahead_2 : decode cX4_ahead 2 = .ok (.getfield 25, 3) := by decide +kernel
theorem dX4_ahead_5 : decode cX4_ahead 5 = .ok (.getfield 123, 3) := by decide +kernel
theorem dX4_ahead_8 : decode cX4_ahead 8 = .ok (.invokestatic 51, 3) := by decide +kernel
theorem dX4_ahead_11 : decode cX4_ahead 11 = .ok (.ifCond .eq 21, 3) := by decide +kernel
theorem dX4_ahead_14 : decode cX4_ahead 14 = .ok (.iload_n 2, 1) := by decide +kernel
theorem dX4_ahead_15 : decode cX4_ahead 15 = .ok (.iconst 0, 1) := by decide +kernel
theorem dX4_ahead_16 : decode cX4_ahead 16 = .ok (.bipush 60, 2) := by decide +kernel
theorem dX4_ahead_18 : decode cX4_ahead 18 = .ok (.invokestatic 138, 3) := by decide +kernel
theorem dX4_ahead_21 : decode cX4_ahead 21 = .ok (.ifCond .eq 11, 3) := by decide +kernel
theorem dX4_ahead_24 : decode cX4_ahead 24 = .ok (.iload_n 3, 1) := by decide +kernel
theorem dX4_ahead_25 : decode cX4_ahead 25 = .ok (.iconst 2, 1) := by decide +kernel
theorem dX4_ahead_26 : decode cX4_ahead 26 = .ok (.invokestatic 51, 3) := by decide +kernel
theorem dX4_ahead_29 : decode cX4_ahead 29 = .ok (.ifCond .ne 6, 3) := by decide +kernel
theorem dX4_ahead_32 : decode cX4_ahead 32 = .ok (.ldc 55, 2) := by decide +kernel
theorem dX4_ahead_34 : decode cX4_ahead 34 = .ok (.ireturn, 1) := by decide +kernel
theorem dX4_ahead_35 : decode cX4_ahead 35 = .ok (.aload_n 0, 1) := by decide +kernel
theorem dX4_ahead_36 : decode cX4_ahead 36 = .ok (.getfield 29, 3) := by decide +kernel
theorem dX4_ahead_39 : decode cX4_ahead 39 = .ok (.aload_n 0, 1) := by decide +kernel
theorem dX4_ahead_40 : decode cX4_ahead 40 = .ok (.getfield 25, 3) := by decide +kernel
theorem dX4_ahead_43 : decode cX4_ahead 43 = .ok (.iload_n 1, 1) := by decide +kernel
theorem dX4_ahead_44 : decode cX4_ahead 44 = .ok (.invokevirtual 185, 3) := by decide +kernel
theorem dX4_ahead_47 : decode cX4_ahead 47 = .ok (.aload_n 0, 1) := by decide +kernel
theorem dX4_ahead_48 : decode cX4_ahead 48 = .ok (.getfield 29, 3) := by decide +kernel
theorem dX4_ahead_51 : decode cX4_ahead 51 = .ok (.iload_n 2, 1) := by decide +kernel
theorem dX4_ahead_52 : decode cX4_ahead 52 = .ok (.invokevirtual 189, 3) := by decide +kernel
theorem dX4_ahead_55 : decode cX4_ahead 55 = .ok (.iload_n 3, 1) := by decide +kernel
theorem dX4_ahead_56 : decode cX4_ahead 56 = .ok (.ifCond .ne 15, 3) := by decide +kernel
theorem dX4_ahead_59 : decode cX4_ahead 59 = .ok (.aload_n 0, 1) := by decide +kernel
theorem dX4_ahead_60 : decode cX4_ahead 60 = .ok (.getfield 29, 3) := by decide +kernel
theorem dX4_ahead_63 : decode cX4_ahead 63 = .ok (.getfield 173, 3) := by decide +kernel
theorem dX4_ahead_66 : decode cX4_ahead 66 = .ok (.iconst 0, 1) := by decide +kernel
theorem dX4_ahead_67 : decode cX4_ahead 67 = .ok (.iaload, 1) := by decide +kernel
theorem dX4_ahead_68 : decode cX4_ahead 68 = .ok (.goto 11, 3) := by decide +kernel
theorem dX4_ahead_71 : decode cX4_ahead 71 = .ok (.aload_n 0, 1) := by decide +kernel
theorem dX4_ahead_72 : decode cX4_ahead 72 = .ok (.getfield 29, 3) := by decide +kernel
theorem dX4_ahead_75 : decode cX4_ahead 75 = .ok (.iconst 0, 1) := by decide +kernel
theorem dX4_ahead_76 : decode cX4_ahead 76 = .ok (.invokevirtual 176, 3) := by decide +kernel
theorem dX4_ahead_79 : decode cX4_ahead 79 = .ok (.ireturn, 1) := by decide +kernel
theorem dX4_written_0 : decode cX4_written 0 = .ok (.aload_n 0, 1) := by decide +kernel
theorem dX4_written_1 : decode cX4_written 1 = .ok (.getfield 25, 3) := by decide +kernel
theorem dX4_written_4 : decode cX4_written 4 = .ok (.invokevirtual 134, 3) := by decide +kernel
theorem dX4_written_7 : decode cX4_written 7 = .ok (.ifCond .ne 6, 3) := by decide +kernel
theorem dX4_written_10 : decode cX4_written 10 = .ok (.ldc 129, 2) := by decide +kernel
theorem dX4_written_12 : decode cX4_written 12 = .ok (.ireturn, 1) := by decide +kernel
theorem dX4_written_13 : decode cX4_written 13 = .ok (.iload_n 1, 1) := by decide +kernel
theorem dX4_written_14 : decode cX4_written 14 = .ok (.iconst 0, 1) := by decide +kernel
theorem dX4_written_15 : decode cX4_written 15 = .ok (.bipush 60, 2) := by decide +kernel
theorem dX4_written_17 : decode cX4_written 17 = .ok (.invokestatic 138, 3) := by decide +kernel
theorem dX4_written_20 : decode cX4_written 20 = .ok (.ifCond .eq 11, 3) := by decide +kernel
theorem dX4_written_23 : decode cX4_written 23 = .ok (.iload_n 2, 1) := by decide +kernel
theorem dX4_written_24 : decode cX4_written 24 = .ok (.iconst 4, 1) := by decide +kernel
theorem dX4_written_25 : decode cX4_written 25 = .ok (.invokestatic 51, 3) := by decide +kernel
theorem dX4_written_28 : decode cX4_written 28 = .ok (.ifCond .ne 6, 3) := by decide +kernel
theorem dX4_written_31 : decode cX4_written 31 = .ok (.ldc 55, 2) := by decide +kernel
theorem dX4_written_33 : decode cX4_written 33 = .ok (.ireturn, 1) := by decide +kernel
theorem dX4_written_34 : decode cX4_written 34 = .ok (.aload_n 0, 1) := by decide +kernel
theorem dX4_written_35 : decode cX4_written 35 = .ok (.getfield 29, 3) := by decide +kernel
theorem dX4_written_38 : decode cX4_written 38 = .ok (.aload_n 0, 1) := by decide +kernel
theorem dX4_written_39 : decode cX4_written 39 = .ok (.getfield 25, 3) := by decide +kernel
theorem dX4_written_42 : decode cX4_written 42 = .ok (.invokevirtual 116, 3) := by decide +kernel
theorem dX4_written_45 : decode cX4_written 45 = .ok (.aload_n 0, 1) := by decide +kernel
theorem dX4_written_46 : decode cX4_written 46 = .ok (.getfield 29, 3) := by decide +kernel
theorem dX4_written_49 : decode cX4_written 49 = .ok (.iload_n 1, 1) := by decide +kernel
theorem dX4_written_50 : decode cX4_written 50 = .ok (.invokevirtual 189, 3) := by decide +kernel
theorem dX4_written_53 : decode cX4_written 53 = .ok (.iload_n 2, 1) := by decide +kernel
theorem dX4_written_54 : decode cX4_written 54 = .ok (.iconst 3, 1) := by decide +kernel
theorem dX4_written_55 : decode cX4_written 55 = .ok (.if_icmp .ne 13, 3) := by decide +kernel
theorem dX4_written_58 : decode cX4_written 58 = .ok (.aload_n 0, 1) := by decide +kernel
theorem dX4_written_59 : decode cX4_written 59 = .ok (.getfield 29, 3) := by decide +kernel
theorem dX4_written_62 : decode cX4_written 62 = .ok (.getfield 158, 3) := by decide +kernel
theorem dX4_written_65 : decode cX4_written 65 = .ok (.goto 11, 3) := by decide +kernel
theorem dX4_written_68 : decode cX4_written 68 = .ok (.aload_n 0, 1) := by decide +kernel
theorem dX4_written_69 : decode cX4_written 69 = .ok (.getfield 29, 3) := by decide +kernel
theorem dX4_written_72 : decode cX4_written 72 = .ok (.iload_n 2, 1) := by decide +kernel
theorem dX4_written_73 : decode cX4_written 73 = .ok (.invokevirtual 151, 3) := by decide +kernel
theorem dX4_written_76 : decode cX4_written 76 = .ok (.ireturn, 1) := by decide +kernel
theorem dX4_when_0 : decode cX4_when 0 = .ok (.iload_n 1, 1) := by decide +kernel
theorem dX4_when_1 : decode cX4_when 1 = .ok (.aload_n 0, 1) := by decide +kernel
theorem dX4_when_2 : decode cX4_when 2 = .ok (.getfield 25, 3) := by decide +kernel
theorem dX4_when_5 : decode cX4_when 5 = .ok (.getfield 123, 3) := by decide +kernel
theorem dX4_when_8 : decode cX4_when 8 = .ok (.invokestatic 51, 3) := by decide +kernel
theorem dX4_when_11 : decode cX4_when 11 = .ok (.ifCond .eq 11, 3) := by decide +kernel
theorem dX4_when_14 : decode cX4_when 14 = .ok (.iload_n 2, 1) := by decide +kernel
theorem dX4_when_15 : decode cX4_when 15 = .ok (.iconst 2, 1) := by decide +kernel
theorem dX4_when_16 : decode cX4_when 16 = .ok (.invokestatic 51, 3) := by decide +kernel
theorem dX4_when_19 : decode cX4_when 19 = .ok (.ifCond .ne 6, 3) := by decide +kernel
theorem dX4_when_22 : decode cX4_when 22 = .ok (.ldc 55, 2) := by decide +kernel
theorem dX4_when_24 : decode cX4_when 24 = .ok (.ireturn, 1) := by decide +kernel
theorem dX4_when_25 : decode cX4_when 25 = .ok (.aload_n 0, 1) := by decide +kernel
theorem dX4_when_26 : decode cX4_when 26 = .ok (.getfield 29, 3) := by decide +kernel
theorem dX4_when_29 : decode cX4_when 29 = .ok (.aload_n 0, 1) := by decide +kernel
theorem dX4_when_30 : decode cX4_when 30 = .ok (.getfield 25, 3) := by decide +kernel
theorem dX4_when_33 : decode cX4_when 33 = .ok (.iload_n 1, 1) := by decide +kernel
theorem dX4_when_34 : decode cX4_when 34 = .ok (.invokevirtual 185, 3) := by decide +kernel
theorem dX4_when_37 : decode cX4_when 37 = .ok (.iconst 0, 1) := by decide +kernel
theorem dX4_when_38 : decode cX4_when 38 = .ok (.istore_n 3, 1) := by decide +kernel
theorem dX4_when_39 : decode cX4_when 39 = .ok (.iload_n 3, 1) := by decide +kernel
theorem dX4_when_40 : decode cX4_when 40 = .ok (.bipush 60, 2) := by decide +kernel
theorem dX4_when_42 : decode cX4_when 42 = .ok (.if_icmp .gt 57, 3) := by decide +kernel
theorem dX4_when_45 : decode cX4_when 45 = .ok (.iload_n 2, 1) := by decide +kernel
theorem dX4_when_46 : decode cX4_when 46 = .ok (.ifCond .ne 23, 3) := by decide +kernel
theorem dX4_when_49 : decode cX4_when 49 = .ok (.aload_n 0, 1) := by decide +kernel
theorem dX4_when_50 : decode cX4_when 50 = .ok (.getfield 29, 3) := by decide +kernel
theorem dX4_when_53 : decode cX4_when 53 = .ok (.getfield 173, 3) := by decide +kernel
theorem dX4_when_56 : decode cX4_when 56 = .ok (.iconst 0, 1) := by decide +kernel
theorem dX4_when_57 : decode cX4_when 57 = .ok (.iaload, 1) := by decide +kernel
theorem dX4_when_58 : decode cX4_when 58 = .ok (.ifCond .ne 7, 3) := by decide +kernel
theorem dX4_when_61 : decode cX4_when 61 = .ok (.iconst 1, 1) := by decide +kernel
theorem dX4_when_62 : decode cX4_when 62 = .ok (.goto 15, 3) := by decide +kernel
theorem dX4_when_65 : decode cX4_when 65 = .ok (.iconst 0, 1) := by decide +kernel
theorem dX4_when_66 : decode cX4_when 66 = .ok (.goto 11, 3) := by decide +kernel
theorem dX4_when_69 : decode cX4_when 69 = .ok (.aload_n 0, 1) := by decide +kernel
theorem dX4_when_70 : decode cX4_when 70 = .ok (.getfield 29, 3) := by decide +kernel
theorem dX4_when_73 : decode cX4_when 73 = .ok (.iconst 0, 1) := by decide +kernel
theorem dX4_when_74 : decode cX4_when 74 = .ok (.invokevirtual 192, 3) := by decide +kernel
theorem dX4_when_77 : decode cX4_when 77 = .ok (.istore 4, 2) := by decide +kernel
theorem dX4_when_79 : decode cX4_when 79 = .ok (.iload 4, 2) := by decide +kernel
theorem dX4_when_81 : decode cX4_when 81 = .ok (.ifCond .eq 5, 3) := by decide +kernel
theorem dX4_when_84 : decode cX4_when 84 = .ok (.iload_n 3, 1) := by decide +kernel
theorem dX4_when_85 : decode cX4_when 85 = .ok (.ireturn, 1) := by decide +kernel
theorem dX4_when_86 : decode cX4_when 86 = .ok (.aload_n 0, 1) := by decide +kernel
theorem dX4_when_87 : decode cX4_when 87 = .ok (.getfield 29, 3) := by decide +kernel
theorem dX4_when_90 : decode cX4_when 90 = .ok (.invokevirtual 148, 3) := by decide +kernel
theorem dX4_when_93 : decode cX4_when 93 = .ok (.iinc 3 1, 3) := by decide +kernel
theorem dX4_when_96 : decode cX4_when 96 = .ok (.goto (-57), 3) := by decide +kernel
theorem dX4_when_99 : decode cX4_when 99 = .ok (.ldc 196, 2) := by decide +kernel
theorem dX4_when_101 : decode cX4_when 101 = .ok (.ireturn, 1) := by decide +kernel
theorem dX4_quarrel_0 : decode cX4_quarrel 0 = .ok (.aload_n 0, 1) := by decide +kernel
theorem dX4_quarrel_1 : decode cX4_quarrel 1 = .ok (.getfield 25, 3) := by decide +kernel
theorem dX4_quarrel_4 : decode cX4_quarrel 4 = .ok (.invokevirtual 134, 3) := by decide +kernel
theorem dX4_quarrel_7 : decode cX4_quarrel 7 = .ok (.ifCond .ne 6, 3) := by decide +kernel
theorem dX4_quarrel_10 : decode cX4_quarrel 10 = .ok (.ldc 129, 2) := by decide +kernel
theorem dX4_quarrel_12 : decode cX4_quarrel 12 = .ok (.ireturn, 1) := by decide +kernel
theorem dX4_quarrel_13 : decode cX4_quarrel 13 = .ok (.iload_n 1, 1) := by decide +kernel
theorem dX4_quarrel_14 : decode cX4_quarrel 14 = .ok (.iconst 2, 1) := by decide +kernel
theorem dX4_quarrel_15 : decode cX4_quarrel 15 = .ok (.invokestatic 51, 3) := by decide +kernel
theorem dX4_quarrel_18 : decode cX4_quarrel 18 = .ok (.ifCond .ne 6, 3) := by decide +kernel
theorem dX4_quarrel_21 : decode cX4_quarrel 21 = .ok (.ldc 55, 2) := by decide +kernel
theorem dX4_quarrel_23 : decode cX4_quarrel 23 = .ok (.ireturn, 1) := by decide +kernel
theorem dX4_quarrel_24 : decode cX4_quarrel 24 = .ok (.aload_n 0, 1) := by decide +kernel
theorem dX4_quarrel_25 : decode cX4_quarrel 25 = .ok (.getfield 29, 3) := by decide +kernel
theorem dX4_quarrel_28 : decode cX4_quarrel 28 = .ok (.aload_n 0, 1) := by decide +kernel
theorem dX4_quarrel_29 : decode cX4_quarrel 29 = .ok (.getfield 25, 3) := by decide +kernel
theorem dX4_quarrel_32 : decode cX4_quarrel 32 = .ok (.invokevirtual 116, 3) := by decide +kernel
theorem dX4_quarrel_35 : decode cX4_quarrel 35 = .ok (.iconst 0, 1) := by decide +kernel
theorem dX4_quarrel_36 : decode cX4_quarrel 36 = .ok (.istore_n 2, 1) := by decide +kernel
theorem dX4_quarrel_37 : decode cX4_quarrel 37 = .ok (.iload_n 2, 1) := by decide +kernel
theorem dX4_quarrel_38 : decode cX4_quarrel 38 = .ok (.bipush 60, 2) := by decide +kernel
theorem dX4_quarrel_40 : decode cX4_quarrel 40 = .ok (.if_icmp .gt 42, 3) := by decide +kernel
theorem dX4_quarrel_43 : decode cX4_quarrel 43 = .ok (.aload_n 0, 1) := by decide +kernel
theorem dX4_quarrel_44 : decode cX4_quarrel 44 = .ok (.getfield 29, 3) := by decide +kernel
theorem dX4_quarrel_47 : decode cX4_quarrel 47 = .ok (.iconst 2, 1) := by decide +kernel
theorem dX4_quarrel_48 : decode cX4_quarrel 48 = .ok (.invokevirtual 151, 3) := by decide +kernel
theorem dX4_quarrel_51 : decode cX4_quarrel 51 = .ok (.istore_n 3, 1) := by decide +kernel
theorem dX4_quarrel_52 : decode cX4_quarrel 52 = .ok (.iload_n 3, 1) := by decide +kernel
theorem dX4_quarrel_53 : decode cX4_quarrel 53 = .ok (.ifCond .eq 16, 3) := by decide +kernel
theorem dX4_quarrel_56 : decode cX4_quarrel 56 = .ok (.iload_n 1, 1) := by decide +kernel
theorem dX4_quarrel_57 : decode cX4_quarrel 57 = .ok (.ifCond .ne 7, 3) := by decide +kernel
theorem dX4_quarrel_60 : decode cX4_quarrel 60 = .ok (.iload_n 2, 1) := by decide +kernel
theorem dX4_quarrel_61 : decode cX4_quarrel 61 = .ok (.goto 7, 3) := by decide +kernel
theorem dX4_quarrel_64 : decode cX4_quarrel 64 = .ok (.iload_n 3, 1) := by decide +kernel
theorem dX4_quarrel_65 : decode cX4_quarrel 65 = .ok (.invokestatic 197, 3) := by decide +kernel
theorem dX4_quarrel_68 : decode cX4_quarrel 68 = .ok (.ireturn, 1) := by decide +kernel
theorem dX4_quarrel_69 : decode cX4_quarrel 69 = .ok (.aload_n 0, 1) := by decide +kernel
theorem dX4_quarrel_70 : decode cX4_quarrel 70 = .ok (.getfield 29, 3) := by decide +kernel
theorem dX4_quarrel_73 : decode cX4_quarrel 73 = .ok (.invokevirtual 148, 3) := by decide +kernel
theorem dX4_quarrel_76 : decode cX4_quarrel 76 = .ok (.iinc 2 1, 3) := by decide +kernel
theorem dX4_quarrel_79 : decode cX4_quarrel 79 = .ok (.goto (-42), 3) := by decide +kernel
theorem dX4_quarrel_82 : decode cX4_quarrel 82 = .ok (.ldc 196, 2) := by decide +kernel
theorem dX4_quarrel_84 : decode cX4_quarrel 84 = .ok (.ireturn, 1) := by decide +kernel
theorem dX4_pours_0 : decode cX4_pours 0 = .ok (.iload_n 1, 1) := by decide +kernel
theorem dX4_pours_1 : decode cX4_pours 1 = .ok (.aload_n 0, 1) := by decide +kernel
theorem dX4_pours_2 : decode cX4_pours 2 = .ok (.getfield 25, 3) := by decide +kernel
theorem dX4_pours_5 : decode cX4_pours 5 = .ok (.getfield 123, 3) := by decide +kernel
theorem dX4_pours_8 : decode cX4_pours 8 = .ok (.invokestatic 51, 3) := by decide +kernel
theorem dX4_pours_11 : decode cX4_pours 11 = .ok (.ifCond .eq 13, 3) := by decide +kernel
theorem dX4_pours_14 : decode cX4_pours 14 = .ok (.iload_n 2, 1) := by decide +kernel
theorem dX4_pours_15 : decode cX4_pours 15 = .ok (.iconst 0, 1) := by decide +kernel
theorem dX4_pours_16 : decode cX4_pours 16 = .ok (.bipush 30, 2) := by decide +kernel
theorem dX4_pours_18 : decode cX4_pours 18 = .ok (.invokestatic 138, 3) := by decide +kernel
theorem dX4_pours_21 : decode cX4_pours 21 = .ok (.ifCond .ne 6, 3) := by decide +kernel
theorem dX4_pours_24 : decode cX4_pours 24 = .ok (.ldc 55, 2) := by decide +kernel
theorem dX4_pours_26 : decode cX4_pours 26 = .ok (.ireturn, 1) := by decide +kernel
theorem dX4_pours_27 : decode cX4_pours 27 = .ok (.iconst 0, 1) := by decide +kernel
theorem dX4_pours_28 : decode cX4_pours 28 = .ok (.istore_n 3, 1) := by decide +kernel
theorem dX4_pours_29 : decode cX4_pours 29 = .ok (.iload_n 3, 1) := by decide +kernel
theorem dX4_pours_30 : decode cX4_pours 30 = .ok (.bipush 60, 2) := by decide +kernel
theorem dX4_pours_32 : decode cX4_pours 32 = .ok (.if_icmp .gt 54, 3) := by decide +kernel
theorem dX4_pours_35 : decode cX4_pours 35 = .ok (.aload_n 0, 1) := by decide +kernel
theorem dX4_pours_36 : decode cX4_pours 36 = .ok (.getfield 29, 3) := by decide +kernel
theorem dX4_pours_39 : decode cX4_pours 39 = .ok (.aload_n 0, 1) := by decide +kernel
theorem dX4_pours_40 : decode cX4_pours 40 = .ok (.getfield 25, 3) := by decide +kernel
theorem dX4_pours_43 : decode cX4_pours 43 = .ok (.iload_n 1, 1) := by decide +kernel
theorem dX4_pours_44 : decode cX4_pours 44 = .ok (.invokevirtual 185, 3) := by decide +kernel
theorem dX4_pours_47 : decode cX4_pours 47 = .ok (.aload_n 0, 1) := by decide +kernel
theorem dX4_pours_48 : decode cX4_pours 48 = .ok (.getfield 29, 3) := by decide +kernel
theorem dX4_pours_51 : decode cX4_pours 51 = .ok (.iload_n 3, 1) := by decide +kernel
theorem dX4_pours_52 : decode cX4_pours 52 = .ok (.invokevirtual 154, 3) := by decide +kernel
theorem dX4_pours_55 : decode cX4_pours 55 = .ok (.aload_n 0, 1) := by decide +kernel
theorem dX4_pours_56 : decode cX4_pours 56 = .ok (.getfield 29, 3) := by decide +kernel
theorem dX4_pours_59 : decode cX4_pours 59 = .ok (.iload_n 2, 1) := by decide +kernel
theorem dX4_pours_60 : decode cX4_pours 60 = .ok (.invokevirtual 189, 3) := by decide +kernel
theorem dX4_pours_63 : decode cX4_pours 63 = .ok (.aload_n 0, 1) := by decide +kernel
theorem dX4_pours_64 : decode cX4_pours 64 = .ok (.getfield 29, 3) := by decide +kernel
theorem dX4_pours_67 : decode cX4_pours 67 = .ok (.iconst 0, 1) := by decide +kernel
theorem dX4_pours_68 : decode cX4_pours 68 = .ok (.invokevirtual 176, 3) := by decide +kernel
theorem dX4_pours_71 : decode cX4_pours 71 = .ok (.iconst 1, 1) := by decide +kernel
theorem dX4_pours_72 : decode cX4_pours 72 = .ok (.invokestatic 202, 3) := by decide +kernel
theorem dX4_pours_75 : decode cX4_pours 75 = .ok (.ifCond .eq 5, 3) := by decide +kernel
theorem dX4_pours_78 : decode cX4_pours 78 = .ok (.iload_n 3, 1) := by decide +kernel
theorem dX4_pours_79 : decode cX4_pours 79 = .ok (.ireturn, 1) := by decide +kernel
theorem dX4_pours_80 : decode cX4_pours 80 = .ok (.iinc 3 1, 3) := by decide +kernel
theorem dX4_pours_83 : decode cX4_pours 83 = .ok (.goto (-54), 3) := by decide +kernel
theorem dX4_pours_86 : decode cX4_pours 86 = .ok (.ldc 196, 2) := by decide +kernel
theorem dX4_pours_88 : decode cX4_pours 88 = .ok (.ireturn, 1) := by decide +kernel
theorem dX4_lift_0 : decode cX4_lift 0 = .ok (.aload_n 0, 1) := by decide +kernel
theorem dX4_lift_1 : decode cX4_lift 1 = .ok (.getfield 25, 3) := by decide +kernel
theorem dX4_lift_4 : decode cX4_lift 4 = .ok (.invokevirtual 134, 3) := by decide +kernel
theorem dX4_lift_7 : decode cX4_lift 7 = .ok (.ifCond .ne 6, 3) := by decide +kernel
theorem dX4_lift_10 : decode cX4_lift 10 = .ok (.ldc 129, 2) := by decide +kernel
theorem dX4_lift_12 : decode cX4_lift 12 = .ok (.ireturn, 1) := by decide +kernel
theorem dX4_lift_13 : decode cX4_lift 13 = .ok (.iload_n 1, 1) := by decide +kernel
theorem dX4_lift_14 : decode cX4_lift 14 = .ok (.iconst 1, 1) := by decide +kernel
theorem dX4_lift_15 : decode cX4_lift 15 = .ok (.bipush 30, 2) := by decide +kernel
theorem dX4_lift_17 : decode cX4_lift 17 = .ok (.invokestatic 138, 3) := by decide +kernel
theorem dX4_lift_20 : decode cX4_lift 20 = .ok (.ifCond .eq 11, 3) := by decide +kernel
theorem dX4_lift_23 : decode cX4_lift 23 = .ok (.iload_n 2, 1) := by decide +kernel
theorem dX4_lift_24 : decode cX4_lift 24 = .ok (.iconst 2, 1) := by decide +kernel
theorem dX4_lift_25 : decode cX4_lift 25 = .ok (.invokestatic 51, 3) := by decide +kernel
theorem dX4_lift_28 : decode cX4_lift 28 = .ok (.ifCond .ne 6, 3) := by decide +kernel
theorem dX4_lift_31 : decode cX4_lift 31 = .ok (.ldc 55, 2) := by decide +kernel
theorem dX4_lift_33 : decode cX4_lift 33 = .ok (.ireturn, 1) := by decide +kernel
theorem dX4_lift_34 : decode cX4_lift 34 = .ok (.iconst 0, 1) := by decide +kernel
theorem dX4_lift_35 : decode cX4_lift 35 = .ok (.istore_n 3, 1) := by decide +kernel
theorem dX4_lift_36 : decode cX4_lift 36 = .ok (.aload_n 0, 1) := by decide +kernel
theorem dX4_lift_37 : decode cX4_lift 37 = .ok (.iconst 0, 1) := by decide +kernel
theorem dX4_lift_38 : decode cX4_lift 38 = .ok (.iload_n 1, 1) := by decide +kernel
theorem dX4_lift_39 : decode cX4_lift 39 = .ok (.invokevirtual 205, 3) := by decide +kernel
theorem dX4_lift_42 : decode cX4_lift 42 = .ok (.istore 4, 2) := by decide +kernel
theorem dX4_lift_44 : decode cX4_lift 44 = .ok (.iconst 1, 1) := by decide +kernel
theorem dX4_lift_45 : decode cX4_lift 45 = .ok (.istore 5, 2) := by decide +kernel
theorem dX4_lift_47 : decode cX4_lift 47 = .ok (.iload 5, 2) := by decide +kernel
theorem dX4_lift_49 : decode cX4_lift 49 = .ok (.aload_n 0, 1) := by decide +kernel
theorem dX4_lift_50 : decode cX4_lift 50 = .ok (.getfield 25, 3) := by decide +kernel
theorem dX4_lift_53 : decode cX4_lift 53 = .ok (.getfield 161, 3) := by decide +kernel
theorem dX4_lift_56 : decode cX4_lift 56 = .ok (.if_icmp .ge 32, 3) := by decide +kernel
theorem dX4_lift_59 : decode cX4_lift 59 = .ok (.aload_n 0, 1) := by decide +kernel
theorem dX4_lift_60 : decode cX4_lift 60 = .ok (.iload 5, 2) := by decide +kernel
theorem dX4_lift_62 : decode cX4_lift 62 = .ok (.iload_n 1, 1) := by decide +kernel
theorem dX4_lift_63 : decode cX4_lift 63 = .ok (.invokevirtual 205, 3) := by decide +kernel
theorem dX4_lift_66 : decode cX4_lift 66 = .ok (.istore 6, 2) := by decide +kernel
theorem dX4_lift_68 : decode cX4_lift 68 = .ok (.iload 6, 2) := by decide +kernel
theorem dX4_lift_70 : decode cX4_lift 70 = .ok (.iload 4, 2) := by decide +kernel
theorem dX4_lift_72 : decode cX4_lift 72 = .ok (.if_icmp .ge 10, 3) := by decide +kernel
theorem dX4_lift_75 : decode cX4_lift 75 = .ok (.iload 5, 2) := by decide +kernel
theorem dX4_lift_77 : decode cX4_lift 77 = .ok (.istore_n 3, 1) := by decide +kernel
theorem dX4_lift_78 : decode cX4_lift 78 = .ok (.iload 6, 2) := by decide +kernel
theorem dX4_lift_80 : decode cX4_lift 80 = .ok (.istore 4, 2) := by decide +kernel
theorem dX4_lift_82 : decode cX4_lift 82 = .ok (.iinc 5 1, 3) := by decide +kernel
theorem dX4_lift_85 : decode cX4_lift 85 = .ok (.goto (-38), 3) := by decide +kernel
theorem dX4_lift_88 : decode cX4_lift 88 = .ok (.iload_n 2, 1) := by decide +kernel
theorem dX4_lift_89 : decode cX4_lift 89 = .ok (.ifCond .ne 7, 3) := by decide +kernel
theorem dX4_lift_92 : decode cX4_lift 92 = .ok (.iload_n 3, 1) := by decide +kernel
theorem dX4_lift_93 : decode cX4_lift 93 = .ok (.goto 5, 3) := by decide +kernel
theorem dX4_lift_96 : decode cX4_lift 96 = .ok (.iload 4, 2) := by decide +kernel
theorem dX4_lift_98 : decode cX4_lift 98 = .ok (.ireturn, 1) := by decide +kernel
theorem dX4_sent_0 : decode cX4_sent 0 = .ok (.aload_n 0, 1) := by decide +kernel
theorem dX4_sent_1 : decode cX4_sent 1 = .ok (.getfield 25, 3) := by decide +kernel
theorem dX4_sent_4 : decode cX4_sent 4 = .ok (.invokevirtual 134, 3) := by decide +kernel
theorem dX4_sent_7 : decode cX4_sent 7 = .ok (.ifCond .ne 6, 3) := by decide +kernel
theorem dX4_sent_10 : decode cX4_sent 10 = .ok (.ldc 129, 2) := by decide +kernel
theorem dX4_sent_12 : decode cX4_sent 12 = .ok (.ireturn, 1) := by decide +kernel
theorem dX4_sent_13 : decode cX4_sent 13 = .ok (.iload_n 1, 1) := by decide +kernel
theorem dX4_sent_14 : decode cX4_sent 14 = .ok (.iconst 1, 1) := by decide +kernel
theorem dX4_sent_15 : decode cX4_sent 15 = .ok (.bipush 30, 2) := by decide +kernel
theorem dX4_sent_17 : decode cX4_sent 17 = .ok (.invokestatic 138, 3) := by decide +kernel
theorem dX4_sent_20 : decode cX4_sent 20 = .ok (.ifCond .eq 11, 3) := by decide +kernel
theorem dX4_sent_23 : decode cX4_sent 23 = .ok (.iload_n 2, 1) := by decide +kernel
theorem dX4_sent_24 : decode cX4_sent 24 = .ok (.iconst 2, 1) := by decide +kernel
theorem dX4_sent_25 : decode cX4_sent 25 = .ok (.invokestatic 51, 3) := by decide +kernel
theorem dX4_sent_28 : decode cX4_sent 28 = .ok (.ifCond .ne 6, 3) := by decide +kernel
theorem dX4_sent_31 : decode cX4_sent 31 = .ok (.ldc 55, 2) := by decide +kernel
theorem dX4_sent_33 : decode cX4_sent 33 = .ok (.ireturn, 1) := by decide +kernel
theorem dX4_sent_34 : decode cX4_sent 34 = .ok (.iconst 0, 1) := by decide +kernel
theorem dX4_sent_35 : decode cX4_sent 35 = .ok (.istore_n 3, 1) := by decide +kernel
theorem dX4_sent_36 : decode cX4_sent 36 = .ok (.aload_n 0, 1) := by decide +kernel
theorem dX4_sent_37 : decode cX4_sent 37 = .ok (.getfield 29, 3) := by decide +kernel
theorem dX4_sent_40 : decode cX4_sent 40 = .ok (.aload_n 0, 1) := by decide +kernel
theorem dX4_sent_41 : decode cX4_sent 41 = .ok (.getfield 25, 3) := by decide +kernel
theorem dX4_sent_44 : decode cX4_sent 44 = .ok (.invokevirtual 116, 3) := by decide +kernel
theorem dX4_sent_47 : decode cX4_sent 47 = .ok (.iconst 0, 1) := by decide +kernel
theorem dX4_sent_48 : decode cX4_sent 48 = .ok (.istore 4, 2) := by decide +kernel
theorem dX4_sent_50 : decode cX4_sent 50 = .ok (.iload 4, 2) := by decide +kernel
theorem dX4_sent_52 : decode cX4_sent 52 = .ok (.iload_n 1, 1) := by decide +kernel
theorem dX4_sent_53 : decode cX4_sent 53 = .ok (.if_icmp .ge 27, 3) := by decide +kernel
theorem dX4_sent_56 : decode cX4_sent 56 = .ok (.aload_n 0, 1) := by decide +kernel
theorem dX4_sent_57 : decode cX4_sent 57 = .ok (.getfield 29, 3) := by decide +kernel
theorem dX4_sent_60 : decode cX4_sent 60 = .ok (.invokevirtual 148, 3) := by decide +kernel
theorem dX4_sent_63 : decode cX4_sent 63 = .ok (.iload_n 3, 1) := by decide +kernel
theorem dX4_sent_64 : decode cX4_sent 64 = .ok (.aload_n 0, 1) := by decide +kernel
theorem dX4_sent_65 : decode cX4_sent 65 = .ok (.getfield 29, 3) := by decide +kernel
theorem dX4_sent_68 : decode cX4_sent 68 = .ok (.iconst 2, 1) := by decide +kernel
theorem dX4_sent_69 : decode cX4_sent 69 = .ok (.invokevirtual 151, 3) := by decide +kernel
theorem dX4_sent_72 : decode cX4_sent 72 = .ok (.ior, 1) := by decide +kernel
theorem dX4_sent_73 : decode cX4_sent 73 = .ok (.istore_n 3, 1) := by decide +kernel
theorem dX4_sent_74 : decode cX4_sent 74 = .ok (.iinc 4 1, 3) := by decide +kernel
theorem dX4_sent_77 : decode cX4_sent 77 = .ok (.goto (-27), 3) := by decide +kernel
theorem dX4_sent_80 : decode cX4_sent 80 = .ok (.iload_n 2, 1) := by decide +kernel
theorem dX4_sent_81 : decode cX4_sent 81 = .ok (.ifCond .ne 10, 3) := by decide +kernel
theorem dX4_sent_84 : decode cX4_sent 84 = .ok (.iload_n 3, 1) := by decide +kernel
theorem dX4_sent_85 : decode cX4_sent 85 = .ok (.invokestatic 208, 3) := by decide +kernel
theorem dX4_sent_88 : decode cX4_sent 88 = .ok (.goto 4, 3) := by decide +kernel
theorem dX4_sent_91 : decode cX4_sent 91 = .ok (.iload_n 3, 1) := by decide +kernel
theorem dX4_sent_92 : decode cX4_sent 92 = .ok (.ireturn, 1) := by decide +kernel
theorem dX4_share_0 : decode cX4_share 0 = .ok (.iload_n 1, 1) := by decide +kernel
theorem dX4_share_1 : decode cX4_share 1 = .ok (.aload_n 0, 1) := by decide +kernel
theorem dX4_share_2 : decode cX4_share 2 = .ok (.getfield 25, 3) := by decide +kernel
theorem dX4_share_5 : decode cX4_share 5 = .ok (.getfield 161, 3) := by decide +kernel
theorem dX4_share_8 : decode cX4_share 8 = .ok (.invokestatic 51, 3) := by decide +kernel
theorem dX4_share_11 : decode cX4_share 11 = .ok (.ifCond .eq 14, 3) := by decide +kernel
theorem dX4_share_14 : decode cX4_share 14 = .ok (.iload_n 2, 1) := by decide +kernel
theorem dX4_share_15 : decode cX4_share 15 = .ok (.iconst 0, 1) := by decide +kernel
theorem dX4_share_16 : decode cX4_share 16 = .ok (.sipush 999, 3) := by decide +kernel
theorem dX4_share_19 : decode cX4_share 19 = .ok (.invokestatic 138, 3) := by decide +kernel
theorem dX4_share_22 : decode cX4_share 22 = .ok (.ifCond .ne 6, 3) := by decide +kernel
theorem dX4_share_25 : decode cX4_share 25 = .ok (.ldc 55, 2) := by decide +kernel
theorem dX4_share_27 : decode cX4_share 27 = .ok (.ireturn, 1) := by decide +kernel
theorem dX4_share_28 : decode cX4_share 28 = .ok (.aload_n 0, 1) := by decide +kernel
theorem dX4_share_29 : decode cX4_share 29 = .ok (.getfield 25, 3) := by decide +kernel
theorem dX4_share_32 : decode cX4_share 32 = .ok (.invokevirtual 211, 3) := by decide +kernel
theorem dX4_share_35 : decode cX4_share 35 = .ok (.istore_n 3, 1) := by decide +kernel
theorem dX4_share_36 : decode cX4_share 36 = .ok (.iload_n 3, 1) := by decide +kernel
theorem dX4_share_37 : decode cX4_share 37 = .ok (.iconst 1, 1) := by decide +kernel
theorem dX4_share_38 : decode cX4_share 38 = .ok (.if_icmp .lt 15, 3) := by decide +kernel
theorem dX4_share_41 : decode cX4_share 41 = .ok (.aload_n 0, 1) := by decide +kernel
theorem dX4_share_42 : decode cX4_share 42 = .ok (.getfield 25, 3) := by decide +kernel
theorem dX4_share_45 : decode cX4_share 45 = .ok (.getfield 164, 3) := by decide +kernel
theorem dX4_share_48 : decode cX4_share 48 = .ok (.iload_n 1, 1) := by decide +kernel
theorem dX4_share_49 : decode cX4_share 49 = .ok (.iaload, 1) := by decide +kernel
theorem dX4_share_50 : decode cX4_share 50 = .ok (.ifCond .ne 5, 3) := by decide +kernel
theorem dX4_share_53 : decode cX4_share 53 = .ok (.iconst 0, 1) := by decide +kernel
theorem dX4_share_54 : decode cX4_share 54 = .ok (.ireturn, 1) := by decide +kernel
theorem dX4_share_55 : decode cX4_share 55 = .ok (.iload_n 2, 1) := by decide +kernel
theorem dX4_share_56 : decode cX4_share 56 = .ok (.istore 4, 2) := by decide +kernel
theorem dX4_share_58 : decode cX4_share 58 = .ok (.iconst 0, 1) := by decide +kernel
theorem dX4_share_59 : decode cX4_share 59 = .ok (.istore 5, 2) := by decide +kernel
theorem dX4_share_61 : decode cX4_share 61 = .ok (.iconst 0, 1) := by decide +kernel
theorem dX4_share_62 : decode cX4_share 62 = .ok (.istore 6, 2) := by decide +kernel
theorem dX4_share_64 : decode cX4_share 64 = .ok (.iload 6, 2) := by decide +kernel
theorem dX4_share_66 : decode cX4_share 66 = .ok (.aload_n 0, 1) := by decide +kernel
theorem dX4_share_67 : decode cX4_share 67 = .ok (.getfield 25, 3) := by decide +kernel
theorem dX4_share_70 : decode cX4_share 70 = .ok (.getfield 161, 3) := by decide +kernel
theorem dX4_share_73 : decode cX4_share 73 = .ok (.if_icmp .ge 50, 3) := by decide +kernel
theorem dX4_share_76 : decode cX4_share 76 = .ok (.iload 4, 2) := by decide +kernel
theorem dX4_share_78 : decode cX4_share 78 = .ok (.iload_n 2, 1) := by decide +kernel
theorem dX4_share_79 : decode cX4_share 79 = .ok (.aload_n 0, 1) := by decide +kernel
theorem dX4_share_80 : decode cX4_share 80 = .ok (.getfield 25, 3) := by decide +kernel
theorem dX4_share_83 : decode cX4_share 83 = .ok (.getfield 164, 3) := by decide +kernel
theorem dX4_share_86 : decode cX4_share 86 = .ok (.iload 6, 2) := by decide +kernel
theorem dX4_share_88 : decode cX4_share 88 = .ok (.iaload, 1) := by decide +kernel
theorem dX4_share_89 : decode cX4_share 89 = .ok (.imul, 1) := by decide +kernel
theorem dX4_share_90 : decode cX4_share 90 = .ok (.iload_n 3, 1) := by decide +kernel
theorem dX4_share_91 : decode cX4_share 91 = .ok (.idiv, 1) := by decide +kernel
theorem dX4_share_92 : decode cX4_share 92 = .ok (.isub, 1) := by decide +kernel
theorem dX4_share_93 : decode cX4_share 93 = .ok (.istore 4, 2) := by decide +kernel
theorem dX4_share_95 : decode cX4_share 95 = .ok (.iload 6, 2) := by decide +kernel
theorem dX4_share_97 : decode cX4_share 97 = .ok (.iload_n 1, 1) := by decide +kernel
theorem dX4_share_98 : decode cX4_share 98 = .ok (.if_icmp .ge 19, 3) := by decide +kernel
theorem dX4_share_101 : decode cX4_share 101 = .ok (.aload_n 0, 1) := by decide +kernel
theorem dX4_share_102 : decode cX4_share 102 = .ok (.getfield 25, 3) := by decide +kernel
theorem dX4_share_105 : decode cX4_share 105 = .ok (.getfield 164, 3) := by decide +kernel
theorem dX4_share_108 : decode cX4_share 108 = .ok (.iload 6, 2) := by decide +kernel
theorem dX4_share_110 : decode cX4_share 110 = .ok (.iaload, 1) := by decide +kernel
theorem dX4_share_111 : decode cX4_share 111 = .ok (.ifCond .le 6, 3) := by decide +kernel
theorem dX4_share_114 : decode cX4_share 114 = .ok (.iinc 5 1, 3) := by decide +kernel
theorem dX4_share_117 : decode cX4_share 117 = .ok (.iinc 6 1, 3) := by decide +kernel
theorem dX4_share_120 : decode cX4_share 120 = .ok (.goto (-56), 3) := by decide +kernel
theorem dX4_share_123 : decode cX4_share 123 = .ok (.iload_n 2, 1) := by decide +kernel
theorem dX4_share_124 : decode cX4_share 124 = .ok (.aload_n 0, 1) := by decide +kernel
theorem dX4_share_125 : decode cX4_share 125 = .ok (.getfield 25, 3) := by decide +kernel
theorem dX4_share_128 : decode cX4_share 128 = .ok (.getfield 164, 3) := by decide +kernel
theorem dX4_share_131 : decode cX4_share 131 = .ok (.iload_n 1, 1) := by decide +kernel
theorem dX4_share_132 : decode cX4_share 132 = .ok (.iaload, 1) := by decide +kernel
theorem dX4_share_133 : decode cX4_share 133 = .ok (.imul, 1) := by decide +kernel
theorem dX4_share_134 : decode cX4_share 134 = .ok (.iload_n 3, 1) := by decide +kernel
theorem dX4_share_135 : decode cX4_share 135 = .ok (.idiv, 1) := by decide +kernel
theorem dX4_share_136 : decode cX4_share 136 = .ok (.istore 6, 2) := by decide +kernel
theorem dX4_share_138 : decode cX4_share 138 = .ok (.iload 5, 2) := by decide +kernel
theorem dX4_share_140 : decode cX4_share 140 = .ok (.iload 4, 2) := by decide +kernel
theorem dX4_share_142 : decode cX4_share 142 = .ok (.if_icmp .ge 10, 3) := by decide +kernel
theorem dX4_share_145 : decode cX4_share 145 = .ok (.iload 6, 2) := by decide +kernel
theorem dX4_share_147 : decode cX4_share 147 = .ok (.iconst 1, 1) := by decide +kernel
theorem dX4_share_148 : decode cX4_share 148 = .ok (.iadd, 1) := by decide +kernel
theorem dX4_share_149 : decode cX4_share 149 = .ok (.goto 5, 3) := by decide +kernel
theorem dX4_share_152 : decode cX4_share 152 = .ok (.iload 6, 2) := by decide +kernel
theorem dX4_share_154 : decode cX4_share 154 = .ok (.ireturn, 1) := by decide +kernel
theorem dX4_byTurns_0 : decode cX4_byTurns 0 = .ok (.aload_n 0, 1) := by decide +kernel
theorem dX4_byTurns_1 : decode cX4_byTurns 1 = .ok (.getfield 25, 3) := by decide +kernel
theorem dX4_byTurns_4 : decode cX4_byTurns 4 = .ok (.invokevirtual 134, 3) := by decide +kernel
theorem dX4_byTurns_7 : decode cX4_byTurns 7 = .ok (.ifCond .ne 6, 3) := by decide +kernel
theorem dX4_byTurns_10 : decode cX4_byTurns 10 = .ok (.ldc 129, 2) := by decide +kernel
theorem dX4_byTurns_12 : decode cX4_byTurns 12 = .ok (.ireturn, 1) := by decide +kernel
theorem dX4_byTurns_13 : decode cX4_byTurns 13 = .ok (.iload_n 1, 1) := by decide +kernel
theorem dX4_byTurns_14 : decode cX4_byTurns 14 = .ok (.iconst 0, 1) := by decide +kernel
theorem dX4_byTurns_15 : decode cX4_byTurns 15 = .ok (.iconst 4, 1) := by decide +kernel
theorem dX4_byTurns_16 : decode cX4_byTurns 16 = .ok (.invokestatic 138, 3) := by decide +kernel
theorem dX4_byTurns_19 : decode cX4_byTurns 19 = .ok (.ifCond .eq 13, 3) := by decide +kernel
theorem dX4_byTurns_22 : decode cX4_byTurns 22 = .ok (.iload_n 2, 1) := by decide +kernel
theorem dX4_byTurns_23 : decode cX4_byTurns 23 = .ok (.iconst 1, 1) := by decide +kernel
theorem dX4_byTurns_24 : decode cX4_byTurns 24 = .ok (.bipush 20, 2) := by decide +kernel
theorem dX4_byTurns_26 : decode cX4_byTurns 26 = .ok (.invokestatic 138, 3) := by decide +kernel
theorem dX4_byTurns_29 : decode cX4_byTurns 29 = .ok (.ifCond .ne 6, 3) := by decide +kernel
theorem dX4_byTurns_32 : decode cX4_byTurns 32 = .ok (.ldc 55, 2) := by decide +kernel
theorem dX4_byTurns_34 : decode cX4_byTurns 34 = .ok (.ireturn, 1) := by decide +kernel
theorem dX4_byTurns_35 : decode cX4_byTurns 35 = .ok (.aload_n 0, 1) := by decide +kernel
theorem dX4_byTurns_36 : decode cX4_byTurns 36 = .ok (.getfield 32, 3) := by decide +kernel
theorem dX4_byTurns_39 : decode cX4_byTurns 39 = .ok (.aload_n 0, 1) := by decide +kernel
theorem dX4_byTurns_40 : decode cX4_byTurns 40 = .ok (.getfield 25, 3) := by decide +kernel
theorem dX4_byTurns_43 : decode cX4_byTurns 43 = .ok (.invokevirtual 116, 3) := by decide +kernel
theorem dX4_byTurns_46 : decode cX4_byTurns 46 = .ok (.aload_n 0, 1) := by decide +kernel
theorem dX4_byTurns_47 : decode cX4_byTurns 47 = .ok (.iload_n 1, 1) := by decide +kernel
theorem dX4_byTurns_48 : decode cX4_byTurns 48 = .ok (.iconst 1, 1) := by decide +kernel
theorem dX4_byTurns_49 : decode cX4_byTurns 49 = .ok (.iload_n 2, 1) := by decide +kernel
theorem dX4_byTurns_50 : decode cX4_byTurns 50 = .ok (.invokevirtual 215, 3) := by decide +kernel
theorem dX4_byTurns_53 : decode cX4_byTurns 53 = .ok (.ireturn, 1) := by decide +kernel
theorem dX4_who_0 : decode cX4_who 0 = .ok (.iload_n 1, 1) := by decide +kernel
theorem dX4_who_1 : decode cX4_who 1 = .ok (.aload_n 0, 1) := by decide +kernel
theorem dX4_who_2 : decode cX4_who 2 = .ok (.getfield 25, 3) := by decide +kernel
theorem dX4_who_5 : decode cX4_who 5 = .ok (.getfield 123, 3) := by decide +kernel
theorem dX4_who_8 : decode cX4_who 8 = .ok (.invokestatic 51, 3) := by decide +kernel
theorem dX4_who_11 : decode cX4_who 11 = .ok (.ifCond .eq 20, 3) := by decide +kernel
theorem dX4_who_14 : decode cX4_who 14 = .ok (.iload_n 2, 1) := by decide +kernel
theorem dX4_who_15 : decode cX4_who 15 = .ok (.iconst 2, 1) := by decide +kernel
theorem dX4_who_16 : decode cX4_who 16 = .ok (.invokestatic 51, 3) := by decide +kernel
theorem dX4_who_19 : decode cX4_who 19 = .ok (.ifCond .eq 12, 3) := by decide +kernel
theorem dX4_who_22 : decode cX4_who 22 = .ok (.iload_n 3, 1) := by decide +kernel
theorem dX4_who_23 : decode cX4_who 23 = .ok (.iload 5, 2) := by decide +kernel
theorem dX4_who_25 : decode cX4_who 25 = .ok (.invokestatic 219, 3) := by decide +kernel
theorem dX4_who_28 : decode cX4_who 28 = .ok (.ifCond .ne 6, 3) := by decide +kernel
theorem dX4_who_31 : decode cX4_who 31 = .ok (.ldc 55, 2) := by decide +kernel
theorem dX4_who_33 : decode cX4_who 33 = .ok (.ireturn, 1) := by decide +kernel
theorem dX4_who_34 : decode cX4_who 34 = .ok (.aload_n 0, 1) := by decide +kernel
theorem dX4_who_35 : decode cX4_who 35 = .ok (.getfield 11, 3) := by decide +kernel
theorem dX4_who_38 : decode cX4_who 38 = .ok (.iload_n 3, 1) := by decide +kernel
theorem dX4_who_39 : decode cX4_who 39 = .ok (.aaload, 1) := by decide +kernel
theorem dX4_who_40 : decode cX4_who 40 = .ok (.astore 6, 2) := by decide +kernel
theorem dX4_who_42 : decode cX4_who 42 = .ok (.aload 6, 2) := by decide +kernel
theorem dX4_who_44 : decode cX4_who 44 = .ok (.iload 4, 2) := by decide +kernel
theorem dX4_who_46 : decode cX4_who 46 = .ok (.iload 5, 2) := by decide +kernel
theorem dX4_who_48 : decode cX4_who 48 = .ok (.invokevirtual 67, 3) := by decide +kernel
theorem dX4_who_51 : decode cX4_who 51 = .ok (.istore 7, 2) := by decide +kernel
theorem dX4_who_53 : decode cX4_who 53 = .ok (.iload 7, 2) := by decide +kernel
theorem dX4_who_55 : decode cX4_who 55 = .ok (.ifCond .eq 10, 3) := by decide +kernel
theorem dX4_who_58 : decode cX4_who 58 = .ok (.aload_n 0, 1) := by decide +kernel
theorem dX4_who_59 : decode cX4_who 59 = .ok (.iload 7, 2) := by decide +kernel
theorem dX4_who_61 : decode cX4_who 61 = .ok (.invokevirtual 56, 3) := by decide +kernel
theorem dX4_who_64 : decode cX4_who 64 = .ok (.ireturn, 1) := by decide +kernel
theorem dX4_who_65 : decode cX4_who 65 = .ok (.aload_n 0, 1) := by decide +kernel
theorem dX4_who_66 : decode cX4_who 66 = .ok (.iload_n 2, 1) := by decide +kernel
theorem dX4_who_67 : decode cX4_who 67 = .ok (.ifCond .ne 17, 3) := by decide +kernel
theorem dX4_who_70 : decode cX4_who 70 = .ok (.aload_n 0, 1) := by decide +kernel
theorem dX4_who_71 : decode cX4_who 71 = .ok (.iload_n 1, 1) := by decide +kernel
theorem dX4_who_72 : decode cX4_who 72 = .ok (.aload 6, 2) := by decide +kernel
theorem dX4_who_74 : decode cX4_who 74 = .ok (.iload 4, 2) := by decide +kernel
theorem dX4_who_76 : decode cX4_who 76 = .ok (.iload 5, 2) := by decide +kernel
theorem dX4_who_78 : decode cX4_who 78 = .ok (.invokevirtual 222, 3) := by decide +kernel
theorem dX4_who_81 : decode cX4_who 81 = .ok (.goto 14, 3) := by decide +kernel
theorem dX4_who_84 : decode cX4_who 84 = .ok (.aload_n 0, 1) := by decide +kernel
theorem dX4_who_85 : decode cX4_who 85 = .ok (.iload_n 1, 1) := by decide +kernel
theorem dX4_who_86 : decode cX4_who 86 = .ok (.aload 6, 2) := by decide +kernel
theorem dX4_who_88 : decode cX4_who 88 = .ok (.iload 4, 2) := by decide +kernel
theorem dX4_who_90 : decode cX4_who 90 = .ok (.iload 5, 2) := by decide +kernel
theorem dX4_who_92 : decode cX4_who 92 = .ok (.invokevirtual 226, 3) := by decide +kernel
theorem dX4_who_95 : decode cX4_who 95 = .ok (.invokevirtual 64, 3) := by decide +kernel
theorem dX4_who_98 : decode cX4_who 98 = .ok (.ireturn, 1) := by decide +kernel
theorem dX4_fogs_0 : decode cX4_fogs 0 = .ok (.iload_n 1, 1) := by decide +kernel
theorem dX4_fogs_1 : decode cX4_fogs 1 = .ok (.aload_n 0, 1) := by decide +kernel
theorem dX4_fogs_2 : decode cX4_fogs 2 = .ok (.getfield 25, 3) := by decide +kernel
theorem dX4_fogs_5 : decode cX4_fogs 5 = .ok (.getfield 161, 3) := by decide +kernel
theorem dX4_fogs_8 : decode cX4_fogs 8 = .ok (.invokestatic 51, 3) := by decide +kernel
theorem dX4_fogs_11 : decode cX4_fogs 11 = .ok (.ifCond .eq 26, 3) := by decide +kernel
theorem dX4_fogs_14 : decode cX4_fogs 14 = .ok (.iload_n 2, 1) := by decide +kernel
theorem dX4_fogs_15 : decode cX4_fogs 15 = .ok (.aload_n 0, 1) := by decide +kernel
theorem dX4_fogs_16 : decode cX4_fogs 16 = .ok (.getfield 25, 3) := by decide +kernel
theorem dX4_fogs_19 : decode cX4_fogs 19 = .ok (.getfield 123, 3) := by decide +kernel
theorem dX4_fogs_22 : decode cX4_fogs 22 = .ok (.invokestatic 51, 3) := by decide +kernel
theorem dX4_fogs_25 : decode cX4_fogs 25 = .ok (.ifCond .eq 12, 3) := by decide +kernel
theorem dX4_fogs_28 : decode cX4_fogs 28 = .ok (.iload_n 3, 1) := by decide +kernel
theorem dX4_fogs_29 : decode cX4_fogs 29 = .ok (.iload 5, 2) := by decide +kernel
theorem dX4_fogs_31 : decode cX4_fogs 31 = .ok (.invokestatic 219, 3) := by decide +kernel
theorem dX4_fogs_34 : decode cX4_fogs 34 = .ok (.ifCond .ne 6, 3) := by decide +kernel
theorem dX4_fogs_37 : decode cX4_fogs 37 = .ok (.ldc 55, 2) := by decide +kernel
theorem dX4_fogs_39 : decode cX4_fogs 39 = .ok (.ireturn, 1) := by decide +kernel
theorem dX4_fogs_40 : decode cX4_fogs 40 = .ok (.aload_n 0, 1) := by decide +kernel
theorem dX4_fogs_41 : decode cX4_fogs 41 = .ok (.getfield 11, 3) := by decide +kernel
theorem dX4_fogs_44 : decode cX4_fogs 44 = .ok (.iload_n 3, 1) := by decide +kernel
theorem dX4_fogs_45 : decode cX4_fogs 45 = .ok (.aaload, 1) := by decide +kernel
theorem dX4_fogs_46 : decode cX4_fogs 46 = .ok (.astore 6, 2) := by decide +kernel
theorem dX4_fogs_48 : decode cX4_fogs 48 = .ok (.aload 6, 2) := by decide +kernel
theorem dX4_fogs_50 : decode cX4_fogs 50 = .ok (.iload 4, 2) := by decide +kernel
theorem dX4_fogs_52 : decode cX4_fogs 52 = .ok (.iload 5, 2) := by decide +kernel
theorem dX4_fogs_54 : decode cX4_fogs 54 = .ok (.invokevirtual 67, 3) := by decide +kernel
theorem dX4_fogs_57 : decode cX4_fogs 57 = .ok (.istore 7, 2) := by decide +kernel
theorem dX4_fogs_59 : decode cX4_fogs 59 = .ok (.iload 7, 2) := by decide +kernel
theorem dX4_fogs_61 : decode cX4_fogs 61 = .ok (.ifCond .eq 10, 3) := by decide +kernel
theorem dX4_fogs_64 : decode cX4_fogs 64 = .ok (.aload_n 0, 1) := by decide +kernel
theorem dX4_fogs_65 : decode cX4_fogs 65 = .ok (.iload 7, 2) := by decide +kernel
theorem dX4_fogs_67 : decode cX4_fogs 67 = .ok (.invokevirtual 56, 3) := by decide +kernel
theorem dX4_fogs_70 : decode cX4_fogs 70 = .ok (.ireturn, 1) := by decide +kernel
theorem dX4_fogs_71 : decode cX4_fogs 71 = .ok (.iconst 0, 1) := by decide +kernel
theorem dX4_fogs_72 : decode cX4_fogs 72 = .ok (.istore 8, 2) := by decide +kernel
theorem dX4_fogs_74 : decode cX4_fogs 74 = .ok (.iconst 0, 1) := by decide +kernel
theorem dX4_fogs_75 : decode cX4_fogs 75 = .ok (.istore 9, 2) := by decide +kernel
theorem dX4_fogs_77 : decode cX4_fogs 77 = .ok (.iload 9, 2) := by decide +kernel
theorem dX4_fogs_79 : decode cX4_fogs 79 = .ok (.bipush 9, 2) := by decide +kernel
theorem dX4_fogs_81 : decode cX4_fogs 81 = .ok (.if_icmp .gt 52, 3) := by decide +kernel
theorem dX4_fogs_84 : decode cX4_fogs 84 = .ok (.aload_n 0, 1) := by decide +kernel
theorem dX4_fogs_85 : decode cX4_fogs 85 = .ok (.getfield 29, 3) := by decide +kernel
theorem dX4_fogs_88 : decode cX4_fogs 88 = .ok (.aload_n 0, 1) := by decide +kernel
theorem dX4_fogs_89 : decode cX4_fogs 89 = .ok (.getfield 25, 3) := by decide +kernel
theorem dX4_fogs_92 : decode cX4_fogs 92 = .ok (.iload_n 2, 1) := by decide +kernel
theorem dX4_fogs_93 : decode cX4_fogs 93 = .ok (.invokevirtual 185, 3) := by decide +kernel
theorem dX4_fogs_96 : decode cX4_fogs 96 = .ok (.aload_n 0, 1) := by decide +kernel
theorem dX4_fogs_97 : decode cX4_fogs 97 = .ok (.getfield 29, 3) := by decide +kernel
theorem dX4_fogs_100 : decode cX4_fogs 100 = .ok (.getfield 164, 3) := by decide +kernel
theorem dX4_fogs_103 : decode cX4_fogs 103 = .ok (.iload_n 1, 1) := by decide +kernel
theorem dX4_fogs_104 : decode cX4_fogs 104 = .ok (.iload 9, 2) := by decide +kernel
theorem dX4_fogs_106 : decode cX4_fogs 106 = .ok (.iastore, 1) := by decide +kernel
theorem dX4_fogs_107 : decode cX4_fogs 107 = .ok (.iload 8, 2) := by decide +kernel
theorem dX4_fogs_109 : decode cX4_fogs 109 = .ok (.aload_n 0, 1) := by decide +kernel
theorem dX4_fogs_110 : decode cX4_fogs 110 = .ok (.aload 6, 2) := by decide +kernel
theorem dX4_fogs_112 : decode cX4_fogs 112 = .ok (.iload 4, 2) := by decide +kernel
theorem dX4_fogs_114 : decode cX4_fogs 114 = .ok (.iload 5, 2) := by decide +kernel
theorem dX4_fogs_116 : decode cX4_fogs 116 = .ok (.invokevirtual 229, 3) := by decide +kernel
theorem dX4_fogs_119 : decode cX4_fogs 119 = .ok (.iload 9, 2) := by decide +kernel
theorem dX4_fogs_121 : decode cX4_fogs 121 = .ok (.invokestatic 233, 3) := by decide +kernel
theorem dX4_fogs_124 : decode cX4_fogs 124 = .ok (.ior, 1) := by decide +kernel
theorem dX4_fogs_125 : decode cX4_fogs 125 = .ok (.istore 8, 2) := by decide +kernel
theorem dX4_fogs_127 : decode cX4_fogs 127 = .ok (.iinc 9 1, 3) := by decide +kernel
theorem dX4_fogs_130 : decode cX4_fogs 130 = .ok (.goto (-53), 3) := by decide +kernel
theorem dX4_fogs_133 : decode cX4_fogs 133 = .ok (.aload_n 0, 1) := by decide +kernel
theorem dX4_fogs_134 : decode cX4_fogs 134 = .ok (.iload 8, 2) := by decide +kernel
theorem dX4_fogs_136 : decode cX4_fogs 136 = .ok (.invokevirtual 64, 3) := by decide +kernel
theorem dX4_fogs_139 : decode cX4_fogs 139 = .ok (.ireturn, 1) := by decide +kernel
theorem dX4_sights_0 : decode cX4_sights 0 = .ok (.iload_n 1, 1) := by decide +kernel
theorem dX4_sights_1 : decode cX4_sights 1 = .ok (.aload_n 0, 1) := by decide +kernel
theorem dX4_sights_2 : decode cX4_sights 2 = .ok (.getfield 25, 3) := by decide +kernel
theorem dX4_sights_5 : decode cX4_sights 5 = .ok (.getfield 123, 3) := by decide +kernel
theorem dX4_sights_8 : decode cX4_sights 8 = .ok (.invokestatic 51, 3) := by decide +kernel
theorem dX4_sights_11 : decode cX4_sights 11 = .ok (.ifCond .eq 20, 3) := by decide +kernel
theorem dX4_sights_14 : decode cX4_sights 14 = .ok (.iload_n 2, 1) := by decide +kernel
theorem dX4_sights_15 : decode cX4_sights 15 = .ok (.iconst 3, 1) := by decide +kernel
theorem dX4_sights_16 : decode cX4_sights 16 = .ok (.invokestatic 51, 3) := by decide +kernel
theorem dX4_sights_19 : decode cX4_sights 19 = .ok (.ifCond .eq 12, 3) := by decide +kernel
theorem dX4_sights_22 : decode cX4_sights 22 = .ok (.iload_n 3, 1) := by decide +kernel
theorem dX4_sights_23 : decode cX4_sights 23 = .ok (.iload 5, 2) := by decide +kernel
theorem dX4_sights_25 : decode cX4_sights 25 = .ok (.invokestatic 219, 3) := by decide +kernel
theorem dX4_sights_28 : decode cX4_sights 28 = .ok (.ifCond .ne 6, 3) := by decide +kernel
theorem dX4_sights_31 : decode cX4_sights 31 = .ok (.ldc 55, 2) := by decide +kernel
theorem dX4_sights_33 : decode cX4_sights 33 = .ok (.ireturn, 1) := by decide +kernel
theorem dX4_sights_34 : decode cX4_sights 34 = .ok (.aload_n 0, 1) := by decide +kernel
theorem dX4_sights_35 : decode cX4_sights 35 = .ok (.getfield 11, 3) := by decide +kernel
theorem dX4_sights_38 : decode cX4_sights 38 = .ok (.iload_n 3, 1) := by decide +kernel
theorem dX4_sights_39 : decode cX4_sights 39 = .ok (.aaload, 1) := by decide +kernel
theorem dX4_sights_40 : decode cX4_sights 40 = .ok (.astore 6, 2) := by decide +kernel
theorem dX4_sights_42 : decode cX4_sights 42 = .ok (.aload 6, 2) := by decide +kernel
theorem dX4_sights_44 : decode cX4_sights 44 = .ok (.iload 4, 2) := by decide +kernel
theorem dX4_sights_46 : decode cX4_sights 46 = .ok (.iload 5, 2) := by decide +kernel
theorem dX4_sights_48 : decode cX4_sights 48 = .ok (.invokevirtual 67, 3) := by decide +kernel
theorem dX4_sights_51 : decode cX4_sights 51 = .ok (.istore 7, 2) := by decide +kernel
theorem dX4_sights_53 : decode cX4_sights 53 = .ok (.iload 7, 2) := by decide +kernel
theorem dX4_sights_55 : decode cX4_sights 55 = .ok (.ifCond .eq 10, 3) := by decide +kernel
theorem dX4_sights_58 : decode cX4_sights 58 = .ok (.aload_n 0, 1) := by decide +kernel
theorem dX4_sights_59 : decode cX4_sights 59 = .ok (.iload 7, 2) := by decide +kernel
theorem dX4_sights_61 : decode cX4_sights 61 = .ok (.invokevirtual 56, 3) := by decide +kernel
theorem dX4_sights_64 : decode cX4_sights 64 = .ok (.ireturn, 1) := by decide +kernel
theorem dX4_sights_65 : decode cX4_sights 65 = .ok (.aload_n 0, 1) := by decide +kernel
theorem dX4_sights_66 : decode cX4_sights 66 = .ok (.iload_n 2, 1) := by decide +kernel
theorem dX4_sights_67 : decode cX4_sights 67 = .ok (.ifCond .ne 17, 3) := by decide +kernel
theorem dX4_sights_70 : decode cX4_sights 70 = .ok (.aload_n 0, 1) := by decide +kernel
theorem dX4_sights_71 : decode cX4_sights 71 = .ok (.iload_n 1, 1) := by decide +kernel
theorem dX4_sights_72 : decode cX4_sights 72 = .ok (.aload 6, 2) := by decide +kernel
theorem dX4_sights_74 : decode cX4_sights 74 = .ok (.iload 4, 2) := by decide +kernel
theorem dX4_sights_76 : decode cX4_sights 76 = .ok (.iload 5, 2) := by decide +kernel
theorem dX4_sights_78 : decode cX4_sights 78 = .ok (.invokevirtual 237, 3) := by decide +kernel
theorem dX4_sights_81 : decode cX4_sights 81 = .ok (.goto 15, 3) := by decide +kernel
theorem dX4_sights_84 : decode cX4_sights 84 = .ok (.aload_n 0, 1) := by decide +kernel
theorem dX4_sights_85 : decode cX4_sights 85 = .ok (.iload_n 1, 1) := by decide +kernel
theorem dX4_sights_86 : decode cX4_sights 86 = .ok (.iload_n 2, 1) := by decide +kernel
theorem dX4_sights_87 : decode cX4_sights 87 = .ok (.aload 6, 2) := by decide +kernel
theorem dX4_sights_89 : decode cX4_sights 89 = .ok (.iload 4, 2) := by decide +kernel
theorem dX4_sights_91 : decode cX4_sights 91 = .ok (.iload 5, 2) := by decide +kernel
theorem dX4_sights_93 : decode cX4_sights 93 = .ok (.invokevirtual 240, 3) := by decide +kernel
theorem dX4_sights_96 : decode cX4_sights 96 = .ok (.invokevirtual 64, 3) := by decide +kernel
theorem dX4_sights_99 : decode cX4_sights 99 = .ok (.ireturn, 1) := by decide +kernel
theorem dX4_fair_0 : decode cX4_fair 0 = .ok (.aload_n 0, 1) := by decide +kernel
theorem dX4_fair_1 : decode cX4_fair 1 = .ok (.getfield 25, 3) := by decide +kernel
theorem dX4_fair_4 : decode cX4_fair 4 = .ok (.invokevirtual 134, 3) := by decide +kernel
theorem dX4_fair_7 : decode cX4_fair 7 = .ok (.ifCond .ne 7, 3) := by decide +kernel
theorem dX4_fair_10 : decode cX4_fair 10 = .ok (.ldc2_w 244, 3) := by decide +kernel
theorem dX4_fair_13 : decode cX4_fair 13 = .ok (.lreturn, 1) := by decide +kernel
theorem dX4_fair_14 : decode cX4_fair 14 = .ok (.iload_n 1, 1) := by decide +kernel
theorem dX4_fair_15 : decode cX4_fair 15 = .ok (.iconst 0, 1) := by decide +kernel
theorem dX4_fair_16 : decode cX4_fair 16 = .ok (.bipush 60, 2) := by decide +kernel
theorem dX4_fair_18 : decode cX4_fair 18 = .ok (.invokestatic 138, 3) := by decide +kernel
theorem dX4_fair_21 : decode cX4_fair 21 = .ok (.ifCond .eq 21, 3) := by decide +kernel
theorem dX4_fair_24 : decode cX4_fair 24 = .ok (.iload_n 2, 1) := by decide +kernel
theorem dX4_fair_25 : decode cX4_fair 25 = .ok (.iconst 0, 1) := by decide +kernel
theorem dX4_fair_26 : decode cX4_fair 26 = .ok (.bipush 10, 2) := by decide +kernel
theorem dX4_fair_28 : decode cX4_fair 28 = .ok (.invokestatic 138, 3) := by decide +kernel
theorem dX4_fair_31 : decode cX4_fair 31 = .ok (.ifCond .eq 11, 3) := by decide +kernel
theorem dX4_fair_34 : decode cX4_fair 34 = .ok (.iload_n 3, 1) := by decide +kernel
theorem dX4_fair_35 : decode cX4_fair 35 = .ok (.iconst 2, 1) := by decide +kernel
theorem dX4_fair_36 : decode cX4_fair 36 = .ok (.invokestatic 51, 3) := by decide +kernel
theorem dX4_fair_39 : decode cX4_fair 39 = .ok (.ifCond .ne 7, 3) := by decide +kernel
theorem dX4_fair_42 : decode cX4_fair 42 = .ok (.ldc2_w 246, 3) := by decide +kernel
theorem dX4_fair_45 : decode cX4_fair 45 = .ok (.lreturn, 1) := by decide +kernel
theorem dX4_fair_46 : decode cX4_fair 46 = .ok (.aload_n 0, 1) := by decide +kernel
theorem dX4_fair_47 : decode cX4_fair 47 = .ok (.getfield 32, 3) := by decide +kernel
theorem dX4_fair_50 : decode cX4_fair 50 = .ok (.aload_n 0, 1) := by decide +kernel
theorem dX4_fair_51 : decode cX4_fair 51 = .ok (.getfield 25, 3) := by decide +kernel
theorem dX4_fair_54 : decode cX4_fair 54 = .ok (.invokevirtual 116, 3) := by decide +kernel
theorem dX4_fair_57 : decode cX4_fair 57 = .ok (.aload_n 0, 1) := by decide +kernel
theorem dX4_fair_58 : decode cX4_fair 58 = .ok (.getfield 32, 3) := by decide +kernel
theorem dX4_fair_61 : decode cX4_fair 61 = .ok (.iload_n 1, 1) := by decide +kernel
theorem dX4_fair_62 : decode cX4_fair 62 = .ok (.invokevirtual 189, 3) := by decide +kernel
theorem dX4_fair_65 : decode cX4_fair 65 = .ok (.lconst 0, 1) := by decide +kernel
theorem dX4_fair_66 : decode cX4_fair 66 = .ok (.lstore 4, 2) := by decide +kernel
theorem dX4_fair_68 : decode cX4_fair 68 = .ok (.iconst 0, 1) := by decide +kernel
theorem dX4_fair_69 : decode cX4_fair 69 = .ok (.istore 6, 2) := by decide +kernel
theorem dX4_fair_71 : decode cX4_fair 71 = .ok (.iload 6, 2) := by decide +kernel
theorem dX4_fair_73 : decode cX4_fair 73 = .ok (.iconst 1, 1) := by decide +kernel
theorem dX4_fair_74 : decode cX4_fair 74 = .ok (.aload_n 0, 1) := by decide +kernel
theorem dX4_fair_75 : decode cX4_fair 75 = .ok (.getfield 25, 3) := by decide +kernel
theorem dX4_fair_78 : decode cX4_fair 78 = .ok (.getfield 161, 3) := by decide +kernel
theorem dX4_fair_81 : decode cX4_fair 81 = .ok (.ishl, 1) := by decide +kernel
theorem dX4_fair_82 : decode cX4_fair 82 = .ok (.if_icmp .ge 31, 3) := by decide +kernel
theorem dX4_fair_85 : decode cX4_fair 85 = .ok (.aload_n 0, 1) := by decide +kernel
theorem dX4_fair_86 : decode cX4_fair 86 = .ok (.iload 6, 2) := by decide +kernel
theorem dX4_fair_88 : decode cX4_fair 88 = .ok (.iload_n 1, 1) := by decide +kernel
theorem dX4_fair_89 : decode cX4_fair 89 = .ok (.invokevirtual 248, 3) := by decide +kernel
theorem dX4_fair_92 : decode cX4_fair 92 = .ok (.ifCond .eq 15, 3) := by decide +kernel
theorem dX4_fair_95 : decode cX4_fair 95 = .ok (.lload 4, 2) := by decide +kernel
theorem dX4_fair_97 : decode cX4_fair 97 = .ok (.aload_n 0, 1) := by decide +kernel
theorem dX4_fair_98 : decode cX4_fair 98 = .ok (.iload 6, 2) := by decide +kernel
theorem dX4_fair_100 : decode cX4_fair 100 = .ok (.iload_n 2, 1) := by decide +kernel
theorem dX4_fair_101 : decode cX4_fair 101 = .ok (.invokevirtual 251, 3) := by decide +kernel
theorem dX4_fair_104 : decode cX4_fair 104 = .ok (.ladd, 1) := by decide +kernel
theorem dX4_fair_105 : decode cX4_fair 105 = .ok (.lstore 4, 2) := by decide +kernel
theorem dX4_fair_107 : decode cX4_fair 107 = .ok (.iinc 6 1, 3) := by decide +kernel
theorem dX4_fair_110 : decode cX4_fair 110 = .ok (.goto (-39), 3) := by decide +kernel
theorem dX4_fair_113 : decode cX4_fair 113 = .ok (.lconst 1, 1) := by decide +kernel
theorem dX4_fair_114 : decode cX4_fair 114 = .ok (.lstore 6, 2) := by decide +kernel
theorem dX4_fair_116 : decode cX4_fair 116 = .ok (.iconst 0, 1) := by decide +kernel
theorem dX4_fair_117 : decode cX4_fair 117 = .ok (.istore 8, 2) := by decide +kernel
theorem dX4_fair_119 : decode cX4_fair 119 = .ok (.iload 8, 2) := by decide +kernel
theorem dX4_fair_121 : decode cX4_fair 121 = .ok (.aload_n 0, 1) := by decide +kernel
theorem dX4_fair_122 : decode cX4_fair 122 = .ok (.getfield 25, 3) := by decide +kernel
theorem dX4_fair_125 : decode cX4_fair 125 = .ok (.getfield 161, 3) := by decide +kernel
theorem dX4_fair_128 : decode cX4_fair 128 = .ok (.if_icmp .ge 17, 3) := by decide +kernel
theorem dX4_fair_131 : decode cX4_fair 131 = .ok (.lload 6, 2) := by decide +kernel
theorem dX4_fair_133 : decode cX4_fair 133 = .ok (.ldc2_w 255, 3) := by decide +kernel
theorem dX4_fair_136 : decode cX4_fair 136 = .ok (.lmul, 1) := by decide +kernel
theorem dX4_fair_137 : decode cX4_fair 137 = .ok (.lstore 6, 2) := by decide +kernel
theorem dX4_fair_139 : decode cX4_fair 139 = .ok (.iinc 8 1, 3) := by decide +kernel
theorem dX4_fair_142 : decode cX4_fair 142 = .ok (.goto (-23), 3) := by decide +kernel
theorem dX4_fair_145 : decode cX4_fair 145 = .ok (.lconst 1, 1) := by decide +kernel
theorem dX4_fair_146 : decode cX4_fair 146 = .ok (.lload 6, 2) := by decide +kernel
theorem dX4_fair_148 : decode cX4_fair 148 = .ok (.lload 4, 2) := by decide +kernel
theorem dX4_fair_150 : decode cX4_fair 150 = .ok (.invokestatic 257, 3) := by decide +kernel
theorem dX4_fair_153 : decode cX4_fair 153 = .ok (.invokestatic 261, 3) := by decide +kernel
theorem dX4_fair_156 : decode cX4_fair 156 = .ok (.lstore 8, 2) := by decide +kernel
theorem dX4_fair_158 : decode cX4_fair 158 = .ok (.iload_n 3, 1) := by decide +kernel
theorem dX4_fair_159 : decode cX4_fair 159 = .ok (.ifCond .ne 11, 3) := by decide +kernel
theorem dX4_fair_162 : decode cX4_fair 162 = .ok (.lload 4, 2) := by decide +kernel
theorem dX4_fair_164 : decode cX4_fair 164 = .ok (.lload 8, 2) := by decide +kernel
theorem dX4_fair_166 : decode cX4_fair 166 = .ok (.ldiv, 1) := by decide +kernel
theorem dX4_fair_167 : decode cX4_fair 167 = .ok (.goto 8, 3) := by decide +kernel
theorem dX4_fair_170 : decode cX4_fair 170 = .ok (.lload 6, 2) := by decide +kernel
theorem dX4_fair_172 : decode cX4_fair 172 = .ok (.lload 8, 2) := by decide +kernel
theorem dX4_fair_174 : decode cX4_fair 174 = .ok (.ldiv, 1) := by decide +kernel
theorem dX4_fair_175 : decode cX4_fair 175 = .ok (.lreturn, 1) := by decide +kernel
theorem dX4_drawn_0 : decode cX4_drawn 0 = .ok (.aload_n 0, 1) := by decide +kernel
theorem dX4_drawn_1 : decode cX4_drawn 1 = .ok (.getfield 25, 3) := by decide +kernel
theorem dX4_drawn_4 : decode cX4_drawn 4 = .ok (.invokevirtual 134, 3) := by decide +kernel
theorem dX4_drawn_7 : decode cX4_drawn 7 = .ok (.ifCond .ne 6, 3) := by decide +kernel
theorem dX4_drawn_10 : decode cX4_drawn 10 = .ok (.ldc 129, 2) := by decide +kernel
theorem dX4_drawn_12 : decode cX4_drawn 12 = .ok (.ireturn, 1) := by decide +kernel
theorem dX4_drawn_13 : decode cX4_drawn 13 = .ok (.iload_n 1, 1) := by decide +kernel
theorem dX4_drawn_14 : decode cX4_drawn 14 = .ok (.iconst 0, 1) := by decide +kernel
theorem dX4_drawn_15 : decode cX4_drawn 15 = .ok (.bipush 60, 2) := by decide +kernel
theorem dX4_drawn_17 : decode cX4_drawn 17 = .ok (.invokestatic 138, 3) := by decide +kernel
theorem dX4_drawn_20 : decode cX4_drawn 20 = .ok (.ifCond .eq 22, 3) := by decide +kernel
theorem dX4_drawn_23 : decode cX4_drawn 23 = .ok (.iload_n 2, 1) := by decide +kernel
theorem dX4_drawn_24 : decode cX4_drawn 24 = .ok (.iconst 1, 1) := by decide +kernel
theorem dX4_drawn_25 : decode cX4_drawn 25 = .ok (.ldc_w 266, 3) := by decide +kernel
theorem dX4_drawn_28 : decode cX4_drawn 28 = .ok (.invokestatic 138, 3) := by decide +kernel
theorem dX4_drawn_31 : decode cX4_drawn 31 = .ok (.ifCond .eq 11, 3) := by decide +kernel
theorem dX4_drawn_34 : decode cX4_drawn 34 = .ok (.iload_n 3, 1) := by decide +kernel
theorem dX4_drawn_35 : decode cX4_drawn 35 = .ok (.iconst 2, 1) := by decide +kernel
theorem dX4_drawn_36 : decode cX4_drawn 36 = .ok (.invokestatic 51, 3) := by decide +kernel
theorem dX4_drawn_39 : decode cX4_drawn 39 = .ok (.ifCond .ne 6, 3) := by decide +kernel
theorem dX4_drawn_42 : decode cX4_drawn 42 = .ok (.ldc 55, 2) := by decide +kernel
theorem dX4_drawn_44 : decode cX4_drawn 44 = .ok (.ireturn, 1) := by decide +kernel
theorem dX4_drawn_45 : decode cX4_drawn 45 = .ok (.aload_n 0, 1) := by decide +kernel
theorem dX4_drawn_46 : decode cX4_drawn 46 = .ok (.getfield 29, 3) := by decide +kernel
theorem dX4_drawn_49 : decode cX4_drawn 49 = .ok (.aload_n 0, 1) := by decide +kernel
theorem dX4_drawn_50 : decode cX4_drawn 50 = .ok (.getfield 25, 3) := by decide +kernel
theorem dX4_drawn_53 : decode cX4_drawn 53 = .ok (.invokevirtual 116, 3) := by decide +kernel
theorem dX4_drawn_56 : decode cX4_drawn 56 = .ok (.iconst 0, 1) := by decide +kernel
theorem dX4_drawn_57 : decode cX4_drawn 57 = .ok (.istore 4, 2) := by decide +kernel
theorem dX4_drawn_59 : decode cX4_drawn 59 = .ok (.iload_n 2, 1) := by decide +kernel
theorem dX4_drawn_60 : decode cX4_drawn 60 = .ok (.i2l, 1) := by decide +kernel
theorem dX4_drawn_61 : decode cX4_drawn 61 = .ok (.lstore 5, 2) := by decide +kernel
theorem dX4_drawn_63 : decode cX4_drawn 63 = .ok (.iconst 0, 1) := by decide +kernel
theorem dX4_drawn_64 : decode cX4_drawn 64 = .ok (.istore 7, 2) := by decide +kernel
theorem dX4_drawn_66 : decode cX4_drawn 66 = .ok (.iload 7, 2) := by decide +kernel
theorem dX4_drawn_68 : decode cX4_drawn 68 = .ok (.iload_n 1, 1) := by decide +kernel
theorem dX4_drawn_69 : decode cX4_drawn 69 = .ok (.if_icmp .ge 53, 3) := by decide +kernel
theorem dX4_drawn_72 : decode cX4_drawn 72 = .ok (.lload 5, 2) := by decide +kernel
theorem dX4_drawn_74 : decode cX4_drawn 74 = .ok (.ldc2_w 267, 3) := by decide +kernel
theorem dX4_drawn_77 : decode cX4_drawn 77 = .ok (.lmul, 1) := by decide +kernel
theorem dX4_drawn_78 : decode cX4_drawn 78 = .ok (.ldc2_w 269, 3) := by decide +kernel
theorem dX4_drawn_81 : decode cX4_drawn 81 = .ok (.lrem, 1) := by decide +kernel
theorem dX4_drawn_82 : decode cX4_drawn 82 = .ok (.lstore 5, 2) := by decide +kernel
theorem dX4_drawn_84 : decode cX4_drawn 84 = .ok (.aload_n 0, 1) := by decide +kernel
theorem dX4_drawn_85 : decode cX4_drawn 85 = .ok (.getfield 29, 3) := by decide +kernel
theorem dX4_drawn_88 : decode cX4_drawn 88 = .ok (.lload 5, 2) := by decide +kernel
theorem dX4_drawn_90 : decode cX4_drawn 90 = .ok (.invokevirtual 271, 3) := by decide +kernel
theorem dX4_drawn_93 : decode cX4_drawn 93 = .ok (.aload_n 0, 1) := by decide +kernel
theorem dX4_drawn_94 : decode cX4_drawn 94 = .ok (.getfield 29, 3) := by decide +kernel
theorem dX4_drawn_97 : decode cX4_drawn 97 = .ok (.invokevirtual 148, 3) := by decide +kernel
theorem dX4_drawn_100 : decode cX4_drawn 100 = .ok (.iload 4, 2) := by decide +kernel
theorem dX4_drawn_102 : decode cX4_drawn 102 = .ok (.aload_n 0, 1) := by decide +kernel
theorem dX4_drawn_103 : decode cX4_drawn 103 = .ok (.getfield 29, 3) := by decide +kernel
theorem dX4_drawn_106 : decode cX4_drawn 106 = .ok (.iconst 2, 1) := by decide +kernel
theorem dX4_drawn_107 : decode cX4_drawn 107 = .ok (.invokevirtual 151, 3) := by decide +kernel
theorem dX4_drawn_110 : decode cX4_drawn 110 = .ok (.invokestatic 208, 3) := by decide +kernel
theorem dX4_drawn_113 : decode cX4_drawn 113 = .ok (.iadd, 1) := by decide +kernel
theorem dX4_drawn_114 : decode cX4_drawn 114 = .ok (.istore 4, 2) := by decide +kernel
theorem dX4_drawn_116 : decode cX4_drawn 116 = .ok (.iinc 7 1, 3) := by decide +kernel
theorem dX4_drawn_119 : decode cX4_drawn 119 = .ok (.goto (-53), 3) := by decide +kernel
theorem dX4_drawn_122 : decode cX4_drawn 122 = .ok (.iload_n 3, 1) := by decide +kernel
theorem dX4_drawn_123 : decode cX4_drawn 123 = .ok (.ifCond .ne 8, 3) := by decide +kernel
theorem dX4_drawn_126 : decode cX4_drawn 126 = .ok (.iload 4, 2) := by decide +kernel
theorem dX4_drawn_128 : decode cX4_drawn 128 = .ok (.goto 10, 3) := by decide +kernel
theorem dX4_drawn_131 : decode cX4_drawn 131 = .ok (.aload_n 0, 1) := by decide +kernel
theorem dX4_drawn_132 : decode cX4_drawn 132 = .ok (.getfield 29, 3) := by decide +kernel
theorem dX4_drawn_135 : decode cX4_drawn 135 = .ok (.getfield 158, 3) := by decide +kernel
theorem dX4_drawn_138 : decode cX4_drawn 138 = .ok (.ireturn, 1) := by decide +kernel
theorem dX4_image_0 : decode cX4_image 0 = .ok (.iload_n 1, 1) := by decide +kernel
theorem dX4_image_1 : decode cX4_image 1 = .ok (.iconst 2, 1) := by decide +kernel
theorem dX4_image_2 : decode cX4_image 2 = .ok (.invokestatic 51, 3) := by decide +kernel
theorem dX4_image_5 : decode cX4_image 5 = .ok (.ifCond .ne 6, 3) := by decide +kernel
theorem dX4_image_8 : decode cX4_image 8 = .ok (.ldc 55, 2) := by decide +kernel
theorem dX4_image_10 : decode cX4_image 10 = .ok (.ireturn, 1) := by decide +kernel
theorem dX4_image_11 : decode cX4_image 11 = .ok (.aload_n 0, 1) := by decide +kernel
theorem dX4_image_12 : decode cX4_image 12 = .ok (.getfield 25, 3) := by decide +kernel
theorem dX4_image_15 : decode cX4_image 15 = .ok (.invokevirtual 134, 3) := by decide +kernel
theorem dX4_image_18 : decode cX4_image 18 = .ok (.ifCond .ne 6, 3) := by decide +kernel
theorem dX4_image_21 : decode cX4_image 21 = .ok (.ldc 129, 2) := by decide +kernel
theorem dX4_image_23 : decode cX4_image 23 = .ok (.ireturn, 1) := by decide +kernel
theorem dX4_image_24 : decode cX4_image 24 = .ok (.aload_n 0, 1) := by decide +kernel
theorem dX4_image_25 : decode cX4_image 25 = .ok (.getfield 42, 3) := by decide +kernel
theorem dX4_image_28 : decode cX4_image 28 = .ok (.iload_n 1, 1) := by decide +kernel
theorem dX4_image_29 : decode cX4_image 29 = .ok (.aaload, 1) := by decide +kernel
theorem dX4_image_30 : decode cX4_image 30 = .ok (.aload_n 0, 1) := by decide +kernel
theorem dX4_image_31 : decode cX4_image 31 = .ok (.getfield 25, 3) := by decide +kernel
theorem dX4_image_34 : decode cX4_image 34 = .ok (.invokevirtual 116, 3) := by decide +kernel
theorem dX4_image_37 : decode cX4_image 37 = .ok (.iconst 1, 1) := by decide +kernel
theorem dX4_image_38 : decode cX4_image 38 = .ok (.ireturn, 1) := by decide +kernel
theorem dX4_restore_0 : decode cX4_restore 0 = .ok (.iload_n 1, 1) := by decide +kernel
theorem dX4_restore_1 : decode cX4_restore 1 = .ok (.iconst 2, 1) := by decide +kernel
theorem dX4_restore_2 : decode cX4_restore 2 = .ok (.invokestatic 51, 3) := by decide +kernel
theorem dX4_restore_5 : decode cX4_restore 5 = .ok (.ifCond .ne 6, 3) := by decide +kernel
theorem dX4_restore_8 : decode cX4_restore 8 = .ok (.ldc 55, 2) := by decide +kernel
theorem dX4_restore_10 : decode cX4_restore 10 = .ok (.ireturn, 1) := by decide +kernel
theorem dX4_restore_11 : decode cX4_restore 11 = .ok (.aload_n 0, 1) := by decide +kernel
theorem dX4_restore_12 : decode cX4_restore 12 = .ok (.getfield 42, 3) := by decide +kernel
theorem dX4_restore_15 : decode cX4_restore 15 = .ok (.iload_n 1, 1) := by decide +kernel
theorem dX4_restore_16 : decode cX4_restore 16 = .ok (.aaload, 1) := by decide +kernel
theorem dX4_restore_17 : decode cX4_restore 17 = .ok (.invokevirtual 134, 3) := by decide +kernel
theorem dX4_restore_20 : decode cX4_restore 20 = .ok (.ifCond .ne 6, 3) := by decide +kernel
theorem dX4_restore_23 : decode cX4_restore 23 = .ok (.ldc 129, 2) := by decide +kernel
theorem dX4_restore_25 : decode cX4_restore 25 = .ok (.ireturn, 1) := by decide +kernel
theorem dX4_restore_26 : decode cX4_restore 26 = .ok (.aload_n 0, 1) := by decide +kernel
theorem dX4_restore_27 : decode cX4_restore 27 = .ok (.getfield 25, 3) := by decide +kernel
theorem dX4_restore_30 : decode cX4_restore 30 = .ok (.aload_n 0, 1) := by decide +kernel
theorem dX4_restore_31 : decode cX4_restore 31 = .ok (.getfield 42, 3) := by decide +kernel
theorem dX4_restore_34 : decode cX4_restore 34 = .ok (.iload_n 1, 1) := by decide +kernel
theorem dX4_restore_35 : decode cX4_restore 35 = .ok (.aaload, 1) := by decide +kernel
theorem dX4_restore_36 : decode cX4_restore 36 = .ok (.invokevirtual 116, 3) := by decide +kernel
theorem dX4_restore_39 : decode cX4_restore 39 = .ok (.aload_n 0, 1) := by decide +kernel
theorem dX4_restore_40 : decode cX4_restore 40 = .ok (.getfield 38, 3) := by decide +kernel
theorem dX4_restore_43 : decode cX4_restore 43 = .ok (.invokevirtual 120, 3) := by decide +kernel
theorem dX4_restore_46 : decode cX4_restore 46 = .ok (.iconst 1, 1) := by decide +kernel
theorem dX4_restore_47 : decode cX4_restore 47 = .ok (.ireturn, 1) := by decide +kernel
theorem dX4_kind_0 : decode cX4_kind 0 = .ok (.iload_n 1, 1) := by decide +kernel
theorem dX4_kind_1 : decode cX4_kind 1 = .ok (.aload_n 0, 1) := by decide +kernel
theorem dX4_kind_2 : decode cX4_kind 2 = .ok (.getfield 25, 3) := by decide +kernel
theorem dX4_kind_5 : decode cX4_kind 5 = .ok (.getfield 123, 3) := by decide +kernel
theorem dX4_kind_8 : decode cX4_kind 8 = .ok (.invokestatic 51, 3) := by decide +kernel
theorem dX4_kind_11 : decode cX4_kind 11 = .ok (.ifCond .eq 15, 3) := by decide +kernel
theorem dX4_kind_14 : decode cX4_kind 14 = .ok (.aload_n 0, 1) := by decide +kernel
theorem dX4_kind_15 : decode cX4_kind 15 = .ok (.getfield 25, 3) := by decide +kernel
theorem dX4_kind_18 : decode cX4_kind 18 = .ok (.getfield 275, 3) := by decide +kernel
theorem dX4_kind_21 : decode cX4_kind 21 = .ok (.iload_n 1, 1) := by decide +kernel
theorem dX4_kind_22 : decode cX4_kind 22 = .ok (.iaload, 1) := by decide +kernel
theorem dX4_kind_23 : decode cX4_kind 23 = .ok (.goto 5, 3) := by decide +kernel
theorem dX4_kind_26 : decode cX4_kind 26 = .ok (.ldc 55, 2) := by decide +kernel
theorem dX4_kind_28 : decode cX4_kind 28 = .ok (.ireturn, 1) := by decide +kernel
theorem dX4_as_0 : decode cX4_as 0 = .ok (.iload_n 1, 1) := by decide +kernel
theorem dX4_as_1 : decode cX4_as 1 = .ok (.aload_n 0, 1) := by decide +kernel
theorem dX4_as_2 : decode cX4_as 2 = .ok (.getfield 25, 3) := by decide +kernel
theorem dX4_as_5 : decode cX4_as 5 = .ok (.getfield 123, 3) := by decide +kernel
theorem dX4_as_8 : decode cX4_as 8 = .ok (.invokestatic 51, 3) := by decide +kernel
theorem dX4_as_11 : decode cX4_as 11 = .ok (.ifCond .eq 12, 3) := by decide +kernel
theorem dX4_as_14 : decode cX4_as 14 = .ok (.iload_n 2, 1) := by decide +kernel
theorem dX4_as_15 : decode cX4_as 15 = .ok (.bipush 6, 2) := by decide +kernel
theorem dX4_as_17 : decode cX4_as 17 = .ok (.invokestatic 51, 3) := by decide +kernel
theorem dX4_as_20 : decode cX4_as 20 = .ok (.ifCond .ne 6, 3) := by decide +kernel
theorem dX4_as_23 : decode cX4_as 23 = .ok (.ldc 55, 2) := by decide +kernel
theorem dX4_as_25 : decode cX4_as 25 = .ok (.ireturn, 1) := by decide +kernel
theorem dX4_as_26 : decode cX4_as 26 = .ok (.aload_n 0, 1) := by decide +kernel
theorem dX4_as_27 : decode cX4_as 27 = .ok (.getfield 25, 3) := by decide +kernel
theorem dX4_as_30 : decode cX4_as 30 = .ok (.getfield 275, 3) := by decide +kernel
theorem dX4_as_33 : decode cX4_as 33 = .ok (.iload_n 1, 1) := by decide +kernel
theorem dX4_as_34 : decode cX4_as 34 = .ok (.iaload, 1) := by decide +kernel
theorem dX4_as_35 : decode cX4_as 35 = .ok (.iload_n 2, 1) := by decide +kernel
theorem dX4_as_36 : decode cX4_as 36 = .ok (.invokestatic 278, 3) := by decide +kernel
theorem dX4_as_39 : decode cX4_as 39 = .ok (.ifCond .eq 11, 3) := by decide +kernel
theorem dX4_as_42 : decode cX4_as 42 = .ok (.aload_n 0, 1) := by decide +kernel
theorem dX4_as_43 : decode cX4_as 43 = .ok (.iload_n 1, 1) := by decide +kernel
theorem dX4_as_44 : decode cX4_as 44 = .ok (.invokevirtual 64, 3) := by decide +kernel
theorem dX4_as_47 : decode cX4_as 47 = .ok (.goto 8, 3) := by decide +kernel
theorem dX4_as_50 : decode cX4_as 50 = .ok (.aload_n 0, 1) := by decide +kernel
theorem dX4_as_51 : decode cX4_as 51 = .ok (.iconst 3, 1) := by decide +kernel
theorem dX4_as_52 : decode cX4_as 52 = .ok (.invokevirtual 56, 3) := by decide +kernel
theorem dX4_as_55 : decode cX4_as 55 = .ok (.ireturn, 1) := by decide +kernel
theorem dX4_ask_0 : decode cX4_ask 0 = .ok (.iload_n 1, 1) := by decide +kernel
theorem dX4_ask_1 : decode cX4_ask 1 = .ok (.aload_n 0, 1) := by decide +kernel
theorem dX4_ask_2 : decode cX4_ask 2 = .ok (.getfield 25, 3) := by decide +kernel
theorem dX4_ask_5 : decode cX4_ask 5 = .ok (.getfield 123, 3) := by decide +kernel
theorem dX4_ask_8 : decode cX4_ask 8 = .ok (.invokestatic 51, 3) := by decide +kernel
theorem dX4_ask_11 : decode cX4_ask 11 = .ok (.ifCond .eq 11, 3) := by decide +kernel
theorem dX4_ask_14 : decode cX4_ask 14 = .ok (.iload_n 2, 1) := by decide +kernel
theorem dX4_ask_15 : decode cX4_ask 15 = .ok (.iconst 2, 1) := by decide +kernel
theorem dX4_ask_16 : decode cX4_ask 16 = .ok (.invokestatic 51, 3) := by decide +kernel
theorem dX4_ask_19 : decode cX4_ask 19 = .ok (.ifCond .ne 6, 3) := by decide +kernel
theorem dX4_ask_22 : decode cX4_ask 22 = .ok (.ldc 55, 2) := by decide +kernel
theorem dX4_ask_24 : decode cX4_ask 24 = .ok (.ireturn, 1) := by decide +kernel
theorem dX4_ask_25 : decode cX4_ask 25 = .ok (.aload_n 0, 1) := by decide +kernel
theorem dX4_ask_26 : decode cX4_ask 26 = .ok (.iconst 0, 1) := by decide +kernel
theorem dX4_ask_27 : decode cX4_ask 27 = .ok (.putfield 281, 3) := by decide +kernel
theorem dX4_ask_30 : decode cX4_ask 30 = .ok (.aload_n 0, 1) := by decide +kernel
theorem dX4_ask_31 : decode cX4_ask 31 = .ok (.iload_n 2, 1) := by decide +kernel
theorem dX4_ask_32 : decode cX4_ask 32 = .ok (.iload_n 1, 1) := by decide +kernel
theorem dX4_ask_33 : decode cX4_ask 33 = .ok (.iconst 0, 1) := by decide +kernel
theorem dX4_ask_34 : decode cX4_ask 34 = .ok (.invokevirtual 284, 3) := by decide +kernel
theorem dX4_ask_37 : decode cX4_ask 37 = .ok (.ireturn, 1) := by decide +kernel
theorem dX4_trace_0 : decode cX4_trace 0 = .ok (.iload_n 1, 1) := by decide +kernel
theorem dX4_trace_1 : decode cX4_trace 1 = .ok (.aload_n 0, 1) := by decide +kernel
theorem dX4_trace_2 : decode cX4_trace 2 = .ok (.getfield 281, 3) := by decide +kernel
theorem dX4_trace_5 : decode cX4_trace 5 = .ok (.invokestatic 51, 3) := by decide +kernel
theorem dX4_trace_8 : decode cX4_trace 8 = .ok (.ifCond .eq 12, 3) := by decide +kernel
theorem dX4_trace_11 : decode cX4_trace 11 = .ok (.aload_n 0, 1) := by decide +kernel
theorem dX4_trace_12 : decode cX4_trace 12 = .ok (.getfield 46, 3) := by decide +kernel
theorem dX4_trace_15 : decode cX4_trace 15 = .ok (.iload_n 1, 1) := by decide +kernel
theorem dX4_trace_16 : decode cX4_trace 16 = .ok (.iaload, 1) := by decide +kernel
theorem dX4_trace_17 : decode cX4_trace 17 = .ok (.goto 5, 3) := by decide +kernel
theorem dX4_trace_20 : decode cX4_trace 20 = .ok (.ldc 196, 2) := by decide +kernel
theorem dX4_trace_22 : decode cX4_trace 22 = .ok (.ireturn, 1) := by decide +kernel
theorem dX4_count_0 : decode cX4_count 0 = .ok (.iload_n 1, 1) := by decide +kernel
theorem dX4_count_1 : decode cX4_count 1 = .ok (.tableswitch 108 0 7 #[47, 52, 60, 68, 76, 84, 92, 100], 47) := by decide +kernel
theorem dX4_count_48 : decode cX4_count 48 = .ok (.aload_n 0, 1) := by decide +kernel
theorem dX4_count_49 : decode cX4_count 49 = .ok (.invokevirtual 288, 3) := by decide +kernel
theorem dX4_count_52 : decode cX4_count 52 = .ok (.ireturn, 1) := by decide +kernel
theorem dX4_count_53 : decode cX4_count 53 = .ok (.aload_n 0, 1) := by decide +kernel
theorem dX4_count_54 : decode cX4_count 54 = .ok (.getfield 25, 3) := by decide +kernel
theorem dX4_count_57 : decode cX4_count 57 = .ok (.getfield 123, 3) := by decide +kernel
theorem dX4_count_60 : decode cX4_count 60 = .ok (.ireturn, 1) := by decide +kernel
theorem dX4_count_61 : decode cX4_count 61 = .ok (.aload_n 0, 1) := by decide +kernel
theorem dX4_count_62 : decode cX4_count 62 = .ok (.getfield 25, 3) := by decide +kernel
theorem dX4_count_65 : decode cX4_count 65 = .ok (.getfield 161, 3) := by decide +kernel
theorem dX4_count_68 : decode cX4_count 68 = .ok (.ireturn, 1) := by decide +kernel
theorem dX4_count_69 : decode cX4_count 69 = .ok (.aload_n 0, 1) := by decide +kernel
theorem dX4_count_70 : decode cX4_count 70 = .ok (.getfield 25, 3) := by decide +kernel
theorem dX4_count_73 : decode cX4_count 73 = .ok (.getfield 142, 3) := by decide +kernel
theorem dX4_count_76 : decode cX4_count 76 = .ok (.ireturn, 1) := by decide +kernel
theorem dX4_count_77 : decode cX4_count 77 = .ok (.aload_n 0, 1) := by decide +kernel
theorem dX4_count_78 : decode cX4_count 78 = .ok (.getfield 25, 3) := by decide +kernel
theorem dX4_count_81 : decode cX4_count 81 = .ok (.getfield 158, 3) := by decide +kernel
theorem dX4_count_84 : decode cX4_count 84 = .ok (.ireturn, 1) := by decide +kernel
theorem dX4_count_85 : decode cX4_count 85 = .ok (.aload_n 0, 1) := by decide +kernel
theorem dX4_count_86 : decode cX4_count 86 = .ok (.getfield 25, 3) := by decide +kernel
theorem dX4_count_89 : decode cX4_count 89 = .ok (.invokevirtual 291, 3) := by decide +kernel
theorem dX4_count_92 : decode cX4_count 92 = .ok (.ireturn, 1) := by decide +kernel
theorem dX4_count_93 : decode cX4_count 93 = .ok (.aload_n 0, 1) := by decide +kernel
theorem dX4_count_94 : decode cX4_count 94 = .ok (.getfield 38, 3) := by decide +kernel
theorem dX4_count_97 : decode cX4_count 97 = .ok (.getfield 126, 3) := by decide +kernel
theorem dX4_count_100 : decode cX4_count 100 = .ok (.ireturn, 1) := by decide +kernel
theorem dX4_count_101 : decode cX4_count 101 = .ok (.aload_n 0, 1) := by decide +kernel
theorem dX4_count_102 : decode cX4_count 102 = .ok (.getfield 18, 3) := by decide +kernel
theorem dX4_count_105 : decode cX4_count 105 = .ok (.getfield 97, 3) := by decide +kernel
theorem dX4_count_108 : decode cX4_count 108 = .ok (.ireturn, 1) := by decide +kernel
theorem dX4_count_109 : decode cX4_count 109 = .ok (.ldc 55, 2) := by decide +kernel
theorem dX4_count_111 : decode cX4_count 111 = .ok (.ireturn, 1) := by decide +kernel
theorem dX4_status_0 : decode cX4_status 0 = .ok (.aload_n 0, 1) := by decide +kernel
theorem dX4_status_1 : decode cX4_status 1 = .ok (.getfield 294, 3) := by decide +kernel
theorem dX4_status_4 : decode cX4_status 4 = .ok (.ireturn, 1) := by decide +kernel
theorem dX4_isBelow_0 : decode cX4_isBelow 0 = .ok (.iload_n 0, 1) := by decide +kernel
theorem dX4_isBelow_1 : decode cX4_isBelow 1 = .ok (.ifCond .lt 12, 3) := by decide +kernel
theorem dX4_isBelow_4 : decode cX4_isBelow 4 = .ok (.iload_n 0, 1) := by decide +kernel
theorem dX4_isBelow_5 : decode cX4_isBelow 5 = .ok (.iload_n 1, 1) := by decide +kernel
theorem dX4_isBelow_6 : decode cX4_isBelow 6 = .ok (.if_icmp .ge 7, 3) := by decide +kernel
theorem dX4_isBelow_9 : decode cX4_isBelow 9 = .ok (.iconst 1, 1) := by decide +kernel
theorem dX4_isBelow_10 : decode cX4_isBelow 10 = .ok (.goto 4, 3) := by decide +kernel
theorem dX4_isBelow_13 : decode cX4_isBelow 13 = .ok (.iconst 0, 1) := by decide +kernel
theorem dX4_isBelow_14 : decode cX4_isBelow 14 = .ok (.ireturn, 1) := by decide +kernel
theorem dX4_isWithin_0 : decode cX4_isWithin 0 = .ok (.iload_n 0, 1) := by decide +kernel
theorem dX4_isWithin_1 : decode cX4_isWithin 1 = .ok (.iload_n 1, 1) := by decide +kernel
theorem dX4_isWithin_2 : decode cX4_isWithin 2 = .ok (.if_icmp .lt 12, 3) := by decide +kernel
theorem dX4_isWithin_5 : decode cX4_isWithin 5 = .ok (.iload_n 0, 1) := by decide +kernel
theorem dX4_isWithin_6 : decode cX4_isWithin 6 = .ok (.iload_n 2, 1) := by decide +kernel
theorem dX4_isWithin_7 : decode cX4_isWithin 7 = .ok (.if_icmp .gt 7, 3) := by decide +kernel
theorem dX4_isWithin_10 : decode cX4_isWithin 10 = .ok (.iconst 1, 1) := by decide +kernel
theorem dX4_isWithin_11 : decode cX4_isWithin 11 = .ok (.goto 4, 3) := by decide +kernel
theorem dX4_isWithin_14 : decode cX4_isWithin 14 = .ok (.iconst 0, 1) := by decide +kernel
theorem dX4_isWithin_15 : decode cX4_isWithin 15 = .ok (.ireturn, 1) := by decide +kernel
theorem dX4_bitIf_0 : decode cX4_bitIf 0 = .ok (.iload_n 0, 1) := by decide +kernel
theorem dX4_bitIf_1 : decode cX4_bitIf 1 = .ok (.ifCond .eq 9, 3) := by decide +kernel
theorem dX4_bitIf_4 : decode cX4_bitIf 4 = .ok (.iconst 1, 1) := by decide +kernel
theorem dX4_bitIf_5 : decode cX4_bitIf 5 = .ok (.iload_n 1, 1) := by decide +kernel
theorem dX4_bitIf_6 : decode cX4_bitIf 6 = .ok (.ishl, 1) := by decide +kernel
theorem dX4_bitIf_7 : decode cX4_bitIf 7 = .ok (.goto 4, 3) := by decide +kernel
theorem dX4_bitIf_10 : decode cX4_bitIf 10 = .ok (.iconst 0, 1) := by decide +kernel
theorem dX4_bitIf_11 : decode cX4_bitIf 11 = .ok (.ireturn, 1) := by decide +kernel
theorem dX4_isLog_0 : decode cX4_isLog 0 = .ok (.iload_n 0, 1) := by decide +kernel
theorem dX4_isLog_1 : decode cX4_isLog 1 = .ok (.bipush 8, 2) := by decide +kernel
theorem dX4_isLog_3 : decode cX4_isLog 3 = .ok (.invokestatic 51, 3) := by decide +kernel
theorem dX4_isLog_6 : decode cX4_isLog 6 = .ok (.ifCond .eq 17, 3) := by decide +kernel
theorem dX4_isLog_9 : decode cX4_isLog 9 = .ok (.iload_n 1, 1) := by decide +kernel
theorem dX4_isLog_10 : decode cX4_isLog 10 = .ok (.iconst 1, 1) := by decide +kernel
theorem dX4_isLog_11 : decode cX4_isLog 11 = .ok (.bipush 12, 2) := by decide +kernel
theorem dX4_isLog_13 : decode cX4_isLog 13 = .ok (.invokestatic 138, 3) := by decide +kernel
theorem dX4_isLog_16 : decode cX4_isLog 16 = .ok (.ifCond .eq 7, 3) := by decide +kernel
theorem dX4_isLog_19 : decode cX4_isLog 19 = .ok (.iconst 1, 1) := by decide +kernel
theorem dX4_isLog_20 : decode cX4_isLog 20 = .ok (.goto 4, 3) := by decide +kernel
theorem dX4_isLog_23 : decode cX4_isLog 23 = .ok (.iconst 0, 1) := by decide +kernel
theorem dX4_isLog_24 : decode cX4_isLog 24 = .ok (.ireturn, 1) := by decide +kernel
theorem dX4_found_0 : decode cX4_found 0 = .ok (.aload_n 0, 1) := by decide +kernel
theorem dX4_found_1 : decode cX4_found 1 = .ok (.iload_n 1, 1) := by decide +kernel
theorem dX4_found_2 : decode cX4_found 2 = .ok (.putfield 294, 3) := by decide +kernel
theorem dX4_found_5 : decode cX4_found 5 = .ok (.ldc_w 297, 3) := by decide +kernel
theorem dX4_found_8 : decode cX4_found 8 = .ok (.iload_n 1, 1) := by decide +kernel
theorem dX4_found_9 : decode cX4_found 9 = .ok (.isub, 1) := by decide +kernel
theorem dX4_found_10 : decode cX4_found 10 = .ok (.ireturn, 1) := by decide +kernel
theorem dX4_unfound_0 : decode cX4_unfound 0 = .ok (.aload_n 0, 1) := by decide +kernel
theorem dX4_unfound_1 : decode cX4_unfound 1 = .ok (.iconst 0, 1) := by decide +kernel
theorem dX4_unfound_2 : decode cX4_unfound 2 = .ok (.putfield 294, 3) := by decide +kernel
theorem dX4_unfound_5 : decode cX4_unfound 5 = .ok (.iload_n 1, 1) := by decide +kernel
theorem dX4_unfound_6 : decode cX4_unfound 6 = .ok (.ireturn, 1) := by decide +kernel
theorem dX4_rowsThere_0 : decode cX4_rowsThere 0 = .ok (.iconst 0, 1) := by decide +kernel
theorem dX4_rowsThere_1 : decode cX4_rowsThere 1 = .ok (.istore_n 1, 1) := by decide +kernel
theorem dX4_rowsThere_2 : decode cX4_rowsThere 2 = .ok (.iconst 0, 1) := by decide +kernel
theorem dX4_rowsThere_3 : decode cX4_rowsThere 3 = .ok (.istore_n 2, 1) := by decide +kernel
theorem dX4_rowsThere_4 : decode cX4_rowsThere 4 = .ok (.iload_n 2, 1) := by decide +kernel
theorem dX4_rowsThere_5 : decode cX4_rowsThere 5 = .ok (.bipush 8, 2) := by decide +kernel
theorem dX4_rowsThere_7 : decode cX4_rowsThere 7 = .ok (.if_icmp .ge 24, 3) := by decide +kernel
theorem dX4_rowsThere_10 : decode cX4_rowsThere 10 = .ok (.aload_n 0, 1) := by decide +kernel
theorem dX4_rowsThere_11 : decode cX4_rowsThere 11 = .ok (.getfield 11, 3) := by decide +kernel
theorem dX4_rowsThere_14 : decode cX4_rowsThere 14 = .ok (.iload_n 2, 1) := by decide +kernel
theorem dX4_rowsThere_15 : decode cX4_rowsThere 15 = .ok (.aaload, 1) := by decide +kernel
theorem dX4_rowsThere_16 : decode cX4_rowsThere 16 = .ok (.getfield 74, 3) := by decide +kernel
theorem dX4_rowsThere_19 : decode cX4_rowsThere 19 = .ok (.ifCond .ne 6, 3) := by decide +kernel
theorem dX4_rowsThere_22 : decode cX4_rowsThere 22 = .ok (.iinc 1 1, 3) := by decide +kernel
theorem dX4_rowsThere_25 : decode cX4_rowsThere 25 = .ok (.iinc 2 1, 3) := by decide +kernel
theorem dX4_rowsThere_28 : decode cX4_rowsThere 28 = .ok (.goto (-24), 3) := by decide +kernel
theorem dX4_rowsThere_31 : decode cX4_rowsThere 31 = .ok (.iload_n 1, 1) := by decide +kernel
theorem dX4_rowsThere_32 : decode cX4_rowsThere 32 = .ok (.ireturn, 1) := by decide +kernel
theorem dX4_isSeenBy_0 : decode cX4_isSeenBy 0 = .ok (.iload_n 1, 1) := by decide +kernel
theorem dX4_isSeenBy_1 : decode cX4_isSeenBy 1 = .ok (.lookupswitch 51 #[(0, 27), (1, 39)], 27) := by decide +kernel
theorem dX4_isSeenBy_28 : decode cX4_isSeenBy 28 = .ok (.iload_n 0, 1) := by decide +kernel
theorem dX4_isSeenBy_29 : decode cX4_isSeenBy 29 = .ok (.iconst 1, 1) := by decide +kernel
theorem dX4_isSeenBy_30 : decode cX4_isSeenBy 30 = .ok (.iand, 1) := by decide +kernel
theorem dX4_isSeenBy_31 : decode cX4_isSeenBy 31 = .ok (.ifCond .eq 7, 3) := by decide +kernel
theorem dX4_isSeenBy_34 : decode cX4_isSeenBy 34 = .ok (.iconst 1, 1) := by decide +kernel
theorem dX4_isSeenBy_35 : decode cX4_isSeenBy 35 = .ok (.goto 4, 3) := by decide +kernel
theorem dX4_isSeenBy_38 : decode cX4_isSeenBy 38 = .ok (.iconst 0, 1) := by decide +kernel
theorem dX4_isSeenBy_39 : decode cX4_isSeenBy 39 = .ok (.ireturn, 1) := by decide +kernel
theorem dX4_isSeenBy_40 : decode cX4_isSeenBy 40 = .ok (.iload_n 0, 1) := by decide +kernel
theorem dX4_isSeenBy_41 : decode cX4_isSeenBy 41 = .ok (.iconst 2, 1) := by decide +kernel
theorem dX4_isSeenBy_42 : decode cX4_isSeenBy 42 = .ok (.iand, 1) := by decide +kernel
theorem dX4_isSeenBy_43 : decode cX4_isSeenBy 43 = .ok (.ifCond .eq 7, 3) := by decide +kernel
theorem dX4_isSeenBy_46 : decode cX4_isSeenBy 46 = .ok (.iconst 1, 1) := by decide +kernel
theorem dX4_isSeenBy_47 : decode cX4_isSeenBy 47 = .ok (.goto 4, 3) := by decide +kernel
theorem dX4_isSeenBy_50 : decode cX4_isSeenBy 50 = .ok (.iconst 0, 1) := by decide +kernel
theorem dX4_isSeenBy_51 : decode cX4_isSeenBy 51 = .ok (.ireturn, 1) := by decide +kernel
theorem dX4_isSeenBy_52 : decode cX4_isSeenBy 52 = .ok (.iload_n 0, 1) := by decide +kernel
theorem dX4_isSeenBy_53 : decode cX4_isSeenBy 53 = .ok (.iconst 1, 1) := by decide +kernel
theorem dX4_isSeenBy_54 : decode cX4_isSeenBy 54 = .ok (.if_icmp .eq 8, 3) := by decide +kernel
theorem dX4_isSeenBy_57 : decode cX4_isSeenBy 57 = .ok (.iload_n 0, 1) := by decide +kernel
theorem dX4_isSeenBy_58 : decode cX4_isSeenBy 58 = .ok (.iconst 2, 1) := by decide +kernel
theorem dX4_isSeenBy_59 : decode cX4_isSeenBy 59 = .ok (.if_icmp .ne 7, 3) := by decide +kernel
theorem dX4_isSeenBy_62 : decode cX4_isSeenBy 62 = .ok (.iconst 1, 1) := by decide +kernel
theorem dX4_isSeenBy_63 : decode cX4_isSeenBy 63 = .ok (.goto 4, 3) := by decide +kernel
theorem dX4_isSeenBy_66 : decode cX4_isSeenBy 66 = .ok (.iconst 0, 1) := by decide +kernel
theorem dX4_isSeenBy_67 : decode cX4_isSeenBy 67 = .ok (.ireturn, 1) := by decide +kernel
theorem dX4_differencesIfLifted_0 : decode cX4_differencesIfLifted 0 = .ok (.aload_n 0, 1) := by decide +kernel
theorem dX4_differencesIfLifted_1 : decode cX4_differencesIfLifted 1 = .ok (.getfield 29, 3) := by decide +kernel
theorem dX4_differencesIfLifted_4 : decode cX4_differencesIfLifted 4 = .ok (.aload_n 0, 1) := by decide +kernel
theorem dX4_differencesIfLifted_5 : decode cX4_differencesIfLifted 5 = .ok (.getfield 25, 3) := by decide +kernel
theorem dX4_differencesIfLifted_8 : decode cX4_differencesIfLifted 8 = .ok (.invokevirtual 116, 3) := by decide +kernel
theorem dX4_differencesIfLifted_11 : decode cX4_differencesIfLifted 11 = .ok (.aload_n 0, 1) := by decide +kernel
theorem dX4_differencesIfLifted_12 : decode cX4_differencesIfLifted 12 = .ok (.getfield 29, 3) := by decide +kernel
theorem dX4_differencesIfLifted_15 : decode cX4_differencesIfLifted 15 = .ok (.getfield 164, 3) := by decide +kernel
theorem dX4_differencesIfLifted_18 : decode cX4_differencesIfLifted 18 = .ok (.iload_n 1, 1) := by decide +kernel
theorem dX4_differencesIfLifted_19 : decode cX4_differencesIfLifted 19 = .ok (.iconst 0, 1) := by decide +kernel
theorem dX4_differencesIfLifted_20 : decode cX4_differencesIfLifted 20 = .ok (.iastore, 1) := by decide +kernel
theorem dX4_differencesIfLifted_21 : decode cX4_differencesIfLifted 21 = .ok (.iconst 0, 1) := by decide +kernel
theorem dX4_differencesIfLifted_22 : decode cX4_differencesIfLifted 22 = .ok (.istore_n 3, 1) := by decide +kernel
theorem dX4_differencesIfLifted_23 : decode cX4_differencesIfLifted 23 = .ok (.iconst 0, 1) := by decide +kernel
theorem dX4_differencesIfLifted_24 : decode cX4_differencesIfLifted 24 = .ok (.istore 4, 2) := by decide +kernel
theorem dX4_differencesIfLifted_26 : decode cX4_differencesIfLifted 26 = .ok (.iload 4, 2) := by decide +kernel
theorem dX4_differencesIfLifted_28 : decode cX4_differencesIfLifted 28 = .ok (.iload_n 2, 1) := by decide +kernel
theorem dX4_differencesIfLifted_29 : decode cX4_differencesIfLifted 29 = .ok (.if_icmp .ge 30, 3) := by decide +kernel
theorem dX4_differencesIfLifted_32 : decode cX4_differencesIfLifted 32 = .ok (.aload_n 0, 1) := by decide +kernel
theorem dX4_differencesIfLifted_33 : decode cX4_differencesIfLifted 33 = .ok (.getfield 29, 3) := by decide +kernel
theorem dX4_differencesIfLifted_36 : decode cX4_differencesIfLifted 36 = .ok (.invokevirtual 148, 3) := by decide +kernel
theorem dX4_differencesIfLifted_39 : decode cX4_differencesIfLifted 39 = .ok (.iload_n 3, 1) := by decide +kernel
theorem dX4_differencesIfLifted_40 : decode cX4_differencesIfLifted 40 = .ok (.aload_n 0, 1) := by decide +kernel
theorem dX4_differencesIfLifted_41 : decode cX4_differencesIfLifted 41 = .ok (.getfield 29, 3) := by decide +kernel
theorem dX4_differencesIfLifted_44 : decode cX4_differencesIfLifted 44 = .ok (.iconst 2, 1) := by decide +kernel
theorem dX4_differencesIfLifted_45 : decode cX4_differencesIfLifted 45 = .ok (.invokevirtual 151, 3) := by decide +kernel
theorem dX4_differencesIfLifted_48 : decode cX4_differencesIfLifted 48 = .ok (.invokestatic 208, 3) := by decide +kernel
theorem dX4_differencesIfLifted_51 : decode cX4_differencesIfLifted 51 = .ok (.iadd, 1) := by decide +kernel
theorem dX4_differencesIfLifted_52 : decode cX4_differencesIfLifted 52 = .ok (.istore_n 3, 1) := by decide +kernel
theorem dX4_differencesIfLifted_53 : decode cX4_differencesIfLifted 53 = .ok (.iinc 4 1, 3) := by decide +kernel
theorem dX4_differencesIfLifted_56 : decode cX4_differencesIfLifted 56 = .ok (.goto (-30), 3) := by decide +kernel
theorem dX4_differencesIfLifted_59 : decode cX4_differencesIfLifted 59 = .ok (.iload_n 3, 1) := by decide +kernel
theorem dX4_differencesIfLifted_60 : decode cX4_differencesIfLifted 60 = .ok (.ireturn, 1) := by decide +kernel
theorem dX4_bestTurn_0 : decode cX4_bestTurn 0 = .ok (.iload_n 1, 1) := by decide +kernel
theorem dX4_bestTurn_1 : decode cX4_bestTurn 1 = .ok (.ifCond .gt 9, 3) := by decide +kernel
theorem dX4_bestTurn_4 : decode cX4_bestTurn 4 = .ok (.aload_n 0, 1) := by decide +kernel
theorem dX4_bestTurn_5 : decode cX4_bestTurn 5 = .ok (.iload_n 3, 1) := by decide +kernel
theorem dX4_bestTurn_6 : decode cX4_bestTurn 6 = .ok (.invokevirtual 298, 3) := by decide +kernel
theorem dX4_bestTurn_9 : decode cX4_bestTurn 9 = .ok (.ireturn, 1) := by decide +kernel
theorem dX4_bestTurn_10 : decode cX4_bestTurn 10 = .ok (.aload_n 0, 1) := by decide +kernel
theorem dX4_bestTurn_11 : decode cX4_bestTurn 11 = .ok (.iload_n 1, 1) := by decide +kernel
theorem dX4_bestTurn_12 : decode cX4_bestTurn 12 = .ok (.iconst 1, 1) := by decide +kernel
theorem dX4_bestTurn_13 : decode cX4_bestTurn 13 = .ok (.isub, 1) := by decide +kernel
theorem dX4_bestTurn_14 : decode cX4_bestTurn 14 = .ok (.iload_n 2, 1) := by decide +kernel
theorem dX4_bestTurn_15 : decode cX4_bestTurn 15 = .ok (.ifCond .ne 7, 3) := by decide +kernel
theorem dX4_bestTurn_18 : decode cX4_bestTurn 18 = .ok (.iconst 1, 1) := by decide +kernel
theorem dX4_bestTurn_19 : decode cX4_bestTurn 19 = .ok (.goto 4, 3) := by decide +kernel
theorem dX4_bestTurn_22 : decode cX4_bestTurn 22 = .ok (.iconst 0, 1) := by decide +kernel
theorem dX4_bestTurn_23 : decode cX4_bestTurn 23 = .ok (.iload_n 3, 1) := by decide +kernel
theorem dX4_bestTurn_24 : decode cX4_bestTurn 24 = .ok (.invokevirtual 215, 3) := by decide +kernel
theorem dX4_bestTurn_27 : decode cX4_bestTurn 27 = .ok (.istore 4, 2) := by decide +kernel
theorem dX4_bestTurn_29 : decode cX4_bestTurn 29 = .ok (.aload_n 0, 1) := by decide +kernel
theorem dX4_bestTurn_30 : decode cX4_bestTurn 30 = .ok (.getfield 32, 3) := by decide +kernel
theorem dX4_bestTurn_33 : decode cX4_bestTurn 33 = .ok (.getfield 158, 3) := by decide +kernel
theorem dX4_bestTurn_36 : decode cX4_bestTurn 36 = .ok (.istore 5, 2) := by decide +kernel
theorem dX4_bestTurn_38 : decode cX4_bestTurn 38 = .ok (.aload_n 0, 1) := by decide +kernel
theorem dX4_bestTurn_39 : decode cX4_bestTurn 39 = .ok (.getfield 32, 3) := by decide +kernel
theorem dX4_bestTurn_42 : decode cX4_bestTurn 42 = .ok (.getfield 167, 3) := by decide +kernel
theorem dX4_bestTurn_45 : decode cX4_bestTurn 45 = .ok (.istore 6, 2) := by decide +kernel
theorem dX4_bestTurn_47 : decode cX4_bestTurn 47 = .ok (.iload_n 2, 1) := by decide +kernel
theorem dX4_bestTurn_48 : decode cX4_bestTurn 48 = .ok (.ifCond .eq 14, 3) := by decide +kernel
theorem dX4_bestTurn_51 : decode cX4_bestTurn 51 = .ok (.aload_n 0, 1) := by decide +kernel
theorem dX4_bestTurn_52 : decode cX4_bestTurn 52 = .ok (.getfield 32, 3) := by decide +kernel
theorem dX4_bestTurn_55 : decode cX4_bestTurn 55 = .ok (.iconst 5, 1) := by decide +kernel
theorem dX4_bestTurn_56 : decode cX4_bestTurn 56 = .ok (.invokevirtual 154, 3) := by decide +kernel
theorem dX4_bestTurn_59 : decode cX4_bestTurn 59 = .ok (.goto 18, 3) := by decide +kernel
theorem dX4_bestTurn_62 : decode cX4_bestTurn 62 = .ok (.aload_n 0, 1) := by decide +kernel
theorem dX4_bestTurn_63 : decode cX4_bestTurn 63 = .ok (.getfield 32, 3) := by decide +kernel
theorem dX4_bestTurn_66 : decode cX4_bestTurn 66 = .ok (.iconst 0, 1) := by decide +kernel
theorem dX4_bestTurn_67 : decode cX4_bestTurn 67 = .ok (.iload 6, 2) := by decide +kernel
theorem dX4_bestTurn_69 : decode cX4_bestTurn 69 = .ok (.iconst 1, 1) := by decide +kernel
theorem dX4_bestTurn_70 : decode cX4_bestTurn 70 = .ok (.isub, 1) := by decide +kernel
theorem dX4_bestTurn_71 : decode cX4_bestTurn 71 = .ok (.invokestatic 301, 3) := by decide +kernel
theorem dX4_bestTurn_74 : decode cX4_bestTurn 74 = .ok (.putfield 167, 3) := by decide +kernel
theorem dX4_bestTurn_77 : decode cX4_bestTurn 77 = .ok (.aload_n 0, 1) := by decide +kernel
theorem dX4_bestTurn_78 : decode cX4_bestTurn 78 = .ok (.iload_n 1, 1) := by decide +kernel
theorem dX4_bestTurn_79 : decode cX4_bestTurn 79 = .ok (.iconst 1, 1) := by decide +kernel
theorem dX4_bestTurn_80 : decode cX4_bestTurn 80 = .ok (.isub, 1) := by decide +kernel
theorem dX4_bestTurn_81 : decode cX4_bestTurn 81 = .ok (.iload_n 2, 1) := by decide +kernel
theorem dX4_bestTurn_82 : decode cX4_bestTurn 82 = .ok (.ifCond .ne 7, 3) := by decide +kernel
theorem dX4_bestTurn_85 : decode cX4_bestTurn 85 = .ok (.iconst 1, 1) := by decide +kernel
theorem dX4_bestTurn_86 : decode cX4_bestTurn 86 = .ok (.goto 4, 3) := by decide +kernel
theorem dX4_bestTurn_89 : decode cX4_bestTurn 89 = .ok (.iconst 0, 1) := by decide +kernel
theorem dX4_bestTurn_90 : decode cX4_bestTurn 90 = .ok (.iload_n 3, 1) := by decide +kernel
theorem dX4_bestTurn_91 : decode cX4_bestTurn 91 = .ok (.invokevirtual 215, 3) := by decide +kernel
theorem dX4_bestTurn_94 : decode cX4_bestTurn 94 = .ok (.istore 7, 2) := by decide +kernel
theorem dX4_bestTurn_96 : decode cX4_bestTurn 96 = .ok (.aload_n 0, 1) := by decide +kernel
theorem dX4_bestTurn_97 : decode cX4_bestTurn 97 = .ok (.getfield 32, 3) := by decide +kernel
theorem dX4_bestTurn_100 : decode cX4_bestTurn 100 = .ok (.iload 5, 2) := by decide +kernel
theorem dX4_bestTurn_102 : decode cX4_bestTurn 102 = .ok (.putfield 158, 3) := by decide +kernel
theorem dX4_bestTurn_105 : decode cX4_bestTurn 105 = .ok (.aload_n 0, 1) := by decide +kernel
theorem dX4_bestTurn_106 : decode cX4_bestTurn 106 = .ok (.getfield 32, 3) := by decide +kernel
theorem dX4_bestTurn_109 : decode cX4_bestTurn 109 = .ok (.iload 6, 2) := by decide +kernel
theorem dX4_bestTurn_111 : decode cX4_bestTurn 111 = .ok (.putfield 167, 3) := by decide +kernel
theorem dX4_bestTurn_114 : decode cX4_bestTurn 114 = .ok (.iload_n 2, 1) := by decide +kernel
theorem dX4_bestTurn_115 : decode cX4_bestTurn 115 = .ok (.ifCond .eq 13, 3) := by decide +kernel
theorem dX4_bestTurn_118 : decode cX4_bestTurn 118 = .ok (.iload 4, 2) := by decide +kernel
theorem dX4_bestTurn_120 : decode cX4_bestTurn 120 = .ok (.iload 7, 2) := by decide +kernel
theorem dX4_bestTurn_122 : decode cX4_bestTurn 122 = .ok (.invokestatic 301, 3) := by decide +kernel
theorem dX4_bestTurn_125 : decode cX4_bestTurn 125 = .ok (.goto 10, 3) := by decide +kernel
theorem dX4_bestTurn_128 : decode cX4_bestTurn 128 = .ok (.iload 4, 2) := by decide +kernel
theorem dX4_bestTurn_130 : decode cX4_bestTurn 130 = .ok (.iload 7, 2) := by decide +kernel
theorem dX4_bestTurn_132 : decode cX4_bestTurn 132 = .ok (.invokestatic 303, 3) := by decide +kernel
theorem dX4_bestTurn_135 : decode cX4_bestTurn 135 = .ok (.ireturn, 1) := by decide +kernel
theorem dX4_balanceBehind_0 : decode cX4_balanceBehind 0 = .ok (.aload_n 0, 1) := by decide +kernel
theorem dX4_balanceBehind_1 : decode cX4_balanceBehind 1 = .ok (.getfield 29, 3) := by decide +kernel
theorem dX4_balanceBehind_4 : decode cX4_balanceBehind 4 = .ok (.aload_n 0, 1) := by decide +kernel
theorem dX4_balanceBehind_5 : decode cX4_balanceBehind 5 = .ok (.getfield 32, 3) := by decide +kernel
theorem dX4_balanceBehind_8 : decode cX4_balanceBehind 8 = .ok (.invokevirtual 116, 3) := by decide +kernel
theorem dX4_balanceBehind_11 : decode cX4_balanceBehind 11 = .ok (.aload_n 0, 1) := by decide +kernel
theorem dX4_balanceBehind_12 : decode cX4_balanceBehind 12 = .ok (.getfield 29, 3) := by decide +kernel
theorem dX4_balanceBehind_15 : decode cX4_balanceBehind 15 = .ok (.iload_n 1, 1) := by decide +kernel
theorem dX4_balanceBehind_16 : decode cX4_balanceBehind 16 = .ok (.invokevirtual 189, 3) := by decide +kernel
theorem dX4_balanceBehind_19 : decode cX4_balanceBehind 19 = .ok (.aload_n 0, 1) := by decide +kernel
theorem dX4_balanceBehind_20 : decode cX4_balanceBehind 20 = .ok (.getfield 29, 3) := by decide +kernel
theorem dX4_balanceBehind_23 : decode cX4_balanceBehind 23 = .ok (.iconst 1, 1) := by decide +kernel
theorem dX4_balanceBehind_24 : decode cX4_balanceBehind 24 = .ok (.invokevirtual 151, 3) := by decide +kernel
theorem dX4_balanceBehind_27 : decode cX4_balanceBehind 27 = .ok (.invokestatic 208, 3) := by decide +kernel
theorem dX4_balanceBehind_30 : decode cX4_balanceBehind 30 = .ok (.aload_n 0, 1) := by decide +kernel
theorem dX4_balanceBehind_31 : decode cX4_balanceBehind 31 = .ok (.getfield 29, 3) := by decide +kernel
theorem dX4_balanceBehind_34 : decode cX4_balanceBehind 34 = .ok (.iconst 0, 1) := by decide +kernel
theorem dX4_balanceBehind_35 : decode cX4_balanceBehind 35 = .ok (.invokevirtual 151, 3) := by decide +kernel
theorem dX4_balanceBehind_38 : decode cX4_balanceBehind 38 = .ok (.invokestatic 208, 3) := by decide +kernel
theorem dX4_balanceBehind_41 : decode cX4_balanceBehind 41 = .ok (.isub, 1) := by decide +kernel
theorem dX4_balanceBehind_42 : decode cX4_balanceBehind 42 = .ok (.ireturn, 1) := by decide +kernel
theorem dX4_probeFits_0 : decode cX4_probeFits 0 = .ok (.iconst 0, 1) := by decide +kernel
theorem dX4_probeFits_1 : decode cX4_probeFits 1 = .ok (.istore 4, 2) := by decide +kernel
theorem dX4_probeFits_3 : decode cX4_probeFits 3 = .ok (.iload 4, 2) := by decide +kernel
theorem dX4_probeFits_5 : decode cX4_probeFits 5 = .ok (.iload_n 3, 1) := by decide +kernel
theorem dX4_probeFits_6 : decode cX4_probeFits 6 = .ok (.if_icmp .ge 38, 3) := by decide +kernel
theorem dX4_probeFits_9 : decode cX4_probeFits 9 = .ok (.aload_n 0, 1) := by decide +kernel
theorem dX4_probeFits_10 : decode cX4_probeFits 10 = .ok (.getfield 29, 3) := by decide +kernel
theorem dX4_probeFits_13 : decode cX4_probeFits 13 = .ok (.invokevirtual 148, 3) := by decide +kernel
theorem dX4_probeFits_16 : decode cX4_probeFits 16 = .ok (.aload_n 0, 1) := by decide +kernel
theorem dX4_probeFits_17 : decode cX4_probeFits 17 = .ok (.getfield 29, 3) := by decide +kernel
theorem dX4_probeFits_20 : decode cX4_probeFits 20 = .ok (.iconst 0, 1) := by decide +kernel
theorem dX4_probeFits_21 : decode cX4_probeFits 21 = .ok (.invokevirtual 176, 3) := by decide +kernel
theorem dX4_probeFits_24 : decode cX4_probeFits 24 = .ok (.aload_n 1, 1) := by decide +kernel
theorem dX4_probeFits_25 : decode cX4_probeFits 25 = .ok (.getfield 85, 3) := by decide +kernel
theorem dX4_probeFits_28 : decode cX4_probeFits 28 = .ok (.iload_n 2, 1) := by decide +kernel
theorem dX4_probeFits_29 : decode cX4_probeFits 29 = .ok (.iload 4, 2) := by decide +kernel
theorem dX4_probeFits_31 : decode cX4_probeFits 31 = .ok (.iadd, 1) := by decide +kernel
theorem dX4_probeFits_32 : decode cX4_probeFits 32 = .ok (.iaload, 1) := by decide +kernel
theorem dX4_probeFits_33 : decode cX4_probeFits 33 = .ok (.if_icmp .eq 5, 3) := by decide +kernel
theorem dX4_probeFits_36 : decode cX4_probeFits 36 = .ok (.iconst 0, 1) := by decide +kernel
theorem dX4_probeFits_37 : decode cX4_probeFits 37 = .ok (.ireturn, 1) := by decide +kernel
theorem dX4_probeFits_38 : decode cX4_probeFits 38 = .ok (.iinc 4 1, 3) := by decide +kernel
theorem dX4_probeFits_41 : decode cX4_probeFits 41 = .ok (.goto (-38), 3) := by decide +kernel
theorem dX4_probeFits_44 : decode cX4_probeFits 44 = .ok (.iconst 1, 1) := by decide +kernel
theorem dX4_probeFits_45 : decode cX4_probeFits 45 = .ok (.ireturn, 1) := by decide +kernel
theorem dX4_kindsThatFit_0 : decode cX4_kindsThatFit 0 = .ok (.iconst 0, 1) := by decide +kernel
theorem dX4_kindsThatFit_1 : decode cX4_kindsThatFit 1 = .ok (.istore 5, 2) := by decide +kernel
theorem dX4_kindsThatFit_3 : decode cX4_kindsThatFit 3 = .ok (.iconst 1, 1) := by decide +kernel
theorem dX4_kindsThatFit_4 : decode cX4_kindsThatFit 4 = .ok (.istore 6, 2) := by decide +kernel
theorem dX4_kindsThatFit_6 : decode cX4_kindsThatFit 6 = .ok (.iload 6, 2) := by decide +kernel
theorem dX4_kindsThatFit_8 : decode cX4_kindsThatFit 8 = .ok (.iconst 5, 1) := by decide +kernel
theorem dX4_kindsThatFit_9 : decode cX4_kindsThatFit 9 = .ok (.if_icmp .gt 50, 3) := by decide +kernel
theorem dX4_kindsThatFit_12 : decode cX4_kindsThatFit 12 = .ok (.aload_n 0, 1) := by decide +kernel
theorem dX4_kindsThatFit_13 : decode cX4_kindsThatFit 13 = .ok (.getfield 29, 3) := by decide +kernel
theorem dX4_kindsThatFit_16 : decode cX4_kindsThatFit 16 = .ok (.aload_n 0, 1) := by decide +kernel
theorem dX4_kindsThatFit_17 : decode cX4_kindsThatFit 17 = .ok (.getfield 25, 3) := by decide +kernel
theorem dX4_kindsThatFit_20 : decode cX4_kindsThatFit 20 = .ok (.iload_n 1, 1) := by decide +kernel
theorem dX4_kindsThatFit_21 : decode cX4_kindsThatFit 21 = .ok (.invokevirtual 185, 3) := by decide +kernel
theorem dX4_kindsThatFit_24 : decode cX4_kindsThatFit 24 = .ok (.aload_n 0, 1) := by decide +kernel
theorem dX4_kindsThatFit_25 : decode cX4_kindsThatFit 25 = .ok (.getfield 29, 3) := by decide +kernel
theorem dX4_kindsThatFit_28 : decode cX4_kindsThatFit 28 = .ok (.getfield 275, 3) := by decide +kernel
theorem dX4_kindsThatFit_31 : decode cX4_kindsThatFit 31 = .ok (.iconst 0, 1) := by decide +kernel
theorem dX4_kindsThatFit_32 : decode cX4_kindsThatFit 32 = .ok (.iload 6, 2) := by decide +kernel
theorem dX4_kindsThatFit_34 : decode cX4_kindsThatFit 34 = .ok (.iastore, 1) := by decide +kernel
theorem dX4_kindsThatFit_35 : decode cX4_kindsThatFit 35 = .ok (.iload 5, 2) := by decide +kernel
theorem dX4_kindsThatFit_37 : decode cX4_kindsThatFit 37 = .ok (.aload_n 0, 1) := by decide +kernel
theorem dX4_kindsThatFit_38 : decode cX4_kindsThatFit 38 = .ok (.aload_n 2, 1) := by decide +kernel
theorem dX4_kindsThatFit_39 : decode cX4_kindsThatFit 39 = .ok (.iload_n 3, 1) := by decide +kernel
theorem dX4_kindsThatFit_40 : decode cX4_kindsThatFit 40 = .ok (.iload 4, 2) := by decide +kernel
theorem dX4_kindsThatFit_42 : decode cX4_kindsThatFit 42 = .ok (.invokevirtual 229, 3) := by decide +kernel
theorem dX4_kindsThatFit_45 : decode cX4_kindsThatFit 45 = .ok (.iload 6, 2) := by decide +kernel
theorem dX4_kindsThatFit_47 : decode cX4_kindsThatFit 47 = .ok (.invokestatic 233, 3) := by decide +kernel
theorem dX4_kindsThatFit_50 : decode cX4_kindsThatFit 50 = .ok (.ior, 1) := by decide +kernel
theorem dX4_kindsThatFit_51 : decode cX4_kindsThatFit 51 = .ok (.istore 5, 2) := by decide +kernel
theorem dX4_kindsThatFit_53 : decode cX4_kindsThatFit 53 = .ok (.iinc 6 1, 3) := by decide +kernel
theorem dX4_kindsThatFit_56 : decode cX4_kindsThatFit 56 = .ok (.goto (-50), 3) := by decide +kernel
theorem dX4_kindsThatFit_59 : decode cX4_kindsThatFit 59 = .ok (.iload 5, 2) := by decide +kernel
theorem dX4_kindsThatFit_61 : decode cX4_kindsThatFit 61 = .ok (.ireturn, 1) := by decide +kernel
theorem dX4_cellsThatFit_0 : decode cX4_cellsThatFit 0 = .ok (.iconst 0, 1) := by decide +kernel
theorem dX4_cellsThatFit_1 : decode cX4_cellsThatFit 1 = .ok (.istore 5, 2) := by decide +kernel
theorem dX4_cellsThatFit_3 : decode cX4_cellsThatFit 3 = .ok (.iconst 0, 1) := by decide +kernel
theorem dX4_cellsThatFit_4 : decode cX4_cellsThatFit 4 = .ok (.istore 6, 2) := by decide +kernel
theorem dX4_cellsThatFit_6 : decode cX4_cellsThatFit 6 = .ok (.iload 6, 2) := by decide +kernel
theorem dX4_cellsThatFit_8 : decode cX4_cellsThatFit 8 = .ok (.aload_n 0, 1) := by decide +kernel
theorem dX4_cellsThatFit_9 : decode cX4_cellsThatFit 9 = .ok (.getfield 25, 3) := by decide +kernel
theorem dX4_cellsThatFit_12 : decode cX4_cellsThatFit 12 = .ok (.getfield 170, 3) := by decide +kernel
theorem dX4_cellsThatFit_15 : decode cX4_cellsThatFit 15 = .ok (.if_icmp .ge 50, 3) := by decide +kernel
theorem dX4_cellsThatFit_18 : decode cX4_cellsThatFit 18 = .ok (.aload_n 0, 1) := by decide +kernel
theorem dX4_cellsThatFit_19 : decode cX4_cellsThatFit 19 = .ok (.getfield 29, 3) := by decide +kernel
theorem dX4_cellsThatFit_22 : decode cX4_cellsThatFit 22 = .ok (.aload_n 0, 1) := by decide +kernel
theorem dX4_cellsThatFit_23 : decode cX4_cellsThatFit 23 = .ok (.getfield 25, 3) := by decide +kernel
theorem dX4_cellsThatFit_26 : decode cX4_cellsThatFit 26 = .ok (.iload_n 1, 1) := by decide +kernel
theorem dX4_cellsThatFit_27 : decode cX4_cellsThatFit 27 = .ok (.invokevirtual 185, 3) := by decide +kernel
theorem dX4_cellsThatFit_30 : decode cX4_cellsThatFit 30 = .ok (.aload_n 0, 1) := by decide +kernel
theorem dX4_cellsThatFit_31 : decode cX4_cellsThatFit 31 = .ok (.getfield 29, 3) := by decide +kernel
theorem dX4_cellsThatFit_34 : decode cX4_cellsThatFit 34 = .ok (.getfield 173, 3) := by decide +kernel
theorem dX4_cellsThatFit_37 : decode cX4_cellsThatFit 37 = .ok (.iconst 0, 1) := by decide +kernel
theorem dX4_cellsThatFit_38 : decode cX4_cellsThatFit 38 = .ok (.iload 6, 2) := by decide +kernel
theorem dX4_cellsThatFit_40 : decode cX4_cellsThatFit 40 = .ok (.iastore, 1) := by decide +kernel
theorem dX4_cellsThatFit_41 : decode cX4_cellsThatFit 41 = .ok (.iload 5, 2) := by decide +kernel
theorem dX4_cellsThatFit_43 : decode cX4_cellsThatFit 43 = .ok (.aload_n 0, 1) := by decide +kernel
theorem dX4_cellsThatFit_44 : decode cX4_cellsThatFit 44 = .ok (.aload_n 2, 1) := by decide +kernel
theorem dX4_cellsThatFit_45 : decode cX4_cellsThatFit 45 = .ok (.iload_n 3, 1) := by decide +kernel
theorem dX4_cellsThatFit_46 : decode cX4_cellsThatFit 46 = .ok (.iload 4, 2) := by decide +kernel
theorem dX4_cellsThatFit_48 : decode cX4_cellsThatFit 48 = .ok (.invokevirtual 229, 3) := by decide +kernel
theorem dX4_cellsThatFit_51 : decode cX4_cellsThatFit 51 = .ok (.iload 6, 2) := by decide +kernel
theorem dX4_cellsThatFit_53 : decode cX4_cellsThatFit 53 = .ok (.invokestatic 233, 3) := by decide +kernel
theorem dX4_cellsThatFit_56 : decode cX4_cellsThatFit 56 = .ok (.ior, 1) := by decide +kernel
theorem dX4_cellsThatFit_57 : decode cX4_cellsThatFit 57 = .ok (.istore 5, 2) := by decide +kernel
theorem dX4_cellsThatFit_59 : decode cX4_cellsThatFit 59 = .ok (.iinc 6 1, 3) := by decide +kernel
theorem dX4_cellsThatFit_62 : decode cX4_cellsThatFit 62 = .ok (.goto (-56), 3) := by decide +kernel
theorem dX4_cellsThatFit_65 : decode cX4_cellsThatFit 65 = .ok (.iload 5, 2) := by decide +kernel
theorem dX4_cellsThatFit_67 : decode cX4_cellsThatFit 67 = .ok (.ireturn, 1) := by decide +kernel
theorem dX4_eyesThatFit_0 : decode cX4_eyesThatFit 0 = .ok (.iconst 0, 1) := by decide +kernel
theorem dX4_eyesThatFit_1 : decode cX4_eyesThatFit 1 = .ok (.istore 5, 2) := by decide +kernel
theorem dX4_eyesThatFit_3 : decode cX4_eyesThatFit 3 = .ok (.iconst 0, 1) := by decide +kernel
theorem dX4_eyesThatFit_4 : decode cX4_eyesThatFit 4 = .ok (.istore 6, 2) := by decide +kernel
theorem dX4_eyesThatFit_6 : decode cX4_eyesThatFit 6 = .ok (.iload 6, 2) := by decide +kernel
theorem dX4_eyesThatFit_8 : decode cX4_eyesThatFit 8 = .ok (.bipush 12, 2) := by decide +kernel
theorem dX4_eyesThatFit_10 : decode cX4_eyesThatFit 10 = .ok (.if_icmp .gt 48, 3) := by decide +kernel
theorem dX4_eyesThatFit_13 : decode cX4_eyesThatFit 13 = .ok (.aload_n 0, 1) := by decide +kernel
theorem dX4_eyesThatFit_14 : decode cX4_eyesThatFit 14 = .ok (.getfield 29, 3) := by decide +kernel
theorem dX4_eyesThatFit_17 : decode cX4_eyesThatFit 17 = .ok (.aload_n 0, 1) := by decide +kernel
theorem dX4_eyesThatFit_18 : decode cX4_eyesThatFit 18 = .ok (.getfield 25, 3) := by decide +kernel
theorem dX4_eyesThatFit_21 : decode cX4_eyesThatFit 21 = .ok (.iload_n 1, 1) := by decide +kernel
theorem dX4_eyesThatFit_22 : decode cX4_eyesThatFit 22 = .ok (.invokevirtual 185, 3) := by decide +kernel
theorem dX4_eyesThatFit_25 : decode cX4_eyesThatFit 25 = .ok (.aload_n 0, 1) := by decide +kernel
theorem dX4_eyesThatFit_26 : decode cX4_eyesThatFit 26 = .ok (.getfield 29, 3) := by decide +kernel
theorem dX4_eyesThatFit_29 : decode cX4_eyesThatFit 29 = .ok (.iload 6, 2) := by decide +kernel
theorem dX4_eyesThatFit_31 : decode cX4_eyesThatFit 31 = .ok (.putfield 167, 3) := by decide +kernel
theorem dX4_eyesThatFit_34 : decode cX4_eyesThatFit 34 = .ok (.iload 5, 2) := by decide +kernel
theorem dX4_eyesThatFit_36 : decode cX4_eyesThatFit 36 = .ok (.aload_n 0, 1) := by decide +kernel
theorem dX4_eyesThatFit_37 : decode cX4_eyesThatFit 37 = .ok (.aload_n 2, 1) := by decide +kernel
theorem dX4_eyesThatFit_38 : decode cX4_eyesThatFit 38 = .ok (.iload_n 3, 1) := by decide +kernel
theorem dX4_eyesThatFit_39 : decode cX4_eyesThatFit 39 = .ok (.iload 4, 2) := by decide +kernel
theorem dX4_eyesThatFit_41 : decode cX4_eyesThatFit 41 = .ok (.invokevirtual 229, 3) := by decide +kernel
theorem dX4_eyesThatFit_44 : decode cX4_eyesThatFit 44 = .ok (.iload 6, 2) := by decide +kernel
theorem dX4_eyesThatFit_46 : decode cX4_eyesThatFit 46 = .ok (.invokestatic 233, 3) := by decide +kernel
theorem dX4_eyesThatFit_49 : decode cX4_eyesThatFit 49 = .ok (.ior, 1) := by decide +kernel
theorem dX4_eyesThatFit_50 : decode cX4_eyesThatFit 50 = .ok (.istore 5, 2) := by decide +kernel
theorem dX4_eyesThatFit_52 : decode cX4_eyesThatFit 52 = .ok (.iinc 6 1, 3) := by decide +kernel
theorem dX4_eyesThatFit_55 : decode cX4_eyesThatFit 55 = .ok (.goto (-49), 3) := by decide +kernel
theorem dX4_eyesThatFit_58 : decode cX4_eyesThatFit 58 = .ok (.iload 5, 2) := by decide +kernel
theorem dX4_eyesThatFit_60 : decode cX4_eyesThatFit 60 = .ok (.ireturn, 1) := by decide +kernel
theorem dX4_oilsThatFit_0 : decode cX4_oilsThatFit 0 = .ok (.iconst 0, 1) := by decide +kernel
theorem dX4_oilsThatFit_1 : decode cX4_oilsThatFit 1 = .ok (.istore 6, 2) := by decide +kernel
theorem dX4_oilsThatFit_3 : decode cX4_oilsThatFit 3 = .ok (.ldc 196, 2) := by decide +kernel
theorem dX4_oilsThatFit_5 : decode cX4_oilsThatFit 5 = .ok (.istore 7, 2) := by decide +kernel
theorem dX4_oilsThatFit_7 : decode cX4_oilsThatFit 7 = .ok (.bipush 60, 2) := by decide +kernel
theorem dX4_oilsThatFit_9 : decode cX4_oilsThatFit 9 = .ok (.istore 8, 2) := by decide +kernel
theorem dX4_oilsThatFit_11 : decode cX4_oilsThatFit 11 = .ok (.iload 8, 2) := by decide +kernel
theorem dX4_oilsThatFit_13 : decode cX4_oilsThatFit 13 = .ok (.ifCond .lt 49, 3) := by decide +kernel
theorem dX4_oilsThatFit_16 : decode cX4_oilsThatFit 16 = .ok (.aload_n 0, 1) := by decide +kernel
theorem dX4_oilsThatFit_17 : decode cX4_oilsThatFit 17 = .ok (.getfield 29, 3) := by decide +kernel
theorem dX4_oilsThatFit_20 : decode cX4_oilsThatFit 20 = .ok (.aload_n 0, 1) := by decide +kernel
theorem dX4_oilsThatFit_21 : decode cX4_oilsThatFit 21 = .ok (.getfield 25, 3) := by decide +kernel
theorem dX4_oilsThatFit_24 : decode cX4_oilsThatFit 24 = .ok (.iload_n 1, 1) := by decide +kernel
theorem dX4_oilsThatFit_25 : decode cX4_oilsThatFit 25 = .ok (.invokevirtual 185, 3) := by decide +kernel
theorem dX4_oilsThatFit_28 : decode cX4_oilsThatFit 28 = .ok (.aload_n 0, 1) := by decide +kernel
theorem dX4_oilsThatFit_29 : decode cX4_oilsThatFit 29 = .ok (.getfield 29, 3) := by decide +kernel
theorem dX4_oilsThatFit_32 : decode cX4_oilsThatFit 32 = .ok (.iload 8, 2) := by decide +kernel
theorem dX4_oilsThatFit_34 : decode cX4_oilsThatFit 34 = .ok (.putfield 158, 3) := by decide +kernel
theorem dX4_oilsThatFit_37 : decode cX4_oilsThatFit 37 = .ok (.aload_n 0, 1) := by decide +kernel
theorem dX4_oilsThatFit_38 : decode cX4_oilsThatFit 38 = .ok (.aload_n 3, 1) := by decide +kernel
theorem dX4_oilsThatFit_39 : decode cX4_oilsThatFit 39 = .ok (.iload 4, 2) := by decide +kernel
theorem dX4_oilsThatFit_41 : decode cX4_oilsThatFit 41 = .ok (.iload 5, 2) := by decide +kernel
theorem dX4_oilsThatFit_43 : decode cX4_oilsThatFit 43 = .ok (.invokevirtual 229, 3) := by decide +kernel
theorem dX4_oilsThatFit_46 : decode cX4_oilsThatFit 46 = .ok (.ifCond .eq 10, 3) := by decide +kernel
theorem dX4_oilsThatFit_49 : decode cX4_oilsThatFit 49 = .ok (.iinc 6 1, 3) := by decide +kernel
theorem dX4_oilsThatFit_52 : decode cX4_oilsThatFit 52 = .ok (.iload 8, 2) := by decide +kernel
theorem dX4_oilsThatFit_54 : decode cX4_oilsThatFit 54 = .ok (.istore 7, 2) := by decide +kernel
theorem dX4_oilsThatFit_56 : decode cX4_oilsThatFit 56 = .ok (.iinc 8 (-1), 3) := by decide +kernel
theorem dX4_oilsThatFit_59 : decode cX4_oilsThatFit 59 = .ok (.goto (-48), 3) := by decide +kernel
theorem dX4_oilsThatFit_62 : decode cX4_oilsThatFit 62 = .ok (.iload_n 2, 1) := by decide +kernel
theorem dX4_oilsThatFit_63 : decode cX4_oilsThatFit 63 = .ok (.iconst 1, 1) := by decide +kernel
theorem dX4_oilsThatFit_64 : decode cX4_oilsThatFit 64 = .ok (.if_icmp .ne 8, 3) := by decide +kernel
theorem dX4_oilsThatFit_67 : decode cX4_oilsThatFit 67 = .ok (.iload 6, 2) := by decide +kernel
theorem dX4_oilsThatFit_69 : decode cX4_oilsThatFit 69 = .ok (.goto 5, 3) := by decide +kernel
theorem dX4_oilsThatFit_72 : decode cX4_oilsThatFit 72 = .ok (.iload 7, 2) := by decide +kernel
theorem dX4_oilsThatFit_74 : decode cX4_oilsThatFit 74 = .ok (.ireturn, 1) := by decide +kernel
theorem dX4_isSameIfLifted_0 : decode cX4_isSameIfLifted 0 = .ok (.aload_n 0, 1) := by decide +kernel
theorem dX4_isSameIfLifted_1 : decode cX4_isSameIfLifted 1 = .ok (.getfield 29, 3) := by decide +kernel
theorem dX4_isSameIfLifted_4 : decode cX4_isSameIfLifted 4 = .ok (.aload_n 0, 1) := by decide +kernel
theorem dX4_isSameIfLifted_5 : decode cX4_isSameIfLifted 5 = .ok (.getfield 25, 3) := by decide +kernel
theorem dX4_isSameIfLifted_8 : decode cX4_isSameIfLifted 8 = .ok (.invokevirtual 116, 3) := by decide +kernel
theorem dX4_isSameIfLifted_11 : decode cX4_isSameIfLifted 11 = .ok (.aload_n 0, 1) := by decide +kernel
theorem dX4_isSameIfLifted_12 : decode cX4_isSameIfLifted 12 = .ok (.getfield 29, 3) := by decide +kernel
theorem dX4_isSameIfLifted_15 : decode cX4_isSameIfLifted 15 = .ok (.iconst 0, 1) := by decide +kernel
theorem dX4_isSameIfLifted_16 : decode cX4_isSameIfLifted 16 = .ok (.putfield 123, 3) := by decide +kernel
theorem dX4_isSameIfLifted_19 : decode cX4_isSameIfLifted 19 = .ok (.iconst 0, 1) := by decide +kernel
theorem dX4_isSameIfLifted_20 : decode cX4_isSameIfLifted 20 = .ok (.istore_n 3, 1) := by decide +kernel
theorem dX4_isSameIfLifted_21 : decode cX4_isSameIfLifted 21 = .ok (.iload_n 3, 1) := by decide +kernel
theorem dX4_isSameIfLifted_22 : decode cX4_isSameIfLifted 22 = .ok (.aload_n 0, 1) := by decide +kernel
theorem dX4_isSameIfLifted_23 : decode cX4_isSameIfLifted 23 = .ok (.getfield 25, 3) := by decide +kernel
theorem dX4_isSameIfLifted_26 : decode cX4_isSameIfLifted 26 = .ok (.getfield 161, 3) := by decide +kernel
theorem dX4_isSameIfLifted_29 : decode cX4_isSameIfLifted 29 = .ok (.if_icmp .ge 27, 3) := by decide +kernel
theorem dX4_isSameIfLifted_32 : decode cX4_isSameIfLifted 32 = .ok (.iload_n 1, 1) := by decide +kernel
theorem dX4_isSameIfLifted_33 : decode cX4_isSameIfLifted 33 = .ok (.iload_n 3, 1) := by decide +kernel
theorem dX4_isSameIfLifted_34 : decode cX4_isSameIfLifted 34 = .ok (.ishr, 1) := by decide +kernel
theorem dX4_isSameIfLifted_35 : decode cX4_isSameIfLifted 35 = .ok (.iconst 1, 1) := by decide +kernel
theorem dX4_isSameIfLifted_36 : decode cX4_isSameIfLifted 36 = .ok (.iand, 1) := by decide +kernel
theorem dX4_isSameIfLifted_37 : decode cX4_isSameIfLifted 37 = .ok (.ifCond .eq 13, 3) := by decide +kernel
theorem dX4_isSameIfLifted_40 : decode cX4_isSameIfLifted 40 = .ok (.aload_n 0, 1) := by decide +kernel
theorem dX4_isSameIfLifted_41 : decode cX4_isSameIfLifted 41 = .ok (.getfield 29, 3) := by decide +kernel
theorem dX4_isSameIfLifted_44 : decode cX4_isSameIfLifted 44 = .ok (.getfield 164, 3) := by decide +kernel
theorem dX4_isSameIfLifted_47 : decode cX4_isSameIfLifted 47 = .ok (.iload_n 3, 1) := by decide +kernel
theorem dX4_isSameIfLifted_48 : decode cX4_isSameIfLifted 48 = .ok (.iconst 0, 1) := by decide +kernel
theorem dX4_isSameIfLifted_49 : decode cX4_isSameIfLifted 49 = .ok (.iastore, 1) := by decide +kernel
theorem dX4_isSameIfLifted_50 : decode cX4_isSameIfLifted 50 = .ok (.iinc 3 1, 3) := by decide +kernel
theorem dX4_isSameIfLifted_53 : decode cX4_isSameIfLifted 53 = .ok (.goto (-32), 3) := by decide +kernel
theorem dX4_isSameIfLifted_56 : decode cX4_isSameIfLifted 56 = .ok (.aload_n 0, 1) := by decide +kernel
theorem dX4_isSameIfLifted_57 : decode cX4_isSameIfLifted 57 = .ok (.getfield 29, 3) := by decide +kernel
theorem dX4_isSameIfLifted_60 : decode cX4_isSameIfLifted 60 = .ok (.iload_n 2, 1) := by decide +kernel
theorem dX4_isSameIfLifted_61 : decode cX4_isSameIfLifted 61 = .ok (.invokevirtual 189, 3) := by decide +kernel
theorem dX4_isSameIfLifted_64 : decode cX4_isSameIfLifted 64 = .ok (.aload_n 0, 1) := by decide +kernel
theorem dX4_isSameIfLifted_65 : decode cX4_isSameIfLifted 65 = .ok (.getfield 29, 3) := by decide +kernel
theorem dX4_isSameIfLifted_68 : decode cX4_isSameIfLifted 68 = .ok (.aload_n 0, 1) := by decide +kernel
theorem dX4_isSameIfLifted_69 : decode cX4_isSameIfLifted 69 = .ok (.getfield 32, 3) := by decide +kernel
theorem dX4_isSameIfLifted_72 : decode cX4_isSameIfLifted 72 = .ok (.invokevirtual 306, 3) := by decide +kernel
theorem dX4_isSameIfLifted_75 : decode cX4_isSameIfLifted 75 = .ok (.aload_n 0, 1) := by decide +kernel
theorem dX4_isSameIfLifted_76 : decode cX4_isSameIfLifted 76 = .ok (.getfield 29, 3) := by decide +kernel
theorem dX4_isSameIfLifted_79 : decode cX4_isSameIfLifted 79 = .ok (.iconst 2, 1) := by decide +kernel
theorem dX4_isSameIfLifted_80 : decode cX4_isSameIfLifted 80 = .ok (.invokevirtual 151, 3) := by decide +kernel
theorem dX4_isSameIfLifted_83 : decode cX4_isSameIfLifted 83 = .ok (.ifCond .ne 7, 3) := by decide +kernel
theorem dX4_isSameIfLifted_86 : decode cX4_isSameIfLifted 86 = .ok (.iconst 1, 1) := by decide +kernel
theorem dX4_isSameIfLifted_87 : decode cX4_isSameIfLifted 87 = .ok (.goto 4, 3) := by decide +kernel
theorem dX4_isSameIfLifted_90 : decode cX4_isSameIfLifted 90 = .ok (.iconst 0, 1) := by decide +kernel
theorem dX4_isSameIfLifted_91 : decode cX4_isSameIfLifted 91 = .ok (.ireturn, 1) := by decide +kernel
theorem dX4_casesOf_0 : decode cX4_casesOf 0 = .ok (.lconst 1, 1) := by decide +kernel
theorem dX4_casesOf_1 : decode cX4_casesOf 1 = .ok (.lstore_n 3, 1) := by decide +kernel
theorem dX4_casesOf_2 : decode cX4_casesOf 2 = .ok (.iconst 0, 1) := by decide +kernel
theorem dX4_casesOf_3 : decode cX4_casesOf 3 = .ok (.istore 5, 2) := by decide +kernel
theorem dX4_casesOf_5 : decode cX4_casesOf 5 = .ok (.iload 5, 2) := by decide +kernel
theorem dX4_casesOf_7 : decode cX4_casesOf 7 = .ok (.aload_n 0, 1) := by decide +kernel
theorem dX4_casesOf_8 : decode cX4_casesOf 8 = .ok (.getfield 25, 3) := by decide +kernel
theorem dX4_casesOf_11 : decode cX4_casesOf 11 = .ok (.getfield 161, 3) := by decide +kernel
theorem dX4_casesOf_14 : decode cX4_casesOf 14 = .ok (.if_icmp .ge 31, 3) := by decide +kernel
theorem dX4_casesOf_17 : decode cX4_casesOf 17 = .ok (.lload_n 3, 1) := by decide +kernel
theorem dX4_casesOf_18 : decode cX4_casesOf 18 = .ok (.iload_n 1, 1) := by decide +kernel
theorem dX4_casesOf_19 : decode cX4_casesOf 19 = .ok (.iload 5, 2) := by decide +kernel
theorem dX4_casesOf_21 : decode cX4_casesOf 21 = .ok (.ishr, 1) := by decide +kernel
theorem dX4_casesOf_22 : decode cX4_casesOf 22 = .ok (.iconst 1, 1) := by decide +kernel
theorem dX4_casesOf_23 : decode cX4_casesOf 23 = .ok (.iand, 1) := by decide +kernel
theorem dX4_casesOf_24 : decode cX4_casesOf 24 = .ok (.ifCond .eq 8, 3) := by decide +kernel
theorem dX4_casesOf_27 : decode cX4_casesOf 27 = .ok (.iload_n 2, 1) := by decide +kernel
theorem dX4_casesOf_28 : decode cX4_casesOf 28 = .ok (.i2l, 1) := by decide +kernel
theorem dX4_casesOf_29 : decode cX4_casesOf 29 = .ok (.goto 8, 3) := by decide +kernel
theorem dX4_casesOf_32 : decode cX4_casesOf 32 = .ok (.bipush 10, 2) := by decide +kernel
theorem dX4_casesOf_34 : decode cX4_casesOf 34 = .ok (.iload_n 2, 1) := by decide +kernel
theorem dX4_casesOf_35 : decode cX4_casesOf 35 = .ok (.isub, 1) := by decide +kernel
theorem dX4_casesOf_36 : decode cX4_casesOf 36 = .ok (.i2l, 1) := by decide +kernel
theorem dX4_casesOf_37 : decode cX4_casesOf 37 = .ok (.lmul, 1) := by decide +kernel
theorem dX4_casesOf_38 : decode cX4_casesOf 38 = .ok (.lstore_n 3, 1) := by decide +kernel
theorem dX4_casesOf_39 : decode cX4_casesOf 39 = .ok (.iinc 5 1, 3) := by decide +kernel
theorem dX4_casesOf_42 : decode cX4_casesOf 42 = .ok (.goto (-37), 3) := by decide +kernel
theorem dX4_casesOf_45 : decode cX4_casesOf 45 = .ok (.lload_n 3, 1) := by decide +kernel
theorem dX4_casesOf_46 : decode cX4_casesOf 46 = .ok (.lreturn, 1) := by decide +kernel
theorem dX4_commonDivisor_0 : decode cX4_commonDivisor 0 = .ok (.lload_n 0, 1) := by decide +kernel
theorem dX4_commonDivisor_1 : decode cX4_commonDivisor 1 = .ok (.lstore 4, 2) := by decide +kernel
theorem dX4_commonDivisor_3 : decode cX4_commonDivisor 3 = .ok (.lload_n 2, 1) := by decide +kernel
theorem dX4_commonDivisor_4 : decode cX4_commonDivisor 4 = .ok (.lstore 6, 2) := by decide +kernel
theorem dX4_commonDivisor_6 : decode cX4_commonDivisor 6 = .ok (.iconst 0, 1) := by decide +kernel
theorem dX4_commonDivisor_7 : decode cX4_commonDivisor 7 = .ok (.istore 8, 2) := by decide +kernel
theorem dX4_commonDivisor_9 : decode cX4_commonDivisor 9 = .ok (.iload 8, 2) := by decide +kernel
theorem dX4_commonDivisor_11 : decode cX4_commonDivisor 11 = .ok (.bipush 100, 2) := by decide +kernel
theorem dX4_commonDivisor_13 : decode cX4_commonDivisor 13 = .ok (.if_icmp .ge 31, 3) := by decide +kernel
theorem dX4_commonDivisor_16 : decode cX4_commonDivisor 16 = .ok (.lload 6, 2) := by decide +kernel
theorem dX4_commonDivisor_18 : decode cX4_commonDivisor 18 = .ok (.lconst 0, 1) := by decide +kernel
theorem dX4_commonDivisor_19 : decode cX4_commonDivisor 19 = .ok (.lcmp, 1) := by decide +kernel
theorem dX4_commonDivisor_20 : decode cX4_commonDivisor 20 = .ok (.ifCond .eq 24, 3) := by decide +kernel
theorem dX4_commonDivisor_23 : decode cX4_commonDivisor 23 = .ok (.lload 4, 2) := by decide +kernel
theorem dX4_commonDivisor_25 : decode cX4_commonDivisor 25 = .ok (.lload 6, 2) := by decide +kernel
theorem dX4_commonDivisor_27 : decode cX4_commonDivisor 27 = .ok (.lrem, 1) := by decide +kernel
theorem dX4_commonDivisor_28 : decode cX4_commonDivisor 28 = .ok (.lstore 9, 2) := by decide +kernel
theorem dX4_commonDivisor_30 : decode cX4_commonDivisor 30 = .ok (.lload 6, 2) := by decide +kernel
theorem dX4_commonDivisor_32 : decode cX4_commonDivisor 32 = .ok (.lstore 4, 2) := by decide +kernel
theorem dX4_commonDivisor_34 : decode cX4_commonDivisor 34 = .ok (.lload 9, 2) := by decide +kernel
theorem dX4_commonDivisor_36 : decode cX4_commonDivisor 36 = .ok (.lstore 6, 2) := by decide +kernel
theorem dX4_commonDivisor_38 : decode cX4_commonDivisor 38 = .ok (.iinc 8 1, 3) := by decide +kernel
theorem dX4_commonDivisor_41 : decode cX4_commonDivisor 41 = .ok (.goto (-32), 3) := by decide +kernel
theorem dX4_commonDivisor_44 : decode cX4_commonDivisor 44 = .ok (.lload 4, 2) := by decide +kernel
theorem dX4_commonDivisor_46 : decode cX4_commonDivisor 46 = .ok (.lreturn, 1) := by decide +kernel
theorem dX4_isOfKind_0 : decode cX4_isOfKind 0 = .ok (.iload_n 0, 1) := by decide +kernel
theorem dX4_isOfKind_1 : decode cX4_isOfKind 1 = .ok (.istore_n 2, 1) := by decide +kernel
theorem dX4_isOfKind_2 : decode cX4_isOfKind 2 = .ok (.iconst 0, 1) := by decide +kernel
theorem dX4_isOfKind_3 : decode cX4_isOfKind 3 = .ok (.istore_n 3, 1) := by decide +kernel
theorem dX4_isOfKind_4 : decode cX4_isOfKind 4 = .ok (.iload_n 3, 1) := by decide +kernel
theorem dX4_isOfKind_5 : decode cX4_isOfKind 5 = .ok (.bipush 6, 2) := by decide +kernel
theorem dX4_isOfKind_7 : decode cX4_isOfKind 7 = .ok (.if_icmp .ge 31, 3) := by decide +kernel
theorem dX4_isOfKind_10 : decode cX4_isOfKind 10 = .ok (.iload_n 2, 1) := by decide +kernel
theorem dX4_isOfKind_11 : decode cX4_isOfKind 11 = .ok (.bipush 6, 2) := by decide +kernel
theorem dX4_isOfKind_13 : decode cX4_isOfKind 13 = .ok (.invokestatic 51, 3) := by decide +kernel
theorem dX4_isOfKind_16 : decode cX4_isOfKind 16 = .ok (.ifCond .eq 22, 3) := by decide +kernel
theorem dX4_isOfKind_19 : decode cX4_isOfKind 19 = .ok (.iload_n 2, 1) := by decide +kernel
theorem dX4_isOfKind_20 : decode cX4_isOfKind 20 = .ok (.iload_n 1, 1) := by decide +kernel
theorem dX4_isOfKind_21 : decode cX4_isOfKind 21 = .ok (.if_icmp .ne 5, 3) := by decide +kernel
theorem dX4_isOfKind_24 : decode cX4_isOfKind 24 = .ok (.iconst 1, 1) := by decide +kernel
theorem dX4_isOfKind_25 : decode cX4_isOfKind 25 = .ok (.ireturn, 1) := by decide +kernel
theorem dX4_isOfKind_26 : decode cX4_isOfKind 26 = .ok (.getstatic 309, 3) := by decide +kernel
theorem dX4_isOfKind_29 : decode cX4_isOfKind 29 = .ok (.iload_n 2, 1) := by decide +kernel
theorem dX4_isOfKind_30 : decode cX4_isOfKind 30 = .ok (.iaload, 1) := by decide +kernel
theorem dX4_isOfKind_31 : decode cX4_isOfKind 31 = .ok (.istore_n 2, 1) := by decide +kernel
theorem dX4_isOfKind_32 : decode cX4_isOfKind 32 = .ok (.iinc 3 1, 3) := by decide +kernel
theorem dX4_isOfKind_35 : decode cX4_isOfKind 35 = .ok (.goto (-31), 3) := by decide +kernel
theorem dX4_isOfKind_38 : decode cX4_isOfKind 38 = .ok (.iconst 0, 1) := by decide +kernel
theorem dX4_isOfKind_39 : decode cX4_isOfKind 39 = .ok (.ireturn, 1) := by decide +kernel
theorem dX4_asked_0 : decode cX4_asked 0 = .ok (.aload_n 0, 1) := by decide +kernel
theorem dX4_asked_1 : decode cX4_asked 1 = .ok (.getfield 25, 3) := by decide +kernel
theorem dX4_asked_4 : decode cX4_asked 4 = .ok (.getfield 275, 3) := by decide +kernel
theorem dX4_asked_7 : decode cX4_asked 7 = .ok (.iload_n 2, 1) := by decide +kernel
theorem dX4_asked_8 : decode cX4_asked 8 = .ok (.iaload, 1) := by decide +kernel
theorem dX4_asked_9 : decode cX4_asked 9 = .ok (.istore 4, 2) := by decide +kernel
theorem dX4_asked_11 : decode cX4_asked 11 = .ok (.iload 4, 2) := by decide +kernel
theorem dX4_asked_13 : decode cX4_asked 13 = .ok (.bipush 6, 2) := by decide +kernel
theorem dX4_asked_15 : decode cX4_asked 15 = .ok (.invokestatic 51, 3) := by decide +kernel
theorem dX4_asked_18 : decode cX4_asked 18 = .ok (.ifCond .ne 5, 3) := by decide +kernel
theorem dX4_asked_21 : decode cX4_asked 21 = .ok (.iconst 0, 1) := by decide +kernel
theorem dX4_asked_22 : decode cX4_asked 22 = .ok (.ireturn, 1) := by decide +kernel
theorem dX4_asked_23 : decode cX4_asked 23 = .ok (.aload_n 0, 1) := by decide +kernel
theorem dX4_asked_24 : decode cX4_asked 24 = .ok (.iload_n 1, 1) := by decide +kernel
theorem dX4_asked_25 : decode cX4_asked 25 = .ok (.ifCond .ne 12, 3) := by decide +kernel
theorem dX4_asked_28 : decode cX4_asked 28 = .ok (.getstatic 312, 3) := by decide +kernel
theorem dX4_asked_31 : decode cX4_asked 31 = .ok (.iload 4, 2) := by decide +kernel
theorem dX4_asked_33 : decode cX4_asked 33 = .ok (.iaload, 1) := by decide +kernel
theorem dX4_asked_34 : decode cX4_asked 34 = .ok (.goto 9, 3) := by decide +kernel
theorem dX4_asked_37 : decode cX4_asked 37 = .ok (.getstatic 315, 3) := by decide +kernel
theorem dX4_asked_40 : decode cX4_asked 40 = .ok (.iload 4, 2) := by decide +kernel
theorem dX4_asked_42 : decode cX4_asked 42 = .ok (.iaload, 1) := by decide +kernel
theorem dX4_asked_43 : decode cX4_asked 43 = .ok (.iload_n 2, 1) := by decide +kernel
theorem dX4_asked_44 : decode cX4_asked 44 = .ok (.iload_n 3, 1) := by decide +kernel
theorem dX4_asked_45 : decode cX4_asked 45 = .ok (.invokevirtual 318, 3) := by decide +kernel
theorem dX4_asked_48 : decode cX4_asked 48 = .ok (.ireturn, 1) := by decide +kernel
theorem dX4_begun_0 : decode cX4_begun 0 = .ok (.iload_n 3, 1) := by decide +kernel
theorem dX4_begun_1 : decode cX4_begun 1 = .ok (.bipush 12, 2) := by decide +kernel
theorem dX4_begun_3 : decode cX4_begun 3 = .ok (.if_icmp .le 5, 3) := by decide +kernel
theorem dX4_begun_6 : decode cX4_begun 6 = .ok (.iconst 0, 1) := by decide +kernel
theorem dX4_begun_7 : decode cX4_begun 7 = .ok (.ireturn, 1) := by decide +kernel
theorem dX4_begun_8 : decode cX4_begun 8 = .ok (.aload_n 0, 1) := by decide +kernel
theorem dX4_begun_9 : decode cX4_begun 9 = .ok (.iload_n 1, 1) := by decide +kernel
theorem dX4_begun_10 : decode cX4_begun 10 = .ok (.invokevirtual 321, 3) := by decide +kernel
theorem dX4_begun_13 : decode cX4_begun 13 = .ok (.iload_n 3, 1) := by decide +kernel
theorem dX4_begun_14 : decode cX4_begun 14 = .ok (.iconst 1, 1) := by decide +kernel
theorem dX4_begun_15 : decode cX4_begun 15 = .ok (.iadd, 1) := by decide +kernel
theorem dX4_begun_16 : decode cX4_begun 16 = .ok (.istore 4, 2) := by decide +kernel
theorem dX4_begun_18 : decode cX4_begun 18 = .ok (.iload_n 1, 1) := by decide +kernel
theorem dX4_begun_19 : decode cX4_begun 19 = .ok (.tableswitch 205 10 24 #[73, 83, 102, 114, 127, 205, 205, 205, 205, 205, 139, 141, 160, 174, 193], 73) := by decide +kernel
theorem dX4_begun_92 : decode cX4_begun 92 = .ok (.aload_n 0, 1) := by decide +kernel
theorem dX4_begun_93 : decode cX4_begun 93 = .ok (.getfield 25, 3) := by decide +kernel
theorem dX4_begun_96 : decode cX4_begun 96 = .ok (.getfield 173, 3) := by decide +kernel
theorem dX4_begun_99 : decode cX4_begun 99 = .ok (.iload_n 2, 1) := by decide +kernel
theorem dX4_begun_100 : decode cX4_begun 100 = .ok (.iaload, 1) := by decide +kernel
theorem dX4_begun_101 : decode cX4_begun 101 = .ok (.ireturn, 1) := by decide +kernel
theorem dX4_begun_102 : decode cX4_begun 102 = .ok (.aload_n 0, 1) := by decide +kernel
theorem dX4_begun_103 : decode cX4_begun 103 = .ok (.bipush 10, 2) := by decide +kernel
theorem dX4_begun_105 : decode cX4_begun 105 = .ok (.iload_n 2, 1) := by decide +kernel
theorem dX4_begun_106 : decode cX4_begun 106 = .ok (.iload 4, 2) := by decide +kernel
theorem dX4_begun_108 : decode cX4_begun 108 = .ok (.invokevirtual 318, 3) := by decide +kernel
theorem dX4_begun_111 : decode cX4_begun 111 = .ok (.aload_n 0, 1) := by decide +kernel
theorem dX4_begun_112 : decode cX4_begun 112 = .ok (.iconst 1, 1) := by decide +kernel
theorem dX4_begun_113 : decode cX4_begun 113 = .ok (.iload_n 2, 1) := by decide +kernel
theorem dX4_begun_114 : decode cX4_begun 114 = .ok (.iload 4, 2) := by decide +kernel
theorem dX4_begun_116 : decode cX4_begun 116 = .ok (.invokevirtual 284, 3) := by decide +kernel
theorem dX4_begun_119 : decode cX4_begun 119 = .ok (.iadd, 1) := by decide +kernel
theorem dX4_begun_120 : decode cX4_begun 120 = .ok (.ireturn, 1) := by decide +kernel
theorem dX4_begun_121 : decode cX4_begun 121 = .ok (.iconst 0, 1) := by decide +kernel
theorem dX4_begun_122 : decode cX4_begun 122 = .ok (.aload_n 0, 1) := by decide +kernel
theorem dX4_begun_123 : decode cX4_begun 123 = .ok (.bipush 11, 2) := by decide +kernel
theorem dX4_begun_125 : decode cX4_begun 125 = .ok (.iload_n 2, 1) := by decide +kernel
theorem dX4_begun_126 : decode cX4_begun 126 = .ok (.iload 4, 2) := by decide +kernel
theorem dX4_begun_128 : decode cX4_begun 128 = .ok (.invokevirtual 318, 3) := by decide +kernel
theorem dX4_begun_131 : decode cX4_begun 131 = .ok (.isub, 1) := by decide +kernel
theorem dX4_begun_132 : decode cX4_begun 132 = .ok (.ireturn, 1) := by decide +kernel
theorem dX4_begun_133 : decode cX4_begun 133 = .ok (.aload_n 0, 1) := by decide +kernel
theorem dX4_begun_134 : decode cX4_begun 134 = .ok (.bipush 10, 2) := by decide +kernel
theorem dX4_begun_136 : decode cX4_begun 136 = .ok (.iload_n 2, 1) := by decide +kernel
theorem dX4_begun_137 : decode cX4_begun 137 = .ok (.iload 4, 2) := by decide +kernel
theorem dX4_begun_139 : decode cX4_begun 139 = .ok (.invokevirtual 318, 3) := by decide +kernel
theorem dX4_begun_142 : decode cX4_begun 142 = .ok (.bipush 100, 2) := by decide +kernel
theorem dX4_begun_144 : decode cX4_begun 144 = .ok (.isub, 1) := by decide +kernel
theorem dX4_begun_145 : decode cX4_begun 145 = .ok (.ireturn, 1) := by decide +kernel
theorem dX4_begun_146 : decode cX4_begun 146 = .ok (.aload_n 0, 1) := by decide +kernel
theorem dX4_begun_147 : decode cX4_begun 147 = .ok (.bipush 13, 2) := by decide +kernel
theorem dX4_begun_149 : decode cX4_begun 149 = .ok (.iload_n 2, 1) := by decide +kernel
theorem dX4_begun_150 : decode cX4_begun 150 = .ok (.iload 4, 2) := by decide +kernel
theorem dX4_begun_152 : decode cX4_begun 152 = .ok (.invokevirtual 318, 3) := by decide +kernel
theorem dX4_begun_155 : decode cX4_begun 155 = .ok (.iconst 2, 1) := by decide +kernel
theorem dX4_begun_156 : decode cX4_begun 156 = .ok (.imul, 1) := by decide +kernel
theorem dX4_begun_157 : decode cX4_begun 157 = .ok (.ireturn, 1) := by decide +kernel
theorem dX4_begun_158 : decode cX4_begun 158 = .ok (.iload_n 2, 1) := by decide +kernel
theorem dX4_begun_159 : decode cX4_begun 159 = .ok (.ireturn, 1) := by decide +kernel
theorem dX4_begun_160 : decode cX4_begun 160 = .ok (.aload_n 0, 1) := by decide +kernel
theorem dX4_begun_161 : decode cX4_begun 161 = .ok (.bipush 20, 2) := by decide +kernel
theorem dX4_begun_163 : decode cX4_begun 163 = .ok (.iload_n 2, 1) := by decide +kernel
theorem dX4_begun_164 : decode cX4_begun 164 = .ok (.iload 4, 2) := by decide +kernel
theorem dX4_begun_166 : decode cX4_begun 166 = .ok (.invokevirtual 318, 3) := by decide +kernel
theorem dX4_begun_169 : decode cX4_begun 169 = .ok (.aload_n 0, 1) := by decide +kernel
theorem dX4_begun_170 : decode cX4_begun 170 = .ok (.getfield 25, 3) := by decide +kernel
theorem dX4_begun_173 : decode cX4_begun 173 = .ok (.iload_n 2, 1) := by decide +kernel
theorem dX4_begun_174 : decode cX4_begun 174 = .ok (.invokevirtual 176, 3) := by decide +kernel
theorem dX4_begun_177 : decode cX4_begun 177 = .ok (.iadd, 1) := by decide +kernel
theorem dX4_begun_178 : decode cX4_begun 178 = .ok (.ireturn, 1) := by decide +kernel
theorem dX4_begun_179 : decode cX4_begun 179 = .ok (.aload_n 0, 1) := by decide +kernel
theorem dX4_begun_180 : decode cX4_begun 180 = .ok (.bipush 21, 2) := by decide +kernel
theorem dX4_begun_182 : decode cX4_begun 182 = .ok (.iload_n 2, 1) := by decide +kernel
theorem dX4_begun_183 : decode cX4_begun 183 = .ok (.iload 4, 2) := by decide +kernel
theorem dX4_begun_185 : decode cX4_begun 185 = .ok (.invokevirtual 318, 3) := by decide +kernel
theorem dX4_begun_188 : decode cX4_begun 188 = .ok (.sipush 1000, 3) := by decide +kernel
theorem dX4_begun_191 : decode cX4_begun 191 = .ok (.isub, 1) := by decide +kernel
theorem dX4_begun_192 : decode cX4_begun 192 = .ok (.ireturn, 1) := by decide +kernel
theorem dX4_begun_193 : decode cX4_begun 193 = .ok (.aload_n 0, 1) := by decide +kernel
theorem dX4_begun_194 : decode cX4_begun 194 = .ok (.bipush 20, 2) := by decide +kernel
theorem dX4_begun_196 : decode cX4_begun 196 = .ok (.iload_n 2, 1) := by decide +kernel
theorem dX4_begun_197 : decode cX4_begun 197 = .ok (.iload 4, 2) := by decide +kernel
theorem dX4_begun_199 : decode cX4_begun 199 = .ok (.invokevirtual 318, 3) := by decide +kernel
theorem dX4_begun_202 : decode cX4_begun 202 = .ok (.aload_n 0, 1) := by decide +kernel
theorem dX4_begun_203 : decode cX4_begun 203 = .ok (.iconst 0, 1) := by decide +kernel
theorem dX4_begun_204 : decode cX4_begun 204 = .ok (.iload_n 2, 1) := by decide +kernel
theorem dX4_begun_205 : decode cX4_begun 205 = .ok (.iload 4, 2) := by decide +kernel
theorem dX4_begun_207 : decode cX4_begun 207 = .ok (.invokevirtual 284, 3) := by decide +kernel
theorem dX4_begun_210 : decode cX4_begun 210 = .ok (.isub, 1) := by decide +kernel
theorem dX4_begun_211 : decode cX4_begun 211 = .ok (.ireturn, 1) := by decide +kernel
theorem dX4_begun_212 : decode cX4_begun 212 = .ok (.aload_n 0, 1) := by decide +kernel
theorem dX4_begun_213 : decode cX4_begun 213 = .ok (.bipush 21, 2) := by decide +kernel
theorem dX4_begun_215 : decode cX4_begun 215 = .ok (.iload_n 2, 1) := by decide +kernel
theorem dX4_begun_216 : decode cX4_begun 216 = .ok (.iload 4, 2) := by decide +kernel
theorem dX4_begun_218 : decode cX4_begun 218 = .ok (.invokevirtual 318, 3) := by decide +kernel
theorem dX4_begun_221 : decode cX4_begun 221 = .ok (.iconst 2, 1) := by decide +kernel
theorem dX4_begun_222 : decode cX4_begun 222 = .ok (.imul, 1) := by decide +kernel
theorem dX4_begun_223 : decode cX4_begun 223 = .ok (.ireturn, 1) := by decide +kernel
theorem dX4_begun_224 : decode cX4_begun 224 = .ok (.iconst 0, 1) := by decide +kernel
theorem dX4_begun_225 : decode cX4_begun 225 = .ok (.ireturn, 1) := by decide +kernel
theorem dX4_leave_0 : decode cX4_leave 0 = .ok (.aload_n 0, 1) := by decide +kernel
theorem dX4_leave_1 : decode cX4_leave 1 = .ok (.getfield 281, 3) := by decide +kernel
theorem dX4_leave_4 : decode cX4_leave 4 = .ok (.bipush 16, 2) := by decide +kernel
theorem dX4_leave_6 : decode cX4_leave 6 = .ok (.if_icmp .ge 23, 3) := by decide +kernel
theorem dX4_leave_9 : decode cX4_leave 9 = .ok (.aload_n 0, 1) := by decide +kernel
theorem dX4_leave_10 : decode cX4_leave 10 = .ok (.getfield 46, 3) := by decide +kernel
theorem dX4_leave_13 : decode cX4_leave 13 = .ok (.aload_n 0, 1) := by decide +kernel
theorem dX4_leave_14 : decode cX4_leave 14 = .ok (.getfield 281, 3) := by decide +kernel
theorem dX4_leave_17 : decode cX4_leave 17 = .ok (.iload_n 1, 1) := by decide +kernel
theorem dX4_leave_18 : decode cX4_leave 18 = .ok (.iastore, 1) := by decide +kernel
theorem dX4_leave_19 : decode cX4_leave 19 = .ok (.aload_n 0, 1) := by decide +kernel
theorem dX4_leave_20 : decode cX4_leave 20 = .ok (.dup, 1) := by decide +kernel
theorem dX4_leave_21 : decode cX4_leave 21 = .ok (.getfield 281, 3) := by decide +kernel
theorem dX4_leave_24 : decode cX4_leave 24 = .ok (.iconst 1, 1) := by decide +kernel
theorem dX4_leave_25 : decode cX4_leave 25 = .ok (.iadd, 1) := by decide +kernel
theorem dX4_leave_26 : decode cX4_leave 26 = .ok (.putfield 281, 3) := by decide +kernel
theorem dX4_leave_29 : decode cX4_leave 29 = .ok (.return_, 1) := by decide +kernel
theorem dX5_init_0 : decode cX5_init 0 = .ok (.aload_n 0, 1) := by decide +kernel
theorem dX5_init_1 : decode cX5_init 1 = .ok (.invokespecial 1, 3) := by decide +kernel
theorem dX5_init_4 : decode cX5_init 4 = .ok (.aload_n 0, 1) := by decide +kernel
theorem dX5_init_5 : decode cX5_init 5 = .ok (.bipush 8, 2) := by decide +kernel
theorem dX5_init_7 : decode cX5_init 7 = .ok (.newarray .int, 2) := by decide +kernel
theorem dX5_init_9 : decode cX5_init 9 = .ok (.dup, 1) := by decide +kernel
theorem dX5_init_10 : decode cX5_init 10 = .ok (.iconst 0, 1) := by decide +kernel
theorem dX5_init_11 : decode cX5_init 11 = .ok (.iconst (-1), 1) := by decide +kernel
theorem dX5_init_12 : decode cX5_init 12 = .ok (.iastore, 1) := by decide +kernel
theorem dX5_init_13 : decode cX5_init 13 = .ok (.dup, 1) := by decide +kernel
theorem dX5_init_14 : decode cX5_init 14 = .ok (.iconst 1, 1) := by decide +kernel
theorem dX5_init_15 : decode cX5_init 15 = .ok (.iconst (-1), 1) := by decide +kernel
theorem dX5_init_16 : decode cX5_init 16 = .ok (.iastore, 1) := by decide +kernel
theorem dX5_init_17 : decode cX5_init 17 = .ok (.dup, 1) := by decide +kernel
theorem dX5_init_18 : decode cX5_init 18 = .ok (.iconst 2, 1) := by decide +kernel
theorem dX5_init_19 : decode cX5_init 19 = .ok (.iconst (-1), 1) := by decide +kernel
theorem dX5_init_20 : decode cX5_init 20 = .ok (.iastore, 1) := by decide +kernel
theorem dX5_init_21 : decode cX5_init 21 = .ok (.dup, 1) := by decide +kernel
theorem dX5_init_22 : decode cX5_init 22 = .ok (.iconst 3, 1) := by decide +kernel
theorem dX5_init_23 : decode cX5_init 23 = .ok (.iconst (-1), 1) := by decide +kernel
theorem dX5_init_24 : decode cX5_init 24 = .ok (.iastore, 1) := by decide +kernel
theorem dX5_init_25 : decode cX5_init 25 = .ok (.dup, 1) := by decide +kernel
theorem dX5_init_26 : decode cX5_init 26 = .ok (.iconst 4, 1) := by decide +kernel
theorem dX5_init_27 : decode cX5_init 27 = .ok (.iconst (-1), 1) := by decide +kernel
theorem dX5_init_28 : decode cX5_init 28 = .ok (.iastore, 1) := by decide +kernel
theorem dX5_init_29 : decode cX5_init 29 = .ok (.dup, 1) := by decide +kernel
theorem dX5_init_30 : decode cX5_init 30 = .ok (.iconst 5, 1) := by decide +kernel
theorem dX5_init_31 : decode cX5_init 31 = .ok (.iconst (-1), 1) := by decide +kernel
theorem dX5_init_32 : decode cX5_init 32 = .ok (.iastore, 1) := by decide +kernel
theorem dX5_init_33 : decode cX5_init 33 = .ok (.dup, 1) := by decide +kernel
theorem dX5_init_34 : decode cX5_init 34 = .ok (.bipush 6, 2) := by decide +kernel
theorem dX5_init_36 : decode cX5_init 36 = .ok (.iconst (-1), 1) := by decide +kernel
theorem dX5_init_37 : decode cX5_init 37 = .ok (.iastore, 1) := by decide +kernel
theorem dX5_init_38 : decode cX5_init 38 = .ok (.dup, 1) := by decide +kernel
theorem dX5_init_39 : decode cX5_init 39 = .ok (.bipush 7, 2) := by decide +kernel
theorem dX5_init_41 : decode cX5_init 41 = .ok (.iconst (-1), 1) := by decide +kernel
theorem dX5_init_42 : decode cX5_init 42 = .ok (.iastore, 1) := by decide +kernel
theorem dX5_init_43 : decode cX5_init 43 = .ok (.putfield 7, 3) := by decide +kernel
theorem dX5_init_46 : decode cX5_init 46 = .ok (.aload_n 0, 1) := by decide +kernel
theorem dX5_init_47 : decode cX5_init 47 = .ok (.bipush 8, 2) := by decide +kernel
theorem dX5_init_49 : decode cX5_init 49 = .ok (.newarray .int, 2) := by decide +kernel
theorem dX5_init_51 : decode cX5_init 51 = .ok (.putfield 13, 3) := by decide +kernel
theorem dX5_init_54 : decode cX5_init 54 = .ok (.aload_n 0, 1) := by decide +kernel
theorem dX5_init_55 : decode cX5_init 55 = .ok (.sipush 320, 3) := by decide +kernel
theorem dX5_init_58 : decode cX5_init 58 = .ok (.newarray .int, 2) := by decide +kernel
theorem dX5_init_60 : decode cX5_init 60 = .ok (.putfield 16, 3) := by decide +kernel
theorem dX5_init_63 : decode cX5_init 63 = .ok (.aload_n 0, 1) := by decide +kernel
theorem dX5_init_64 : decode cX5_init 64 = .ok (.bipush 24, 2) := by decide +kernel
theorem dX5_init_66 : decode cX5_init 66 = .ok (.newarray .int, 2) := by decide +kernel
theorem dX5_init_68 : decode cX5_init 68 = .ok (.putfield 19, 3) := by decide +kernel
theorem dX5_init_71 : decode cX5_init 71 = .ok (.aload_n 0, 1) := by decide +kernel
theorem dX5_init_72 : decode cX5_init 72 = .ok (.bipush 24, 2) := by decide +kernel
theorem dX5_init_74 : decode cX5_init 74 = .ok (.newarray .int, 2) := by decide +kernel
theorem dX5_init_76 : decode cX5_init 76 = .ok (.putfield 22, 3) := by decide +kernel
theorem dX5_init_79 : decode cX5_init 79 = .ok (.aload_n 0, 1) := by decide +kernel
theorem dX5_init_80 : decode cX5_init 80 = .ok (.bipush 24, 2) := by decide +kernel
theorem dX5_init_82 : decode cX5_init 82 = .ok (.newarray .int, 2) := by decide +kernel
theorem dX5_init_84 : decode cX5_init 84 = .ok (.putfield 25, 3) := by decide +kernel
theorem dX5_init_87 : decode cX5_init 87 = .ok (.aload_n 0, 1) := by decide +kernel
theorem dX5_init_88 : decode cX5_init 88 = .ok (.sipush 576, 3) := by decide +kernel
theorem dX5_init_91 : decode cX5_init 91 = .ok (.newarray .int, 2) := by decide +kernel
theorem dX5_init_93 : decode cX5_init 93 = .ok (.putfield 28, 3) := by decide +kernel
theorem dX5_init_96 : decode cX5_init 96 = .ok (.aload_n 0, 1) := by decide +kernel
theorem dX5_init_97 : decode cX5_init 97 = .ok (.bipush 120, 2) := by decide +kernel
theorem dX5_init_99 : decode cX5_init 99 = .ok (.newarray .int, 2) := by decide +kernel
theorem dX5_init_101 : decode cX5_init 101 = .ok (.putfield 31, 3) := by decide +kernel
theorem dX5_init_104 : decode cX5_init 104 = .ok (.aload_n 0, 1) := by decide +kernel
theorem dX5_init_105 : decode cX5_init 105 = .ok (.bipush 16, 2) := by decide +kernel
theorem dX5_init_107 : decode cX5_init 107 = .ok (.newarray .int, 2) := by decide +kernel
theorem dX5_init_109 : decode cX5_init 109 = .ok (.putfield 34, 3) := by decide +kernel
theorem dX5_init_112 : decode cX5_init 112 = .ok (.aload_n 0, 1) := by decide +kernel
theorem dX5_init_113 : decode cX5_init 113 = .ok (.iconst 2, 1) := by decide +kernel
theorem dX5_init_114 : decode cX5_init 114 = .ok (.newarray .boolean, 2) := by decide +kernel
theorem dX5_init_116 : decode cX5_init 116 = .ok (.putfield 37, 3) := by decide +kernel
theorem dX5_init_119 : decode cX5_init 119 = .ok (.aload_n 0, 1) := by decide +kernel
theorem dX5_init_120 : decode cX5_init 120 = .ok (.bipush 48, 2) := by decide +kernel
theorem dX5_init_122 : decode cX5_init 122 = .ok (.newarray .int, 2) := by decide +kernel
theorem dX5_init_124 : decode cX5_init 124 = .ok (.putfield 41, 3) := by decide +kernel
theorem dX5_init_127 : decode cX5_init 127 = .ok (.aload_n 0, 1) := by decide +kernel
theorem dX5_init_128 : decode cX5_init 128 = .ok (.bipush 16, 2) := by decide +kernel
theorem dX5_init_130 : decode cX5_init 130 = .ok (.newarray .int, 2) := by decide +kernel
theorem dX5_init_132 : decode cX5_init 132 = .ok (.putfield 44, 3) := by decide +kernel
theorem dX5_init_135 : decode cX5_init 135 = .ok (.return_, 1) := by decide +kernel
theorem dX5_in_0 : decode cX5_in 0 = .ok (.lload_n 0, 1) := by decide +kernel
theorem dX5_in_1 : decode cX5_in 1 = .ok (.lload_n 2, 1) := by decide +kernel
theorem dX5_in_2 : decode cX5_in 2 = .ok (.lcmp, 1) := by decide +kernel
theorem dX5_in_3 : decode cX5_in 3 = .ok (.ifCond .lt 14, 3) := by decide +kernel
theorem dX5_in_6 : decode cX5_in 6 = .ok (.lload_n 0, 1) := by decide +kernel
theorem dX5_in_7 : decode cX5_in 7 = .ok (.lload 4, 2) := by decide +kernel
theorem dX5_in_9 : decode cX5_in 9 = .ok (.lcmp, 1) := by decide +kernel
theorem dX5_in_10 : decode cX5_in 10 = .ok (.ifCond .gt 7, 3) := by decide +kernel
theorem dX5_in_13 : decode cX5_in 13 = .ok (.iconst 1, 1) := by decide +kernel
theorem dX5_in_14 : decode cX5_in 14 = .ok (.goto 4, 3) := by decide +kernel
theorem dX5_in_17 : decode cX5_in 17 = .ok (.iconst 0, 1) := by decide +kernel
theorem dX5_in_18 : decode cX5_in 18 = .ok (.ireturn, 1) := by decide +kernel
theorem dX5_finding_0 : decode cX5_finding 0 = .ok (.aload_n 0, 1) := by decide +kernel
theorem dX5_finding_1 : decode cX5_finding 1 = .ok (.iload_n 1, 1) := by decide +kernel
theorem dX5_finding_2 : decode cX5_finding 2 = .ok (.putfield 51, 3) := by decide +kernel
theorem dX5_finding_5 : decode cX5_finding 5 = .ok (.ldc 54, 2) := by decide +kernel
theorem dX5_finding_7 : decode cX5_finding 7 = .ok (.iload_n 1, 1) := by decide +kernel
theorem dX5_finding_8 : decode cX5_finding 8 = .ok (.isub, 1) := by decide +kernel
theorem dX5_finding_9 : decode cX5_finding 9 = .ok (.ireturn, 1) := by decide +kernel
theorem dX5_isRow_0 : decode cX5_isRow 0 = .ok (.iload_n 0, 1) := by decide +kernel
theorem dX5_isRow_1 : decode cX5_isRow 1 = .ok (.i2l, 1) := by decide +kernel
theorem dX5_isRow_2 : decode cX5_isRow 2 = .ok (.lconst 0, 1) := by decide +kernel
theorem dX5_isRow_3 : decode cX5_isRow 3 = .ok (.ldc2_w 55, 3) := by decide +kernel
theorem dX5_isRow_6 : decode cX5_isRow 6 = .ok (.invokestatic 57, 3) := by decide +kernel
theorem dX5_isRow_9 : decode cX5_isRow 9 = .ok (.ireturn, 1) := by decide +kernel
theorem dX5_row_0 : decode cX5_row 0 = .ok (.aload_n 0, 1) := by decide +kernel
theorem dX5_row_1 : decode cX5_row 1 = .ok (.iconst 0, 1) := by decide +kernel
theorem dX5_row_2 : decode cX5_row 2 = .ok (.putfield 47, 3) := by decide +kernel
theorem dX5_row_5 : decode cX5_row 5 = .ok (.iload_n 1, 1) := by decide +kernel
theorem dX5_row_6 : decode cX5_row 6 = .ok (.invokestatic 61, 3) := by decide +kernel
theorem dX5_row_9 : decode cX5_row 9 = .ok (.ifCond .eq 21, 3) := by decide +kernel
theorem dX5_row_12 : decode cX5_row 12 = .ok (.iload_n 2, 1) := by decide +kernel
theorem dX5_row_13 : decode cX5_row 13 = .ok (.i2l, 1) := by decide +kernel
theorem dX5_row_14 : decode cX5_row 14 = .ok (.lconst 0, 1) := by decide +kernel
theorem dX5_row_15 : decode cX5_row 15 = .ok (.ldc2_w 65, 3) := by decide +kernel
theorem dX5_row_18 : decode cX5_row 18 = .ok (.invokestatic 57, 3) := by decide +kernel
theorem dX5_row_21 : decode cX5_row 21 = .ok (.ifCond .eq 9, 3) := by decide +kernel
theorem dX5_row_24 : decode cX5_row 24 = .ok (.iload_n 3, 1) := by decide +kernel
theorem dX5_row_25 : decode cX5_row 25 = .ok (.bipush 40, 2) := by decide +kernel
theorem dX5_row_27 : decode cX5_row 27 = .ok (.if_icmp .le 6, 3) := by decide +kernel
theorem dX5_row_30 : decode cX5_row 30 = .ok (.ldc 67, 2) := by decide +kernel
theorem dX5_row_32 : decode cX5_row 32 = .ok (.ireturn, 1) := by decide +kernel
theorem dX5_row_33 : decode cX5_row 33 = .ok (.aload_n 0, 1) := by decide +kernel
theorem dX5_row_34 : decode cX5_row 34 = .ok (.iconst 0, 1) := by decide +kernel
theorem dX5_row_35 : decode cX5_row 35 = .ok (.putfield 51, 3) := by decide +kernel
theorem dX5_row_38 : decode cX5_row 38 = .ok (.iload_n 3, 1) := by decide +kernel
theorem dX5_row_39 : decode cX5_row 39 = .ok (.ifCond .ge 9, 3) := by decide +kernel
theorem dX5_row_42 : decode cX5_row 42 = .ok (.aload_n 0, 1) := by decide +kernel
theorem dX5_row_43 : decode cX5_row 43 = .ok (.iconst 4, 1) := by decide +kernel
theorem dX5_row_44 : decode cX5_row 44 = .ok (.invokevirtual 68, 3) := by decide +kernel
theorem dX5_row_47 : decode cX5_row 47 = .ok (.ireturn, 1) := by decide +kernel
theorem dX5_row_48 : decode cX5_row 48 = .ok (.aload_n 0, 1) := by decide +kernel
theorem dX5_row_49 : decode cX5_row 49 = .ok (.getfield 7, 3) := by decide +kernel
theorem dX5_row_52 : decode cX5_row 52 = .ok (.iload_n 1, 1) := by decide +kernel
theorem dX5_row_53 : decode cX5_row 53 = .ok (.iload_n 2, 1) := by decide +kernel
theorem dX5_row_54 : decode cX5_row 54 = .ok (.iastore, 1) := by decide +kernel
theorem dX5_row_55 : decode cX5_row 55 = .ok (.aload_n 0, 1) := by decide +kernel
theorem dX5_row_56 : decode cX5_row 56 = .ok (.getfield 13, 3) := by decide +kernel
theorem dX5_row_59 : decode cX5_row 59 = .ok (.iload_n 1, 1) := by decide +kernel
theorem dX5_row_60 : decode cX5_row 60 = .ok (.iload_n 3, 1) := by decide +kernel
theorem dX5_row_61 : decode cX5_row 61 = .ok (.iastore, 1) := by decide +kernel
theorem dX5_row_62 : decode cX5_row 62 = .ok (.iconst 0, 1) := by decide +kernel
theorem dX5_row_63 : decode cX5_row 63 = .ok (.istore 4, 2) := by decide +kernel
theorem dX5_row_65 : decode cX5_row 65 = .ok (.iload 4, 2) := by decide +kernel
theorem dX5_row_67 : decode cX5_row 67 = .ok (.bipush 40, 2) := by decide +kernel
theorem dX5_row_69 : decode cX5_row 69 = .ok (.if_icmp .ge 22, 3) := by decide +kernel
theorem dX5_row_72 : decode cX5_row 72 = .ok (.aload_n 0, 1) := by decide +kernel
theorem dX5_row_73 : decode cX5_row 73 = .ok (.getfield 16, 3) := by decide +kernel
theorem dX5_row_76 : decode cX5_row 76 = .ok (.bipush 40, 2) := by decide +kernel
theorem dX5_row_78 : decode cX5_row 78 = .ok (.iload_n 1, 1) := by decide +kernel
theorem dX5_row_79 : decode cX5_row 79 = .ok (.imul, 1) := by decide +kernel
theorem dX5_row_80 : decode cX5_row 80 = .ok (.iload 4, 2) := by decide +kernel
theorem dX5_row_82 : decode cX5_row 82 = .ok (.iadd, 1) := by decide +kernel
theorem dX5_row_83 : decode cX5_row 83 = .ok (.iconst 0, 1) := by decide +kernel
theorem dX5_row_84 : decode cX5_row 84 = .ok (.iastore, 1) := by decide +kernel
theorem dX5_row_85 : decode cX5_row 85 = .ok (.iinc 4 1, 3) := by decide +kernel
theorem dX5_row_88 : decode cX5_row 88 = .ok (.goto (-23), 3) := by decide +kernel
theorem dX5_row_91 : decode cX5_row 91 = .ok (.iload_n 3, 1) := by decide +kernel
theorem dX5_row_92 : decode cX5_row 92 = .ok (.ireturn, 1) := by decide +kernel
theorem dX5_set_0 : decode cX5_set 0 = .ok (.aload_n 0, 1) := by decide +kernel
theorem dX5_set_1 : decode cX5_set 1 = .ok (.iconst 0, 1) := by decide +kernel
theorem dX5_set_2 : decode cX5_set 2 = .ok (.putfield 47, 3) := by decide +kernel
theorem dX5_set_5 : decode cX5_set 5 = .ok (.iload_n 1, 1) := by decide +kernel
theorem dX5_set_6 : decode cX5_set 6 = .ok (.invokestatic 61, 3) := by decide +kernel
theorem dX5_set_9 : decode cX5_set 9 = .ok (.ifCond .ne 6, 3) := by decide +kernel
theorem dX5_set_12 : decode cX5_set 12 = .ok (.ldc 67, 2) := by decide +kernel
theorem dX5_set_14 : decode cX5_set 14 = .ok (.ireturn, 1) := by decide +kernel
theorem dX5_set_15 : decode cX5_set 15 = .ok (.aload_n 0, 1) := by decide +kernel
theorem dX5_set_16 : decode cX5_set 16 = .ok (.iconst 0, 1) := by decide +kernel
theorem dX5_set_17 : decode cX5_set 17 = .ok (.putfield 51, 3) := by decide +kernel
theorem dX5_set_20 : decode cX5_set 20 = .ok (.aload_n 0, 1) := by decide +kernel
theorem dX5_set_21 : decode cX5_set 21 = .ok (.getfield 7, 3) := by decide +kernel
theorem dX5_set_24 : decode cX5_set 24 = .ok (.iload_n 1, 1) := by decide +kernel
theorem dX5_set_25 : decode cX5_set 25 = .ok (.iaload, 1) := by decide +kernel
theorem dX5_set_26 : decode cX5_set 26 = .ok (.ifCond .ge 9, 3) := by decide +kernel
theorem dX5_set_29 : decode cX5_set 29 = .ok (.aload_n 0, 1) := by decide +kernel
theorem dX5_set_30 : decode cX5_set 30 = .ok (.iconst 1, 1) := by decide +kernel
theorem dX5_set_31 : decode cX5_set 31 = .ok (.invokevirtual 68, 3) := by decide +kernel
theorem dX5_set_34 : decode cX5_set 34 = .ok (.ireturn, 1) := by decide +kernel
theorem dX5_set_35 : decode cX5_set 35 = .ok (.iload_n 2, 1) := by decide +kernel
theorem dX5_set_36 : decode cX5_set 36 = .ok (.i2l, 1) := by decide +kernel
theorem dX5_set_37 : decode cX5_set 37 = .ok (.lconst 0, 1) := by decide +kernel
theorem dX5_set_38 : decode cX5_set 38 = .ok (.aload_n 0, 1) := by decide +kernel
theorem dX5_set_39 : decode cX5_set 39 = .ok (.getfield 13, 3) := by decide +kernel
theorem dX5_set_42 : decode cX5_set 42 = .ok (.iload_n 1, 1) := by decide +kernel
theorem dX5_set_43 : decode cX5_set 43 = .ok (.iaload, 1) := by decide +kernel
theorem dX5_set_44 : decode cX5_set 44 = .ok (.iconst 1, 1) := by decide +kernel
theorem dX5_set_45 : decode cX5_set 45 = .ok (.isub, 1) := by decide +kernel
theorem dX5_set_46 : decode cX5_set 46 = .ok (.i2l, 1) := by decide +kernel
theorem dX5_set_47 : decode cX5_set 47 = .ok (.invokestatic 57, 3) := by decide +kernel
theorem dX5_set_50 : decode cX5_set 50 = .ok (.ifCond .ne 9, 3) := by decide +kernel
theorem dX5_set_53 : decode cX5_set 53 = .ok (.aload_n 0, 1) := by decide +kernel
theorem dX5_set_54 : decode cX5_set 54 = .ok (.iconst 2, 1) := by decide +kernel
theorem dX5_set_55 : decode cX5_set 55 = .ok (.invokevirtual 68, 3) := by decide +kernel
theorem dX5_set_58 : decode cX5_set 58 = .ok (.ireturn, 1) := by decide +kernel
theorem dX5_set_59 : decode cX5_set 59 = .ok (.aload_n 0, 1) := by decide +kernel
theorem dX5_set_60 : decode cX5_set 60 = .ok (.getfield 16, 3) := by decide +kernel
theorem dX5_set_63 : decode cX5_set 63 = .ok (.bipush 40, 2) := by decide +kernel
theorem dX5_set_65 : decode cX5_set 65 = .ok (.iload_n 1, 1) := by decide +kernel
theorem dX5_set_66 : decode cX5_set 66 = .ok (.imul, 1) := by decide +kernel
theorem dX5_set_67 : decode cX5_set 67 = .ok (.iload_n 2, 1) := by decide +kernel
theorem dX5_set_68 : decode cX5_set 68 = .ok (.iadd, 1) := by decide +kernel
theorem dX5_set_69 : decode cX5_set 69 = .ok (.aload_n 0, 1) := by decide +kernel
theorem dX5_set_70 : decode cX5_set 70 = .ok (.getfield 7, 3) := by decide +kernel
theorem dX5_set_73 : decode cX5_set 73 = .ok (.iload_n 1, 1) := by decide +kernel
theorem dX5_set_74 : decode cX5_set 74 = .ok (.iaload, 1) := by decide +kernel
theorem dX5_set_75 : decode cX5_set 75 = .ok (.ifCond .ne 8, 3) := by decide +kernel
theorem dX5_set_78 : decode cX5_set 78 = .ok (.iload_n 3, 1) := by decide +kernel
theorem dX5_set_79 : decode cX5_set 79 = .ok (.i2b, 1) := by decide +kernel
theorem dX5_set_80 : decode cX5_set 80 = .ok (.goto 19, 3) := by decide +kernel
theorem dX5_set_83 : decode cX5_set 83 = .ok (.aload_n 0, 1) := by decide +kernel
theorem dX5_set_84 : decode cX5_set 84 = .ok (.getfield 7, 3) := by decide +kernel
theorem dX5_set_87 : decode cX5_set 87 = .ok (.iload_n 1, 1) := by decide +kernel
theorem dX5_set_88 : decode cX5_set 88 = .ok (.iaload, 1) := by decide +kernel
theorem dX5_set_89 : decode cX5_set 89 = .ok (.iconst 1, 1) := by decide +kernel
theorem dX5_set_90 : decode cX5_set 90 = .ok (.if_icmp .ne 8, 3) := by decide +kernel
theorem dX5_set_93 : decode cX5_set 93 = .ok (.iload_n 3, 1) := by decide +kernel
theorem dX5_set_94 : decode cX5_set 94 = .ok (.i2s, 1) := by decide +kernel
theorem dX5_set_95 : decode cX5_set 95 = .ok (.goto 4, 3) := by decide +kernel
theorem dX5_set_98 : decode cX5_set 98 = .ok (.iload_n 3, 1) := by decide +kernel
theorem dX5_set_99 : decode cX5_set 99 = .ok (.iastore, 1) := by decide +kernel
theorem dX5_set_100 : decode cX5_set 100 = .ok (.aload_n 0, 1) := by decide +kernel
theorem dX5_set_101 : decode cX5_set 101 = .ok (.getfield 16, 3) := by decide +kernel
theorem dX5_set_104 : decode cX5_set 104 = .ok (.bipush 40, 2) := by decide +kernel
theorem dX5_set_106 : decode cX5_set 106 = .ok (.iload_n 1, 1) := by decide +kernel
theorem dX5_set_107 : decode cX5_set 107 = .ok (.imul, 1) := by decide +kernel
theorem dX5_set_108 : decode cX5_set 108 = .ok (.iload_n 2, 1) := by decide +kernel
theorem dX5_set_109 : decode cX5_set 109 = .ok (.iadd, 1) := by decide +kernel
theorem dX5_set_110 : decode cX5_set 110 = .ok (.iaload, 1) := by decide +kernel
theorem dX5_set_111 : decode cX5_set 111 = .ok (.ireturn, 1) := by decide +kernel
theorem dX5_copy_0 : decode cX5_copy 0 = .ok (.aload_n 0, 1) := by decide +kernel
theorem dX5_copy_1 : decode cX5_copy 1 = .ok (.iconst 0, 1) := by decide +kernel
theorem dX5_copy_2 : decode cX5_copy 2 = .ok (.putfield 47, 3) := by decide +kernel
theorem dX5_copy_5 : decode cX5_copy 5 = .ok (.iload_n 1, 1) := by decide +kernel
theorem dX5_copy_6 : decode cX5_copy 6 = .ok (.invokestatic 61, 3) := by decide +kernel
theorem dX5_copy_9 : decode cX5_copy 9 = .ok (.ifCond .eq 10, 3) := by decide +kernel
theorem dX5_copy_12 : decode cX5_copy 12 = .ok (.iload_n 3, 1) := by decide +kernel
theorem dX5_copy_13 : decode cX5_copy 13 = .ok (.invokestatic 61, 3) := by decide +kernel
theorem dX5_copy_16 : decode cX5_copy 16 = .ok (.ifCond .ne 6, 3) := by decide +kernel
theorem dX5_copy_19 : decode cX5_copy 19 = .ok (.ldc 67, 2) := by decide +kernel
theorem dX5_copy_21 : decode cX5_copy 21 = .ok (.ireturn, 1) := by decide +kernel
theorem dX5_copy_22 : decode cX5_copy 22 = .ok (.aload_n 0, 1) := by decide +kernel
theorem dX5_copy_23 : decode cX5_copy 23 = .ok (.iconst 0, 1) := by decide +kernel
theorem dX5_copy_24 : decode cX5_copy 24 = .ok (.putfield 51, 3) := by decide +kernel
theorem dX5_copy_27 : decode cX5_copy 27 = .ok (.aload_n 0, 1) := by decide +kernel
theorem dX5_copy_28 : decode cX5_copy 28 = .ok (.getfield 7, 3) := by decide +kernel
theorem dX5_copy_31 : decode cX5_copy 31 = .ok (.iload_n 1, 1) := by decide +kernel
theorem dX5_copy_32 : decode cX5_copy 32 = .ok (.iaload, 1) := by decide +kernel
theorem dX5_copy_33 : decode cX5_copy 33 = .ok (.ifCond .lt 12, 3) := by decide +kernel
theorem dX5_copy_36 : decode cX5_copy 36 = .ok (.aload_n 0, 1) := by decide +kernel
theorem dX5_copy_37 : decode cX5_copy 37 = .ok (.getfield 7, 3) := by decide +kernel
theorem dX5_copy_40 : decode cX5_copy 40 = .ok (.iload_n 3, 1) := by decide +kernel
theorem dX5_copy_41 : decode cX5_copy 41 = .ok (.iaload, 1) := by decide +kernel
theorem dX5_copy_42 : decode cX5_copy 42 = .ok (.ifCond .ge 9, 3) := by decide +kernel
theorem dX5_copy_45 : decode cX5_copy 45 = .ok (.aload_n 0, 1) := by decide +kernel
theorem dX5_copy_46 : decode cX5_copy 46 = .ok (.iconst 1, 1) := by decide +kernel
theorem dX5_copy_47 : decode cX5_copy 47 = .ok (.invokevirtual 68, 3) := by decide +kernel
theorem dX5_copy_50 : decode cX5_copy 50 = .ok (.ireturn, 1) := by decide +kernel
theorem dX5_copy_51 : decode cX5_copy 51 = .ok (.aload_n 0, 1) := by decide +kernel
theorem dX5_copy_52 : decode cX5_copy 52 = .ok (.getfield 7, 3) := by decide +kernel
theorem dX5_copy_55 : decode cX5_copy 55 = .ok (.iload_n 1, 1) := by decide +kernel
theorem dX5_copy_56 : decode cX5_copy 56 = .ok (.iaload, 1) := by decide +kernel
theorem dX5_copy_57 : decode cX5_copy 57 = .ok (.aload_n 0, 1) := by decide +kernel
theorem dX5_copy_58 : decode cX5_copy 58 = .ok (.getfield 7, 3) := by decide +kernel
theorem dX5_copy_61 : decode cX5_copy 61 = .ok (.iload_n 3, 1) := by decide +kernel
theorem dX5_copy_62 : decode cX5_copy 62 = .ok (.iaload, 1) := by decide +kernel
theorem dX5_copy_63 : decode cX5_copy 63 = .ok (.if_icmp .eq 9, 3) := by decide +kernel
theorem dX5_copy_66 : decode cX5_copy 66 = .ok (.aload_n 0, 1) := by decide +kernel
theorem dX5_copy_67 : decode cX5_copy 67 = .ok (.iconst 5, 1) := by decide +kernel
theorem dX5_copy_68 : decode cX5_copy 68 = .ok (.invokevirtual 68, 3) := by decide +kernel
theorem dX5_copy_71 : decode cX5_copy 71 = .ok (.ireturn, 1) := by decide +kernel
theorem dX5_copy_72 : decode cX5_copy 72 = .ok (.iload_n 2, 1) := by decide +kernel
theorem dX5_copy_73 : decode cX5_copy 73 = .ok (.ifCond .lt 48, 3) := by decide +kernel
theorem dX5_copy_76 : decode cX5_copy 76 = .ok (.iload 4, 2) := by decide +kernel
theorem dX5_copy_78 : decode cX5_copy 78 = .ok (.ifCond .lt 43, 3) := by decide +kernel
theorem dX5_copy_81 : decode cX5_copy 81 = .ok (.iload 5, 2) := by decide +kernel
theorem dX5_copy_83 : decode cX5_copy 83 = .ok (.ifCond .lt 38, 3) := by decide +kernel
theorem dX5_copy_86 : decode cX5_copy 86 = .ok (.iload_n 2, 1) := by decide +kernel
theorem dX5_copy_87 : decode cX5_copy 87 = .ok (.i2l, 1) := by decide +kernel
theorem dX5_copy_88 : decode cX5_copy 88 = .ok (.iload 5, 2) := by decide +kernel
theorem dX5_copy_90 : decode cX5_copy 90 = .ok (.i2l, 1) := by decide +kernel
theorem dX5_copy_91 : decode cX5_copy 91 = .ok (.ladd, 1) := by decide +kernel
theorem dX5_copy_92 : decode cX5_copy 92 = .ok (.aload_n 0, 1) := by decide +kernel
theorem dX5_copy_93 : decode cX5_copy 93 = .ok (.getfield 13, 3) := by decide +kernel
theorem dX5_copy_96 : decode cX5_copy 96 = .ok (.iload_n 1, 1) := by decide +kernel
theorem dX5_copy_97 : decode cX5_copy 97 = .ok (.iaload, 1) := by decide +kernel
theorem dX5_copy_98 : decode cX5_copy 98 = .ok (.i2l, 1) := by decide +kernel
theorem dX5_copy_99 : decode cX5_copy 99 = .ok (.lcmp, 1) := by decide +kernel
theorem dX5_copy_100 : decode cX5_copy 100 = .ok (.ifCond .gt 21, 3) := by decide +kernel
theorem dX5_copy_103 : decode cX5_copy 103 = .ok (.iload 4, 2) := by decide +kernel
theorem dX5_copy_105 : decode cX5_copy 105 = .ok (.i2l, 1) := by decide +kernel
theorem dX5_copy_106 : decode cX5_copy 106 = .ok (.iload 5, 2) := by decide +kernel
theorem dX5_copy_108 : decode cX5_copy 108 = .ok (.i2l, 1) := by decide +kernel
theorem dX5_copy_109 : decode cX5_copy 109 = .ok (.ladd, 1) := by decide +kernel
theorem dX5_copy_110 : decode cX5_copy 110 = .ok (.aload_n 0, 1) := by decide +kernel
theorem dX5_copy_111 : decode cX5_copy 111 = .ok (.getfield 13, 3) := by decide +kernel
theorem dX5_copy_114 : decode cX5_copy 114 = .ok (.iload_n 3, 1) := by decide +kernel
theorem dX5_copy_115 : decode cX5_copy 115 = .ok (.iaload, 1) := by decide +kernel
theorem dX5_copy_116 : decode cX5_copy 116 = .ok (.i2l, 1) := by decide +kernel
theorem dX5_copy_117 : decode cX5_copy 117 = .ok (.lcmp, 1) := by decide +kernel
theorem dX5_copy_118 : decode cX5_copy 118 = .ok (.ifCond .le 9, 3) := by decide +kernel
theorem dX5_copy_121 : decode cX5_copy 121 = .ok (.aload_n 0, 1) := by decide +kernel
theorem dX5_copy_122 : decode cX5_copy 122 = .ok (.iconst 2, 1) := by decide +kernel
theorem dX5_copy_123 : decode cX5_copy 123 = .ok (.invokevirtual 68, 3) := by decide +kernel
theorem dX5_copy_126 : decode cX5_copy 126 = .ok (.ireturn, 1) := by decide +kernel
theorem dX5_copy_127 : decode cX5_copy 127 = .ok (.iload_n 2, 1) := by decide +kernel
theorem dX5_copy_128 : decode cX5_copy 128 = .ok (.iload 4, 2) := by decide +kernel
theorem dX5_copy_130 : decode cX5_copy 130 = .ok (.if_icmp .lt 7, 3) := by decide +kernel
theorem dX5_copy_133 : decode cX5_copy 133 = .ok (.iconst 1, 1) := by decide +kernel
theorem dX5_copy_134 : decode cX5_copy 134 = .ok (.goto 4, 3) := by decide +kernel
theorem dX5_copy_137 : decode cX5_copy 137 = .ok (.iconst 0, 1) := by decide +kernel
theorem dX5_copy_138 : decode cX5_copy 138 = .ok (.istore 6, 2) := by decide +kernel
theorem dX5_copy_140 : decode cX5_copy 140 = .ok (.iconst 0, 1) := by decide +kernel
theorem dX5_copy_141 : decode cX5_copy 141 = .ok (.istore 7, 2) := by decide +kernel
theorem dX5_copy_143 : decode cX5_copy 143 = .ok (.iload 7, 2) := by decide +kernel
theorem dX5_copy_145 : decode cX5_copy 145 = .ok (.iload 5, 2) := by decide +kernel
theorem dX5_copy_147 : decode cX5_copy 147 = .ok (.if_icmp .ge 57, 3) := by decide +kernel
theorem dX5_copy_150 : decode cX5_copy 150 = .ok (.iload 6, 2) := by decide +kernel
theorem dX5_copy_152 : decode cX5_copy 152 = .ok (.ifCond .eq 8, 3) := by decide +kernel
theorem dX5_copy_155 : decode cX5_copy 155 = .ok (.iload 7, 2) := by decide +kernel
theorem dX5_copy_157 : decode cX5_copy 157 = .ok (.goto 10, 3) := by decide +kernel
theorem dX5_copy_160 : decode cX5_copy 160 = .ok (.iload 5, 2) := by decide +kernel
theorem dX5_copy_162 : decode cX5_copy 162 = .ok (.iconst 1, 1) := by decide +kernel
theorem dX5_copy_163 : decode cX5_copy 163 = .ok (.isub, 1) := by decide +kernel
theorem dX5_copy_164 : decode cX5_copy 164 = .ok (.iload 7, 2) := by decide +kernel
theorem dX5_copy_166 : decode cX5_copy 166 = .ok (.isub, 1) := by decide +kernel
theorem dX5_copy_167 : decode cX5_copy 167 = .ok (.istore 8, 2) := by decide +kernel
theorem dX5_copy_169 : decode cX5_copy 169 = .ok (.aload_n 0, 1) := by decide +kernel
theorem dX5_copy_170 : decode cX5_copy 170 = .ok (.getfield 16, 3) := by decide +kernel
theorem dX5_copy_173 : decode cX5_copy 173 = .ok (.bipush 40, 2) := by decide +kernel
theorem dX5_copy_175 : decode cX5_copy 175 = .ok (.iload_n 3, 1) := by decide +kernel
theorem dX5_copy_176 : decode cX5_copy 176 = .ok (.imul, 1) := by decide +kernel
theorem dX5_copy_177 : decode cX5_copy 177 = .ok (.iload 4, 2) := by decide +kernel
theorem dX5_copy_179 : decode cX5_copy 179 = .ok (.iadd, 1) := by decide +kernel
theorem dX5_copy_180 : decode cX5_copy 180 = .ok (.iload 8, 2) := by decide +kernel
theorem dX5_copy_182 : decode cX5_copy 182 = .ok (.iadd, 1) := by decide +kernel
theorem dX5_copy_183 : decode cX5_copy 183 = .ok (.aload_n 0, 1) := by decide +kernel
theorem dX5_copy_184 : decode cX5_copy 184 = .ok (.getfield 16, 3) := by decide +kernel
theorem dX5_copy_187 : decode cX5_copy 187 = .ok (.bipush 40, 2) := by decide +kernel
theorem dX5_copy_189 : decode cX5_copy 189 = .ok (.iload_n 1, 1) := by decide +kernel
theorem dX5_copy_190 : decode cX5_copy 190 = .ok (.imul, 1) := by decide +kernel
theorem dX5_copy_191 : decode cX5_copy 191 = .ok (.iload_n 2, 1) := by decide +kernel
theorem dX5_copy_192 : decode cX5_copy 192 = .ok (.iadd, 1) := by decide +kernel
theorem dX5_copy_193 : decode cX5_copy 193 = .ok (.iload 8, 2) := by decide +kernel
theorem dX5_copy_195 : decode cX5_copy 195 = .ok (.iadd, 1) := by decide +kernel
theorem dX5_copy_196 : decode cX5_copy 196 = .ok (.iaload, 1) := by decide +kernel
theorem dX5_copy_197 : decode cX5_copy 197 = .ok (.iastore, 1) := by decide +kernel
theorem dX5_copy_198 : decode cX5_copy 198 = .ok (.iinc 7 1, 3) := by decide +kernel
theorem dX5_copy_201 : decode cX5_copy 201 = .ok (.goto (-58), 3) := by decide +kernel
theorem dX5_copy_204 : decode cX5_copy 204 = .ok (.iload 5, 2) := by decide +kernel
theorem dX5_copy_206 : decode cX5_copy 206 = .ok (.ireturn, 1) := by decide +kernel
theorem dX5_drop_0 : decode cX5_drop 0 = .ok (.aload_n 0, 1) := by decide +kernel
theorem dX5_drop_1 : decode cX5_drop 1 = .ok (.iconst 0, 1) := by decide +kernel
theorem dX5_drop_2 : decode cX5_drop 2 = .ok (.putfield 47, 3) := by decide +kernel
theorem dX5_drop_5 : decode cX5_drop 5 = .ok (.iload_n 1, 1) := by decide +kernel
theorem dX5_drop_6 : decode cX5_drop 6 = .ok (.invokestatic 61, 3) := by decide +kernel
theorem dX5_drop_9 : decode cX5_drop 9 = .ok (.ifCond .ne 6, 3) := by decide +kernel
theorem dX5_drop_12 : decode cX5_drop 12 = .ok (.ldc 67, 2) := by decide +kernel
theorem dX5_drop_14 : decode cX5_drop 14 = .ok (.ireturn, 1) := by decide +kernel
theorem dX5_drop_15 : decode cX5_drop 15 = .ok (.aload_n 0, 1) := by decide +kernel
theorem dX5_drop_16 : decode cX5_drop 16 = .ok (.iconst 0, 1) := by decide +kernel
theorem dX5_drop_17 : decode cX5_drop 17 = .ok (.putfield 51, 3) := by decide +kernel
theorem dX5_drop_20 : decode cX5_drop 20 = .ok (.aload_n 0, 1) := by decide +kernel
theorem dX5_drop_21 : decode cX5_drop 21 = .ok (.getfield 7, 3) := by decide +kernel
theorem dX5_drop_24 : decode cX5_drop 24 = .ok (.iload_n 1, 1) := by decide +kernel
theorem dX5_drop_25 : decode cX5_drop 25 = .ok (.iaload, 1) := by decide +kernel
theorem dX5_drop_26 : decode cX5_drop 26 = .ok (.ifCond .ge 9, 3) := by decide +kernel
theorem dX5_drop_29 : decode cX5_drop 29 = .ok (.aload_n 0, 1) := by decide +kernel
theorem dX5_drop_30 : decode cX5_drop 30 = .ok (.iconst 1, 1) := by decide +kernel
theorem dX5_drop_31 : decode cX5_drop 31 = .ok (.invokevirtual 68, 3) := by decide +kernel
theorem dX5_drop_34 : decode cX5_drop 34 = .ok (.ireturn, 1) := by decide +kernel
theorem dX5_drop_35 : decode cX5_drop 35 = .ok (.aload_n 0, 1) := by decide +kernel
theorem dX5_drop_36 : decode cX5_drop 36 = .ok (.getfield 7, 3) := by decide +kernel
theorem dX5_drop_39 : decode cX5_drop 39 = .ok (.iload_n 1, 1) := by decide +kernel
theorem dX5_drop_40 : decode cX5_drop 40 = .ok (.iconst (-1), 1) := by decide +kernel
theorem dX5_drop_41 : decode cX5_drop 41 = .ok (.iastore, 1) := by decide +kernel
theorem dX5_drop_42 : decode cX5_drop 42 = .ok (.aload_n 0, 1) := by decide +kernel
theorem dX5_drop_43 : decode cX5_drop 43 = .ok (.getfield 13, 3) := by decide +kernel
theorem dX5_drop_46 : decode cX5_drop 46 = .ok (.iload_n 1, 1) := by decide +kernel
theorem dX5_drop_47 : decode cX5_drop 47 = .ok (.iaload, 1) := by decide +kernel
theorem dX5_drop_48 : decode cX5_drop 48 = .ok (.ireturn, 1) := by decide +kernel
theorem dX5_feed_0 : decode cX5_feed 0 = .ok (.aload_n 0, 1) := by decide +kernel
theorem dX5_feed_1 : decode cX5_feed 1 = .ok (.iconst 0, 1) := by decide +kernel
theorem dX5_feed_2 : decode cX5_feed 2 = .ok (.putfield 47, 3) := by decide +kernel
theorem dX5_feed_5 : decode cX5_feed 5 = .ok (.iload_n 1, 1) := by decide +kernel
theorem dX5_feed_6 : decode cX5_feed 6 = .ok (.i2l, 1) := by decide +kernel
theorem dX5_feed_7 : decode cX5_feed 7 = .ok (.lconst 0, 1) := by decide +kernel
theorem dX5_feed_8 : decode cX5_feed 8 = .ok (.ldc2_w 72, 3) := by decide +kernel
theorem dX5_feed_11 : decode cX5_feed 11 = .ok (.invokestatic 57, 3) := by decide +kernel
theorem dX5_feed_14 : decode cX5_feed 14 = .ok (.ifCond .ne 6, 3) := by decide +kernel
theorem dX5_feed_17 : decode cX5_feed 17 = .ok (.ldc 67, 2) := by decide +kernel
theorem dX5_feed_19 : decode cX5_feed 19 = .ok (.ireturn, 1) := by decide +kernel
theorem dX5_feed_20 : decode cX5_feed 20 = .ok (.aload_n 0, 1) := by decide +kernel
theorem dX5_feed_21 : decode cX5_feed 21 = .ok (.getfield 74, 3) := by decide +kernel
theorem dX5_feed_24 : decode cX5_feed 24 = .ok (.bipush 120, 2) := by decide +kernel
theorem dX5_feed_26 : decode cX5_feed 26 = .ok (.if_icmp .ne 6, 3) := by decide +kernel
theorem dX5_feed_29 : decode cX5_feed 29 = .ok (.ldc 77, 2) := by decide +kernel
theorem dX5_feed_31 : decode cX5_feed 31 = .ok (.ireturn, 1) := by decide +kernel
theorem dX5_feed_32 : decode cX5_feed 32 = .ok (.aload_n 0, 1) := by decide +kernel
theorem dX5_feed_33 : decode cX5_feed 33 = .ok (.getfield 31, 3) := by decide +kernel
theorem dX5_feed_36 : decode cX5_feed 36 = .ok (.aload_n 0, 1) := by decide +kernel
theorem dX5_feed_37 : decode cX5_feed 37 = .ok (.getfield 74, 3) := by decide +kernel
theorem dX5_feed_40 : decode cX5_feed 40 = .ok (.iload_n 1, 1) := by decide +kernel
theorem dX5_feed_41 : decode cX5_feed 41 = .ok (.iastore, 1) := by decide +kernel
theorem dX5_feed_42 : decode cX5_feed 42 = .ok (.aload_n 0, 1) := by decide +kernel
theorem dX5_feed_43 : decode cX5_feed 43 = .ok (.dup, 1) := by decide +kernel
theorem dX5_feed_44 : decode cX5_feed 44 = .ok (.getfield 74, 3) := by decide +kernel
theorem dX5_feed_47 : decode cX5_feed 47 = .ok (.iconst 1, 1) := by decide +kernel
theorem dX5_feed_48 : decode cX5_feed 48 = .ok (.iadd, 1) := by decide +kernel
theorem dX5_feed_49 : decode cX5_feed 49 = .ok (.putfield 74, 3) := by decide +kernel
theorem dX5_feed_52 : decode cX5_feed 52 = .ok (.aload_n 0, 1) := by decide +kernel
theorem dX5_feed_53 : decode cX5_feed 53 = .ok (.getfield 74, 3) := by decide +kernel
theorem dX5_feed_56 : decode cX5_feed 56 = .ok (.ireturn, 1) := by decide +kernel
theorem dX5_bad_0 : decode cX5_bad 0 = .ok (.aload_n 0, 1) := by decide +kernel
theorem dX5_bad_1 : decode cX5_bad 1 = .ok (.getfield 78, 3) := by decide +kernel
theorem dX5_bad_4 : decode cX5_bad 4 = .ok (.ifCond .ne 16, 3) := by decide +kernel
theorem dX5_bad_7 : decode cX5_bad 7 = .ok (.aload_n 0, 1) := by decide +kernel
theorem dX5_bad_8 : decode cX5_bad 8 = .ok (.iload_n 1, 1) := by decide +kernel
theorem dX5_bad_9 : decode cX5_bad 9 = .ok (.putfield 78, 3) := by decide +kernel
theorem dX5_bad_12 : decode cX5_bad 12 = .ok (.aload_n 0, 1) := by decide +kernel
theorem dX5_bad_13 : decode cX5_bad 13 = .ok (.aload_n 0, 1) := by decide +kernel
theorem dX5_bad_14 : decode cX5_bad 14 = .ok (.getfield 81, 3) := by decide +kernel
theorem dX5_bad_17 : decode cX5_bad 17 = .ok (.putfield 84, 3) := by decide +kernel
theorem dX5_bad_20 : decode cX5_bad 20 = .ok (.return_, 1) := by decide +kernel
theorem dX5_nextToken_0 : decode cX5_nextToken 0 = .ok (.aload_n 0, 1) := by decide +kernel
theorem dX5_nextToken_1 : decode cX5_nextToken 1 = .ok (.aload_n 0, 1) := by decide +kernel
theorem dX5_nextToken_2 : decode cX5_nextToken 2 = .ok (.getfield 87, 3) := by decide +kernel
theorem dX5_nextToken_5 : decode cX5_nextToken 5 = .ok (.putfield 81, 3) := by decide +kernel
theorem dX5_nextToken_8 : decode cX5_nextToken 8 = .ok (.aload_n 0, 1) := by decide +kernel
theorem dX5_nextToken_9 : decode cX5_nextToken 9 = .ok (.aload_n 0, 1) := by decide +kernel
theorem dX5_nextToken_10 : decode cX5_nextToken 10 = .ok (.getfield 87, 3) := by decide +kernel
theorem dX5_nextToken_13 : decode cX5_nextToken 13 = .ok (.aload_n 0, 1) := by decide +kernel
theorem dX5_nextToken_14 : decode cX5_nextToken 14 = .ok (.getfield 74, 3) := by decide +kernel
theorem dX5_nextToken_17 : decode cX5_nextToken 17 = .ok (.if_icmp .ge 15, 3) := by decide +kernel
theorem dX5_nextToken_20 : decode cX5_nextToken 20 = .ok (.aload_n 0, 1) := by decide +kernel
theorem dX5_nextToken_21 : decode cX5_nextToken 21 = .ok (.getfield 31, 3) := by decide +kernel
theorem dX5_nextToken_24 : decode cX5_nextToken 24 = .ok (.aload_n 0, 1) := by decide +kernel
theorem dX5_nextToken_25 : decode cX5_nextToken 25 = .ok (.getfield 87, 3) := by decide +kernel
theorem dX5_nextToken_28 : decode cX5_nextToken 28 = .ok (.iaload, 1) := by decide +kernel
theorem dX5_nextToken_29 : decode cX5_nextToken 29 = .ok (.goto 5, 3) := by decide +kernel
theorem dX5_nextToken_32 : decode cX5_nextToken 32 = .ok (.ldc 90, 2) := by decide +kernel
theorem dX5_nextToken_34 : decode cX5_nextToken 34 = .ok (.putfield 91, 3) := by decide +kernel
theorem dX5_nextToken_37 : decode cX5_nextToken 37 = .ok (.aload_n 0, 1) := by decide +kernel
theorem dX5_nextToken_38 : decode cX5_nextToken 38 = .ok (.aload_n 0, 1) := by decide +kernel
theorem dX5_nextToken_39 : decode cX5_nextToken 39 = .ok (.getfield 87, 3) := by decide +kernel
theorem dX5_nextToken_42 : decode cX5_nextToken 42 = .ok (.aload_n 0, 1) := by decide +kernel
theorem dX5_nextToken_43 : decode cX5_nextToken 43 = .ok (.getfield 74, 3) := by decide +kernel
theorem dX5_nextToken_46 : decode cX5_nextToken 46 = .ok (.if_icmp .ne 7, 3) := by decide +kernel
theorem dX5_nextToken_49 : decode cX5_nextToken 49 = .ok (.iconst 1, 1) := by decide +kernel
theorem dX5_nextToken_50 : decode cX5_nextToken 50 = .ok (.goto 68, 3) := by decide +kernel
theorem dX5_nextToken_53 : decode cX5_nextToken 53 = .ok (.aload_n 0, 1) := by decide +kernel
theorem dX5_nextToken_54 : decode cX5_nextToken 54 = .ok (.getfield 91, 3) := by decide +kernel
theorem dX5_nextToken_57 : decode cX5_nextToken 57 = .ok (.i2l, 1) := by decide +kernel
theorem dX5_nextToken_58 : decode cX5_nextToken 58 = .ok (.ldc2_w 94, 3) := by decide +kernel
theorem dX5_nextToken_61 : decode cX5_nextToken 61 = .ok (.ldc2_w 96, 3) := by decide +kernel
theorem dX5_nextToken_64 : decode cX5_nextToken 64 = .ok (.invokestatic 57, 3) := by decide +kernel
theorem dX5_nextToken_67 : decode cX5_nextToken 67 = .ok (.ifCond .eq 7, 3) := by decide +kernel
theorem dX5_nextToken_70 : decode cX5_nextToken 70 = .ok (.iconst 2, 1) := by decide +kernel
theorem dX5_nextToken_71 : decode cX5_nextToken 71 = .ok (.goto 47, 3) := by decide +kernel
theorem dX5_nextToken_74 : decode cX5_nextToken 74 = .ok (.aload_n 0, 1) := by decide +kernel
theorem dX5_nextToken_75 : decode cX5_nextToken 75 = .ok (.getfield 91, 3) := by decide +kernel
theorem dX5_nextToken_78 : decode cX5_nextToken 78 = .ok (.i2l, 1) := by decide +kernel
theorem dX5_nextToken_79 : decode cX5_nextToken 79 = .ok (.ldc2_w 98, 3) := by decide +kernel
theorem dX5_nextToken_82 : decode cX5_nextToken 82 = .ok (.ldc2_w 100, 3) := by decide +kernel
theorem dX5_nextToken_85 : decode cX5_nextToken 85 = .ok (.invokestatic 57, 3) := by decide +kernel
theorem dX5_nextToken_88 : decode cX5_nextToken 88 = .ok (.ifCond .eq 7, 3) := by decide +kernel
theorem dX5_nextToken_91 : decode cX5_nextToken 91 = .ok (.iconst 3, 1) := by decide +kernel
theorem dX5_nextToken_92 : decode cX5_nextToken 92 = .ok (.goto 26, 3) := by decide +kernel
theorem dX5_nextToken_95 : decode cX5_nextToken 95 = .ok (.aload_n 0, 1) := by decide +kernel
theorem dX5_nextToken_96 : decode cX5_nextToken 96 = .ok (.getfield 91, 3) := by decide +kernel
theorem dX5_nextToken_99 : decode cX5_nextToken 99 = .ok (.bipush 44, 2) := by decide +kernel
theorem dX5_nextToken_101 : decode cX5_nextToken 101 = .ok (.if_icmp .eq 12, 3) := by decide +kernel
theorem dX5_nextToken_104 : decode cX5_nextToken 104 = .ok (.aload_n 0, 1) := by decide +kernel
theorem dX5_nextToken_105 : decode cX5_nextToken 105 = .ok (.getfield 91, 3) := by decide +kernel
theorem dX5_nextToken_108 : decode cX5_nextToken 108 = .ok (.bipush 59, 2) := by decide +kernel
theorem dX5_nextToken_110 : decode cX5_nextToken 110 = .ok (.if_icmp .ne 7, 3) := by decide +kernel
theorem dX5_nextToken_113 : decode cX5_nextToken 113 = .ok (.iconst 4, 1) := by decide +kernel
theorem dX5_nextToken_114 : decode cX5_nextToken 114 = .ok (.goto 4, 3) := by decide +kernel
theorem dX5_nextToken_117 : decode cX5_nextToken 117 = .ok (.iconst 0, 1) := by decide +kernel
theorem dX5_nextToken_118 : decode cX5_nextToken 118 = .ok (.putfield 102, 3) := by decide +kernel
theorem dX5_nextToken_121 : decode cX5_nextToken 121 = .ok (.aload_n 0, 1) := by decide +kernel
theorem dX5_nextToken_122 : decode cX5_nextToken 122 = .ok (.dup, 1) := by decide +kernel
theorem dX5_nextToken_123 : decode cX5_nextToken 123 = .ok (.getfield 87, 3) := by decide +kernel
theorem dX5_nextToken_126 : decode cX5_nextToken 126 = .ok (.aload_n 0, 1) := by decide +kernel
theorem dX5_nextToken_127 : decode cX5_nextToken 127 = .ok (.getfield 87, 3) := by decide +kernel
theorem dX5_nextToken_130 : decode cX5_nextToken 130 = .ok (.aload_n 0, 1) := by decide +kernel
theorem dX5_nextToken_131 : decode cX5_nextToken 131 = .ok (.getfield 74, 3) := by decide +kernel
theorem dX5_nextToken_134 : decode cX5_nextToken 134 = .ok (.if_icmp .ge 7, 3) := by decide +kernel
theorem dX5_nextToken_137 : decode cX5_nextToken 137 = .ok (.iconst 1, 1) := by decide +kernel
theorem dX5_nextToken_138 : decode cX5_nextToken 138 = .ok (.goto 4, 3) := by decide +kernel
theorem dX5_nextToken_141 : decode cX5_nextToken 141 = .ok (.iconst 0, 1) := by decide +kernel
theorem dX5_nextToken_142 : decode cX5_nextToken 142 = .ok (.iadd, 1) := by decide +kernel
theorem dX5_nextToken_143 : decode cX5_nextToken 143 = .ok (.putfield 87, 3) := by decide +kernel
theorem dX5_nextToken_146 : decode cX5_nextToken 146 = .ok (.aload_n 0, 1) := by decide +kernel
theorem dX5_nextToken_147 : decode cX5_nextToken 147 = .ok (.getfield 102, 3) := by decide +kernel
theorem dX5_nextToken_150 : decode cX5_nextToken 150 = .ok (.iconst 3, 1) := by decide +kernel
theorem dX5_nextToken_151 : decode cX5_nextToken 151 = .ok (.if_icmp .ne 126, 3) := by decide +kernel
theorem dX5_nextToken_154 : decode cX5_nextToken 154 = .ok (.aload_n 0, 1) := by decide +kernel
theorem dX5_nextToken_155 : decode cX5_nextToken 155 = .ok (.dup, 1) := by decide +kernel
theorem dX5_nextToken_156 : decode cX5_nextToken 156 = .ok (.getfield 91, 3) := by decide +kernel
theorem dX5_nextToken_159 : decode cX5_nextToken 159 = .ok (.bipush 48, 2) := by decide +kernel
theorem dX5_nextToken_161 : decode cX5_nextToken 161 = .ok (.isub, 1) := by decide +kernel
theorem dX5_nextToken_162 : decode cX5_nextToken 162 = .ok (.putfield 91, 3) := by decide +kernel
theorem dX5_nextToken_165 : decode cX5_nextToken 165 = .ok (.aload_n 0, 1) := by decide +kernel
theorem dX5_nextToken_166 : decode cX5_nextToken 166 = .ok (.getfield 87, 3) := by decide +kernel
theorem dX5_nextToken_169 : decode cX5_nextToken 169 = .ok (.aload_n 0, 1) := by decide +kernel
theorem dX5_nextToken_170 : decode cX5_nextToken 170 = .ok (.getfield 74, 3) := by decide +kernel
theorem dX5_nextToken_173 : decode cX5_nextToken 173 = .ok (.if_icmp .ge 82, 3) := by decide +kernel
theorem dX5_nextToken_176 : decode cX5_nextToken 176 = .ok (.aload_n 0, 1) := by decide +kernel
theorem dX5_nextToken_177 : decode cX5_nextToken 177 = .ok (.getfield 31, 3) := by decide +kernel
theorem dX5_nextToken_180 : decode cX5_nextToken 180 = .ok (.aload_n 0, 1) := by decide +kernel
theorem dX5_nextToken_181 : decode cX5_nextToken 181 = .ok (.getfield 87, 3) := by decide +kernel
theorem dX5_nextToken_184 : decode cX5_nextToken 184 = .ok (.iaload, 1) := by decide +kernel
theorem dX5_nextToken_185 : decode cX5_nextToken 185 = .ok (.i2l, 1) := by decide +kernel
theorem dX5_nextToken_186 : decode cX5_nextToken 186 = .ok (.ldc2_w 98, 3) := by decide +kernel
theorem dX5_nextToken_189 : decode cX5_nextToken 189 = .ok (.ldc2_w 100, 3) := by decide +kernel
theorem dX5_nextToken_192 : decode cX5_nextToken 192 = .ok (.invokestatic 57, 3) := by decide +kernel
theorem dX5_nextToken_195 : decode cX5_nextToken 195 = .ok (.ifCond .eq 60, 3) := by decide +kernel
theorem dX5_nextToken_198 : decode cX5_nextToken 198 = .ok (.aload_n 0, 1) := by decide +kernel
theorem dX5_nextToken_199 : decode cX5_nextToken 199 = .ok (.aload_n 0, 1) := by decide +kernel
theorem dX5_nextToken_200 : decode cX5_nextToken 200 = .ok (.getfield 87, 3) := by decide +kernel
theorem dX5_nextToken_203 : decode cX5_nextToken 203 = .ok (.aload_n 0, 1) := by decide +kernel
theorem dX5_nextToken_204 : decode cX5_nextToken 204 = .ok (.getfield 81, 3) := by decide +kernel
theorem dX5_nextToken_207 : decode cX5_nextToken 207 = .ok (.isub, 1) := by decide +kernel
theorem dX5_nextToken_208 : decode cX5_nextToken 208 = .ok (.iconst 2, 1) := by decide +kernel
theorem dX5_nextToken_209 : decode cX5_nextToken 209 = .ok (.if_icmp .ge 26, 3) := by decide +kernel
theorem dX5_nextToken_212 : decode cX5_nextToken 212 = .ok (.bipush 10, 2) := by decide +kernel
theorem dX5_nextToken_214 : decode cX5_nextToken 214 = .ok (.aload_n 0, 1) := by decide +kernel
theorem dX5_nextToken_215 : decode cX5_nextToken 215 = .ok (.getfield 91, 3) := by decide +kernel
theorem dX5_nextToken_218 : decode cX5_nextToken 218 = .ok (.imul, 1) := by decide +kernel
theorem dX5_nextToken_219 : decode cX5_nextToken 219 = .ok (.aload_n 0, 1) := by decide +kernel
theorem dX5_nextToken_220 : decode cX5_nextToken 220 = .ok (.getfield 31, 3) := by decide +kernel
theorem dX5_nextToken_223 : decode cX5_nextToken 223 = .ok (.aload_n 0, 1) := by decide +kernel
theorem dX5_nextToken_224 : decode cX5_nextToken 224 = .ok (.getfield 87, 3) := by decide +kernel
theorem dX5_nextToken_227 : decode cX5_nextToken 227 = .ok (.iaload, 1) := by decide +kernel
theorem dX5_nextToken_228 : decode cX5_nextToken 228 = .ok (.iadd, 1) := by decide +kernel
theorem dX5_nextToken_229 : decode cX5_nextToken 229 = .ok (.bipush 48, 2) := by decide +kernel
theorem dX5_nextToken_231 : decode cX5_nextToken 231 = .ok (.isub, 1) := by decide +kernel
theorem dX5_nextToken_232 : decode cX5_nextToken 232 = .ok (.goto 7, 3) := by decide +kernel
theorem dX5_nextToken_235 : decode cX5_nextToken 235 = .ok (.aload_n 0, 1) := by decide +kernel
theorem dX5_nextToken_236 : decode cX5_nextToken 236 = .ok (.getfield 91, 3) := by decide +kernel
theorem dX5_nextToken_239 : decode cX5_nextToken 239 = .ok (.putfield 91, 3) := by decide +kernel
theorem dX5_nextToken_242 : decode cX5_nextToken 242 = .ok (.aload_n 0, 1) := by decide +kernel
theorem dX5_nextToken_243 : decode cX5_nextToken 243 = .ok (.dup, 1) := by decide +kernel
theorem dX5_nextToken_244 : decode cX5_nextToken 244 = .ok (.getfield 87, 3) := by decide +kernel
theorem dX5_nextToken_247 : decode cX5_nextToken 247 = .ok (.iconst 1, 1) := by decide +kernel
theorem dX5_nextToken_248 : decode cX5_nextToken 248 = .ok (.iadd, 1) := by decide +kernel
theorem dX5_nextToken_249 : decode cX5_nextToken 249 = .ok (.putfield 87, 3) := by decide +kernel
theorem dX5_nextToken_252 : decode cX5_nextToken 252 = .ok (.goto (-87), 3) := by decide +kernel
theorem dX5_nextToken_255 : decode cX5_nextToken 255 = .ok (.aload_n 0, 1) := by decide +kernel
theorem dX5_nextToken_256 : decode cX5_nextToken 256 = .ok (.aload_n 0, 1) := by decide +kernel
theorem dX5_nextToken_257 : decode cX5_nextToken 257 = .ok (.getfield 87, 3) := by decide +kernel
theorem dX5_nextToken_260 : decode cX5_nextToken 260 = .ok (.aload_n 0, 1) := by decide +kernel
theorem dX5_nextToken_261 : decode cX5_nextToken 261 = .ok (.getfield 81, 3) := by decide +kernel
theorem dX5_nextToken_264 : decode cX5_nextToken 264 = .ok (.isub, 1) := by decide +kernel
theorem dX5_nextToken_265 : decode cX5_nextToken 265 = .ok (.iconst 2, 1) := by decide +kernel
theorem dX5_nextToken_266 : decode cX5_nextToken 266 = .ok (.if_icmp .le 7, 3) := by decide +kernel
theorem dX5_nextToken_269 : decode cX5_nextToken 269 = .ok (.iconst 0, 1) := by decide +kernel
theorem dX5_nextToken_270 : decode cX5_nextToken 270 = .ok (.goto 4, 3) := by decide +kernel
theorem dX5_nextToken_273 : decode cX5_nextToken 273 = .ok (.iconst 3, 1) := by decide +kernel
theorem dX5_nextToken_274 : decode cX5_nextToken 274 = .ok (.putfield 102, 3) := by decide +kernel
theorem dX5_nextToken_277 : decode cX5_nextToken 277 = .ok (.return_, 1) := by decide +kernel
theorem dX5_must_0 : decode cX5_must 0 = .ok (.iload_n 1, 1) := by decide +kernel
theorem dX5_must_1 : decode cX5_must 1 = .ok (.ifCond .ne 8, 3) := by decide +kernel
theorem dX5_must_4 : decode cX5_must 4 = .ok (.aload_n 0, 1) := by decide +kernel
theorem dX5_must_5 : decode cX5_must 5 = .ok (.iconst 1, 1) := by decide +kernel
theorem dX5_must_6 : decode cX5_must 6 = .ok (.invokevirtual 105, 3) := by decide +kernel
theorem dX5_must_9 : decode cX5_must 9 = .ok (.aload_n 0, 1) := by decide +kernel
theorem dX5_must_10 : decode cX5_must 10 = .ok (.getfield 78, 3) := by decide +kernel
theorem dX5_must_13 : decode cX5_must 13 = .ok (.ifCond .ne 7, 3) := by decide +kernel
theorem dX5_must_16 : decode cX5_must 16 = .ok (.aload_n 0, 1) := by decide +kernel
theorem dX5_must_17 : decode cX5_must 17 = .ok (.invokevirtual 109, 3) := by decide +kernel
theorem dX5_must_20 : decode cX5_must 20 = .ok (.return_, 1) := by decide +kernel
theorem dX5_isLetter_0 : decode cX5_isLetter 0 = .ok (.aload_n 0, 1) := by decide +kernel
theorem dX5_isLetter_1 : decode cX5_isLetter 1 = .ok (.getfield 78, 3) := by decide +kernel
theorem dX5_isLetter_4 : decode cX5_isLetter 4 = .ok (.ifCond .ne 23, 3) := by decide +kernel
theorem dX5_isLetter_7 : decode cX5_isLetter 7 = .ok (.aload_n 0, 1) := by decide +kernel
theorem dX5_isLetter_8 : decode cX5_isLetter 8 = .ok (.getfield 102, 3) := by decide +kernel
theorem dX5_isLetter_11 : decode cX5_isLetter 11 = .ok (.iconst 2, 1) := by decide +kernel
theorem dX5_isLetter_12 : decode cX5_isLetter 12 = .ok (.if_icmp .ne 15, 3) := by decide +kernel
theorem dX5_isLetter_15 : decode cX5_isLetter 15 = .ok (.aload_n 0, 1) := by decide +kernel
theorem dX5_isLetter_16 : decode cX5_isLetter 16 = .ok (.getfield 91, 3) := by decide +kernel
theorem dX5_isLetter_19 : decode cX5_isLetter 19 = .ok (.iload_n 1, 1) := by decide +kernel
theorem dX5_isLetter_20 : decode cX5_isLetter 20 = .ok (.if_icmp .ne 7, 3) := by decide +kernel
theorem dX5_isLetter_23 : decode cX5_isLetter 23 = .ok (.iconst 1, 1) := by decide +kernel
theorem dX5_isLetter_24 : decode cX5_isLetter 24 = .ok (.goto 4, 3) := by decide +kernel
theorem dX5_isLetter_27 : decode cX5_isLetter 27 = .ok (.iconst 0, 1) := by decide +kernel
theorem dX5_isLetter_28 : decode cX5_isLetter 28 = .ok (.ireturn, 1) := by decide +kernel
theorem dX5_number_0 : decode cX5_number 0 = .ok (.aload_n 0, 1) := by decide +kernel
theorem dX5_number_1 : decode cX5_number 1 = .ok (.getfield 78, 3) := by decide +kernel
theorem dX5_number_4 : decode cX5_number 4 = .ok (.ifCond .ne 16, 3) := by decide +kernel
theorem dX5_number_7 : decode cX5_number 7 = .ok (.aload_n 0, 1) := by decide +kernel
theorem dX5_number_8 : decode cX5_number 8 = .ok (.getfield 102, 3) := by decide +kernel
theorem dX5_number_11 : decode cX5_number 11 = .ok (.iconst 3, 1) := by decide +kernel
theorem dX5_number_12 : decode cX5_number 12 = .ok (.if_icmp .eq 8, 3) := by decide +kernel
theorem dX5_number_15 : decode cX5_number 15 = .ok (.aload_n 0, 1) := by decide +kernel
theorem dX5_number_16 : decode cX5_number 16 = .ok (.iconst 1, 1) := by decide +kernel
theorem dX5_number_17 : decode cX5_number 17 = .ok (.invokevirtual 105, 3) := by decide +kernel
theorem dX5_number_20 : decode cX5_number 20 = .ok (.aload_n 0, 1) := by decide +kernel
theorem dX5_number_21 : decode cX5_number 21 = .ok (.getfield 78, 3) := by decide +kernel
theorem dX5_number_24 : decode cX5_number 24 = .ok (.ifCond .ne 23, 3) := by decide +kernel
theorem dX5_number_27 : decode cX5_number 27 = .ok (.aload_n 0, 1) := by decide +kernel
theorem dX5_number_28 : decode cX5_number 28 = .ok (.getfield 91, 3) := by decide +kernel
theorem dX5_number_31 : decode cX5_number 31 = .ok (.i2l, 1) := by decide +kernel
theorem dX5_number_32 : decode cX5_number 32 = .ok (.iload_n 1, 1) := by decide +kernel
theorem dX5_number_33 : decode cX5_number 33 = .ok (.i2l, 1) := by decide +kernel
theorem dX5_number_34 : decode cX5_number 34 = .ok (.iload_n 2, 1) := by decide +kernel
theorem dX5_number_35 : decode cX5_number 35 = .ok (.i2l, 1) := by decide +kernel
theorem dX5_number_36 : decode cX5_number 36 = .ok (.invokestatic 57, 3) := by decide +kernel
theorem dX5_number_39 : decode cX5_number 39 = .ok (.ifCond .ne 8, 3) := by decide +kernel
theorem dX5_number_42 : decode cX5_number 42 = .ok (.aload_n 0, 1) := by decide +kernel
theorem dX5_number_43 : decode cX5_number 43 = .ok (.iconst 2, 1) := by decide +kernel
theorem dX5_number_44 : decode cX5_number 44 = .ok (.invokevirtual 105, 3) := by decide +kernel
theorem dX5_number_47 : decode cX5_number 47 = .ok (.aload_n 0, 1) := by decide +kernel
theorem dX5_number_48 : decode cX5_number 48 = .ok (.getfield 78, 3) := by decide +kernel
theorem dX5_number_51 : decode cX5_number 51 = .ok (.ifCond .ne 10, 3) := by decide +kernel
theorem dX5_number_54 : decode cX5_number 54 = .ok (.aload_n 0, 1) := by decide +kernel
theorem dX5_number_55 : decode cX5_number 55 = .ok (.getfield 91, 3) := by decide +kernel
theorem dX5_number_58 : decode cX5_number 58 = .ok (.goto 4, 3) := by decide +kernel
theorem dX5_number_61 : decode cX5_number 61 = .ok (.iload_n 1, 1) := by decide +kernel
theorem dX5_number_62 : decode cX5_number 62 = .ok (.istore_n 3, 1) := by decide +kernel
theorem dX5_number_63 : decode cX5_number 63 = .ok (.aload_n 0, 1) := by decide +kernel
theorem dX5_number_64 : decode cX5_number 64 = .ok (.iconst 1, 1) := by decide +kernel
theorem dX5_number_65 : decode cX5_number 65 = .ok (.invokevirtual 112, 3) := by decide +kernel
theorem dX5_number_68 : decode cX5_number 68 = .ok (.iload_n 3, 1) := by decide +kernel
theorem dX5_number_69 : decode cX5_number 69 = .ok (.ireturn, 1) := by decide +kernel
theorem dX5_mustSign_0 : decode cX5_mustSign 0 = .ok (.aload_n 0, 1) := by decide +kernel
theorem dX5_mustSign_1 : decode cX5_mustSign 1 = .ok (.aload_n 0, 1) := by decide +kernel
theorem dX5_mustSign_2 : decode cX5_mustSign 2 = .ok (.getfield 102, 3) := by decide +kernel
theorem dX5_mustSign_5 : decode cX5_mustSign 5 = .ok (.iconst 4, 1) := by decide +kernel
theorem dX5_mustSign_6 : decode cX5_mustSign 6 = .ok (.if_icmp .ne 15, 3) := by decide +kernel
theorem dX5_mustSign_9 : decode cX5_mustSign 9 = .ok (.aload_n 0, 1) := by decide +kernel
theorem dX5_mustSign_10 : decode cX5_mustSign 10 = .ok (.getfield 91, 3) := by decide +kernel
theorem dX5_mustSign_13 : decode cX5_mustSign 13 = .ok (.iload_n 1, 1) := by decide +kernel
theorem dX5_mustSign_14 : decode cX5_mustSign 14 = .ok (.if_icmp .ne 7, 3) := by decide +kernel
theorem dX5_mustSign_17 : decode cX5_mustSign 17 = .ok (.iconst 1, 1) := by decide +kernel
theorem dX5_mustSign_18 : decode cX5_mustSign 18 = .ok (.goto 4, 3) := by decide +kernel
theorem dX5_mustSign_21 : decode cX5_mustSign 21 = .ok (.iconst 0, 1) := by decide +kernel
theorem dX5_mustSign_22 : decode cX5_mustSign 22 = .ok (.invokevirtual 112, 3) := by decide +kernel
theorem dX5_mustSign_25 : decode cX5_mustSign 25 = .ok (.return_, 1) := by decide +kernel
theorem dX5_begin_0 : decode cX5_begin 0 = .ok (.aload_n 0, 1) := by decide +kernel
theorem dX5_begin_1 : decode cX5_begin 1 = .ok (.iconst 0, 1) := by decide +kernel
theorem dX5_begin_2 : decode cX5_begin 2 = .ok (.putfield 87, 3) := by decide +kernel
theorem dX5_begin_5 : decode cX5_begin 5 = .ok (.aload_n 0, 1) := by decide +kernel
theorem dX5_begin_6 : decode cX5_begin 6 = .ok (.iconst 0, 1) := by decide +kernel
theorem dX5_begin_7 : decode cX5_begin 7 = .ok (.putfield 78, 3) := by decide +kernel
theorem dX5_begin_10 : decode cX5_begin 10 = .ok (.aload_n 0, 1) := by decide +kernel
theorem dX5_begin_11 : decode cX5_begin 11 = .ok (.invokevirtual 109, 3) := by decide +kernel
theorem dX5_begin_14 : decode cX5_begin 14 = .ok (.return_, 1) := by decide +kernel
theorem dX5_failed_0 : decode cX5_failed 0 = .ok (.aload_n 0, 1) := by decide +kernel
theorem dX5_failed_1 : decode cX5_failed 1 = .ok (.getfield 78, 3) := by decide +kernel
theorem dX5_failed_4 : decode cX5_failed 4 = .ok (.ifCond .ne 16, 3) := by decide +kernel
theorem dX5_failed_7 : decode cX5_failed 7 = .ok (.aload_n 0, 1) := by decide +kernel
theorem dX5_failed_8 : decode cX5_failed 8 = .ok (.getfield 102, 3) := by decide +kernel
theorem dX5_failed_11 : decode cX5_failed 11 = .ok (.iconst 1, 1) := by decide +kernel
theorem dX5_failed_12 : decode cX5_failed 12 = .ok (.if_icmp .eq 8, 3) := by decide +kernel
theorem dX5_failed_15 : decode cX5_failed 15 = .ok (.aload_n 0, 1) := by decide +kernel
theorem dX5_failed_16 : decode cX5_failed 16 = .ok (.iconst 1, 1) := by decide +kernel
theorem dX5_failed_17 : decode cX5_failed 17 = .ok (.invokevirtual 105, 3) := by decide +kernel
theorem dX5_failed_20 : decode cX5_failed 20 = .ok (.aload_n 0, 1) := by decide +kernel
theorem dX5_failed_21 : decode cX5_failed 21 = .ok (.iconst 0, 1) := by decide +kernel
theorem dX5_failed_22 : decode cX5_failed 22 = .ok (.putfield 74, 3) := by decide +kernel
theorem dX5_failed_25 : decode cX5_failed 25 = .ok (.aload_n 0, 1) := by decide +kernel
theorem dX5_failed_26 : decode cX5_failed 26 = .ok (.aload_n 0, 1) := by decide +kernel
theorem dX5_failed_27 : decode cX5_failed 27 = .ok (.getfield 78, 3) := by decide +kernel
theorem dX5_failed_30 : decode cX5_failed 30 = .ok (.ifCond .le 10, 3) := by decide +kernel
theorem dX5_failed_33 : decode cX5_failed 33 = .ok (.aload_n 0, 1) := by decide +kernel
theorem dX5_failed_34 : decode cX5_failed 34 = .ok (.getfield 78, 3) := by decide +kernel
theorem dX5_failed_37 : decode cX5_failed 37 = .ok (.goto 7, 3) := by decide +kernel
theorem dX5_failed_40 : decode cX5_failed 40 = .ok (.aload_n 0, 1) := by decide +kernel
theorem dX5_failed_41 : decode cX5_failed 41 = .ok (.getfield 116, 3) := by decide +kernel
theorem dX5_failed_44 : decode cX5_failed 44 = .ok (.putfield 116, 3) := by decide +kernel
theorem dX5_failed_47 : decode cX5_failed 47 = .ok (.aload_n 0, 1) := by decide +kernel
theorem dX5_failed_48 : decode cX5_failed 48 = .ok (.getfield 78, 3) := by decide +kernel
theorem dX5_failed_51 : decode cX5_failed 51 = .ok (.ifCond .le 7, 3) := by decide +kernel
theorem dX5_failed_54 : decode cX5_failed 54 = .ok (.iconst 1, 1) := by decide +kernel
theorem dX5_failed_55 : decode cX5_failed 55 = .ok (.goto 4, 3) := by decide +kernel
theorem dX5_failed_58 : decode cX5_failed 58 = .ok (.iconst 0, 1) := by decide +kernel
theorem dX5_failed_59 : decode cX5_failed 59 = .ok (.ireturn, 1) := by decide +kernel
theorem dX5_fault_0 : decode cX5_fault 0 = .ok (.aload_n 0, 1) := by decide +kernel
theorem dX5_fault_1 : decode cX5_fault 1 = .ok (.iconst 0, 1) := by decide +kernel
theorem dX5_fault_2 : decode cX5_fault 2 = .ok (.putfield 47, 3) := by decide +kernel
theorem dX5_fault_5 : decode cX5_fault 5 = .ok (.aload_n 0, 1) := by decide +kernel
theorem dX5_fault_6 : decode cX5_fault 6 = .ok (.getfield 116, 3) := by decide +kernel
theorem dX5_fault_9 : decode cX5_fault 9 = .ok (.ireturn, 1) := by decide +kernel
theorem dX5_kindBy_0 : decode cX5_kindBy 0 = .ok (.iload_n 0, 1) := by decide +kernel
theorem dX5_kindBy_1 : decode cX5_kindBy 1 = .ok (.bipush 115, 2) := by decide +kernel
theorem dX5_kindBy_3 : decode cX5_kindBy 3 = .ok (.if_icmp .ne 7, 3) := by decide +kernel
theorem dX5_kindBy_6 : decode cX5_kindBy 6 = .ok (.iconst 1, 1) := by decide +kernel
theorem dX5_kindBy_7 : decode cX5_kindBy 7 = .ok (.goto 45, 3) := by decide +kernel
theorem dX5_kindBy_10 : decode cX5_kindBy 10 = .ok (.iload_n 0, 1) := by decide +kernel
theorem dX5_kindBy_11 : decode cX5_kindBy 11 = .ok (.bipush 98, 2) := by decide +kernel
theorem dX5_kindBy_13 : decode cX5_kindBy 13 = .ok (.if_icmp .ne 7, 3) := by decide +kernel
theorem dX5_kindBy_16 : decode cX5_kindBy 16 = .ok (.iconst 2, 1) := by decide +kernel
theorem dX5_kindBy_17 : decode cX5_kindBy 17 = .ok (.goto 35, 3) := by decide +kernel
theorem dX5_kindBy_20 : decode cX5_kindBy 20 = .ok (.iload_n 0, 1) := by decide +kernel
theorem dX5_kindBy_21 : decode cX5_kindBy 21 = .ok (.bipush 109, 2) := by decide +kernel
theorem dX5_kindBy_23 : decode cX5_kindBy 23 = .ok (.if_icmp .ne 7, 3) := by decide +kernel
theorem dX5_kindBy_26 : decode cX5_kindBy 26 = .ok (.iconst 3, 1) := by decide +kernel
theorem dX5_kindBy_27 : decode cX5_kindBy 27 = .ok (.goto 25, 3) := by decide +kernel
theorem dX5_kindBy_30 : decode cX5_kindBy 30 = .ok (.iload_n 0, 1) := by decide +kernel
theorem dX5_kindBy_31 : decode cX5_kindBy 31 = .ok (.bipush 103, 2) := by decide +kernel
theorem dX5_kindBy_33 : decode cX5_kindBy 33 = .ok (.if_icmp .ne 7, 3) := by decide +kernel
theorem dX5_kindBy_36 : decode cX5_kindBy 36 = .ok (.iconst 4, 1) := by decide +kernel
theorem dX5_kindBy_37 : decode cX5_kindBy 37 = .ok (.goto 15, 3) := by decide +kernel
theorem dX5_kindBy_40 : decode cX5_kindBy 40 = .ok (.iload_n 0, 1) := by decide +kernel
theorem dX5_kindBy_41 : decode cX5_kindBy 41 = .ok (.bipush 111, 2) := by decide +kernel
theorem dX5_kindBy_43 : decode cX5_kindBy 43 = .ok (.if_icmp .ne 7, 3) := by decide +kernel
theorem dX5_kindBy_46 : decode cX5_kindBy 46 = .ok (.iconst 5, 1) := by decide +kernel
theorem dX5_kindBy_47 : decode cX5_kindBy 47 = .ok (.goto 5, 3) := by decide +kernel
theorem dX5_kindBy_50 : decode cX5_kindBy 50 = .ok (.ldc 90, 2) := by decide +kernel
theorem dX5_kindBy_52 : decode cX5_kindBy 52 = .ok (.ireturn, 1) := by decide +kernel
theorem dX5_isSort_0 : decode cX5_isSort 0 = .ok (.aload_n 0, 1) := by decide +kernel
theorem dX5_isSort_1 : decode cX5_isSort 1 = .ok (.getfield 78, 3) := by decide +kernel
theorem dX5_isSort_4 : decode cX5_isSort 4 = .ok (.ifCond .ne 27, 3) := by decide +kernel
theorem dX5_isSort_7 : decode cX5_isSort 7 = .ok (.aload_n 0, 1) := by decide +kernel
theorem dX5_isSort_8 : decode cX5_isSort 8 = .ok (.getfield 102, 3) := by decide +kernel
theorem dX5_isSort_11 : decode cX5_isSort 11 = .ok (.iconst 2, 1) := by decide +kernel
theorem dX5_isSort_12 : decode cX5_isSort 12 = .ok (.if_icmp .ne 19, 3) := by decide +kernel
theorem dX5_isSort_15 : decode cX5_isSort 15 = .ok (.aload_n 0, 1) := by decide +kernel
theorem dX5_isSort_16 : decode cX5_isSort 16 = .ok (.getfield 91, 3) := by decide +kernel
theorem dX5_isSort_19 : decode cX5_isSort 19 = .ok (.invokestatic 119, 3) := by decide +kernel
theorem dX5_isSort_22 : decode cX5_isSort 22 = .ok (.ldc 90, 2) := by decide +kernel
theorem dX5_isSort_24 : decode cX5_isSort 24 = .ok (.if_icmp .eq 7, 3) := by decide +kernel
theorem dX5_isSort_27 : decode cX5_isSort 27 = .ok (.iconst 1, 1) := by decide +kernel
theorem dX5_isSort_28 : decode cX5_isSort 28 = .ok (.goto 4, 3) := by decide +kernel
theorem dX5_isSort_31 : decode cX5_isSort 31 = .ok (.iconst 0, 1) := by decide +kernel
theorem dX5_isSort_32 : decode cX5_isSort 32 = .ok (.ireturn, 1) := by decide +kernel
theorem dX5_readFog_0 : decode cX5_readFog 0 = .ok (.aload_n 0, 1) := by decide +kernel
theorem dX5_readFog_1 : decode cX5_readFog 1 = .ok (.bipush 102, 2) := by decide +kernel
theorem dX5_readFog_3 : decode cX5_readFog 3 = .ok (.invokevirtual 122, 3) := by decide +kernel
theorem dX5_readFog_6 : decode cX5_readFog 6 = .ok (.ifCond .eq 19, 3) := by decide +kernel
theorem dX5_readFog_9 : decode cX5_readFog 9 = .ok (.aload_n 0, 1) := by decide +kernel
theorem dX5_readFog_10 : decode cX5_readFog 10 = .ok (.getfield 22, 3) := by decide +kernel
theorem dX5_readFog_13 : decode cX5_readFog 13 = .ok (.iconst 1, 1) := by decide +kernel
theorem dX5_readFog_14 : decode cX5_readFog 14 = .ok (.iaload, 1) := by decide +kernel
theorem dX5_readFog_15 : decode cX5_readFog 15 = .ok (.bipush 6, 2) := by decide +kernel
theorem dX5_readFog_17 : decode cX5_readFog 17 = .ok (.if_icmp .ne 8, 3) := by decide +kernel
theorem dX5_readFog_20 : decode cX5_readFog 20 = .ok (.aload_n 0, 1) := by decide +kernel
theorem dX5_readFog_21 : decode cX5_readFog 21 = .ok (.iconst 3, 1) := by decide +kernel
theorem dX5_readFog_22 : decode cX5_readFog 22 = .ok (.invokevirtual 105, 3) := by decide +kernel
theorem dX5_readFog_25 : decode cX5_readFog 25 = .ok (.aload_n 0, 1) := by decide +kernel
theorem dX5_readFog_26 : decode cX5_readFog 26 = .ok (.aload_n 0, 1) := by decide +kernel
theorem dX5_readFog_27 : decode cX5_readFog 27 = .ok (.bipush 102, 2) := by decide +kernel
theorem dX5_readFog_29 : decode cX5_readFog 29 = .ok (.invokevirtual 122, 3) := by decide +kernel
theorem dX5_readFog_32 : decode cX5_readFog 32 = .ok (.invokevirtual 112, 3) := by decide +kernel
theorem dX5_readFog_35 : decode cX5_readFog 35 = .ok (.aload_n 0, 1) := by decide +kernel
theorem dX5_readFog_36 : decode cX5_readFog 36 = .ok (.iconst 0, 1) := by decide +kernel
theorem dX5_readFog_37 : decode cX5_readFog 37 = .ok (.bipush 9, 2) := by decide +kernel
theorem dX5_readFog_39 : decode cX5_readFog 39 = .ok (.invokevirtual 125, 3) := by decide +kernel
theorem dX5_readFog_42 : decode cX5_readFog 42 = .ok (.istore_n 1, 1) := by decide +kernel
theorem dX5_readFog_43 : decode cX5_readFog 43 = .ok (.aload_n 0, 1) := by decide +kernel
theorem dX5_readFog_44 : decode cX5_readFog 44 = .ok (.bipush 59, 2) := by decide +kernel
theorem dX5_readFog_46 : decode cX5_readFog 46 = .ok (.invokevirtual 129, 3) := by decide +kernel
theorem dX5_readFog_49 : decode cX5_readFog 49 = .ok (.aload_n 0, 1) := by decide +kernel
theorem dX5_readFog_50 : decode cX5_readFog 50 = .ok (.getfield 78, 3) := by decide +kernel
theorem dX5_readFog_53 : decode cX5_readFog 53 = .ok (.ifCond .ne 28, 3) := by decide +kernel
theorem dX5_readFog_56 : decode cX5_readFog 56 = .ok (.aload_n 0, 1) := by decide +kernel
theorem dX5_readFog_57 : decode cX5_readFog 57 = .ok (.getfield 22, 3) := by decide +kernel
theorem dX5_readFog_60 : decode cX5_readFog 60 = .ok (.bipush 6, 2) := by decide +kernel
theorem dX5_readFog_62 : decode cX5_readFog 62 = .ok (.aload_n 0, 1) := by decide +kernel
theorem dX5_readFog_63 : decode cX5_readFog 63 = .ok (.getfield 22, 3) := by decide +kernel
theorem dX5_readFog_66 : decode cX5_readFog 66 = .ok (.iconst 1, 1) := by decide +kernel
theorem dX5_readFog_67 : decode cX5_readFog 67 = .ok (.iaload, 1) := by decide +kernel
theorem dX5_readFog_68 : decode cX5_readFog 68 = .ok (.iadd, 1) := by decide +kernel
theorem dX5_readFog_69 : decode cX5_readFog 69 = .ok (.iload_n 1, 1) := by decide +kernel
theorem dX5_readFog_70 : decode cX5_readFog 70 = .ok (.iastore, 1) := by decide +kernel
theorem dX5_readFog_71 : decode cX5_readFog 71 = .ok (.aload_n 0, 1) := by decide +kernel
theorem dX5_readFog_72 : decode cX5_readFog 72 = .ok (.getfield 22, 3) := by decide +kernel
theorem dX5_readFog_75 : decode cX5_readFog 75 = .ok (.iconst 1, 1) := by decide +kernel
theorem dX5_readFog_76 : decode cX5_readFog 76 = .ok (.dup2, 1) := by decide +kernel
theorem dX5_readFog_77 : decode cX5_readFog 77 = .ok (.iaload, 1) := by decide +kernel
theorem dX5_readFog_78 : decode cX5_readFog 78 = .ok (.iconst 1, 1) := by decide +kernel
theorem dX5_readFog_79 : decode cX5_readFog 79 = .ok (.iadd, 1) := by decide +kernel
theorem dX5_readFog_80 : decode cX5_readFog 80 = .ok (.iastore, 1) := by decide +kernel
theorem dX5_readFog_81 : decode cX5_readFog 81 = .ok (.return_, 1) := by decide +kernel
theorem dX5_readShip_0 : decode cX5_readShip 0 = .ok (.aload_n 0, 1) := by decide +kernel
theorem dX5_readShip_1 : decode cX5_readShip 1 = .ok (.getfield 91, 3) := by decide +kernel
theorem dX5_readShip_4 : decode cX5_readShip 4 = .ok (.invokestatic 119, 3) := by decide +kernel
theorem dX5_readShip_7 : decode cX5_readShip 7 = .ok (.istore_n 1, 1) := by decide +kernel
theorem dX5_readShip_8 : decode cX5_readShip 8 = .ok (.aload_n 0, 1) := by decide +kernel
theorem dX5_readShip_9 : decode cX5_readShip 9 = .ok (.getfield 22, 3) := by decide +kernel
theorem dX5_readShip_12 : decode cX5_readShip 12 = .ok (.iconst 0, 1) := by decide +kernel
theorem dX5_readShip_13 : decode cX5_readShip 13 = .ok (.iaload, 1) := by decide +kernel
theorem dX5_readShip_14 : decode cX5_readShip 14 = .ok (.bipush 6, 2) := by decide +kernel
theorem dX5_readShip_16 : decode cX5_readShip 16 = .ok (.if_icmp .ne 8, 3) := by decide +kernel
theorem dX5_readShip_19 : decode cX5_readShip 19 = .ok (.aload_n 0, 1) := by decide +kernel
theorem dX5_readShip_20 : decode cX5_readShip 20 = .ok (.iconst 3, 1) := by decide +kernel
theorem dX5_readShip_21 : decode cX5_readShip 21 = .ok (.invokevirtual 105, 3) := by decide +kernel
theorem dX5_readShip_24 : decode cX5_readShip 24 = .ok (.aload_n 0, 1) := by decide +kernel
theorem dX5_readShip_25 : decode cX5_readShip 25 = .ok (.iconst 1, 1) := by decide +kernel
theorem dX5_readShip_26 : decode cX5_readShip 26 = .ok (.invokevirtual 112, 3) := by decide +kernel
theorem dX5_readShip_29 : decode cX5_readShip 29 = .ok (.aload_n 0, 1) := by decide +kernel
theorem dX5_readShip_30 : decode cX5_readShip 30 = .ok (.iconst 0, 1) := by decide +kernel
theorem dX5_readShip_31 : decode cX5_readShip 31 = .ok (.aload_n 0, 1) := by decide +kernel
theorem dX5_readShip_32 : decode cX5_readShip 32 = .ok (.getfield 22, 3) := by decide +kernel
theorem dX5_readShip_35 : decode cX5_readShip 35 = .ok (.iconst 2, 1) := by decide +kernel
theorem dX5_readShip_36 : decode cX5_readShip 36 = .ok (.iaload, 1) := by decide +kernel
theorem dX5_readShip_37 : decode cX5_readShip 37 = .ok (.iconst 1, 1) := by decide +kernel
theorem dX5_readShip_38 : decode cX5_readShip 38 = .ok (.isub, 1) := by decide +kernel
theorem dX5_readShip_39 : decode cX5_readShip 39 = .ok (.invokevirtual 125, 3) := by decide +kernel
theorem dX5_readShip_42 : decode cX5_readShip 42 = .ok (.istore_n 2, 1) := by decide +kernel
theorem dX5_readShip_43 : decode cX5_readShip 43 = .ok (.aload_n 0, 1) := by decide +kernel
theorem dX5_readShip_44 : decode cX5_readShip 44 = .ok (.bipush 59, 2) := by decide +kernel
theorem dX5_readShip_46 : decode cX5_readShip 46 = .ok (.invokevirtual 129, 3) := by decide +kernel
theorem dX5_readShip_49 : decode cX5_readShip 49 = .ok (.aload_n 0, 1) := by decide +kernel
theorem dX5_readShip_50 : decode cX5_readShip 50 = .ok (.getfield 78, 3) := by decide +kernel
theorem dX5_readShip_53 : decode cX5_readShip 53 = .ok (.ifCond .ne 49, 3) := by decide +kernel
theorem dX5_readShip_56 : decode cX5_readShip 56 = .ok (.aload_n 0, 1) := by decide +kernel
theorem dX5_readShip_57 : decode cX5_readShip 57 = .ok (.getfield 22, 3) := by decide +kernel
theorem dX5_readShip_60 : decode cX5_readShip 60 = .ok (.bipush 12, 2) := by decide +kernel
theorem dX5_readShip_62 : decode cX5_readShip 62 = .ok (.iconst 2, 1) := by decide +kernel
theorem dX5_readShip_63 : decode cX5_readShip 63 = .ok (.aload_n 0, 1) := by decide +kernel
theorem dX5_readShip_64 : decode cX5_readShip 64 = .ok (.getfield 22, 3) := by decide +kernel
theorem dX5_readShip_67 : decode cX5_readShip 67 = .ok (.iconst 0, 1) := by decide +kernel
theorem dX5_readShip_68 : decode cX5_readShip 68 = .ok (.iaload, 1) := by decide +kernel
theorem dX5_readShip_69 : decode cX5_readShip 69 = .ok (.imul, 1) := by decide +kernel
theorem dX5_readShip_70 : decode cX5_readShip 70 = .ok (.iadd, 1) := by decide +kernel
theorem dX5_readShip_71 : decode cX5_readShip 71 = .ok (.iload_n 1, 1) := by decide +kernel
theorem dX5_readShip_72 : decode cX5_readShip 72 = .ok (.iastore, 1) := by decide +kernel
theorem dX5_readShip_73 : decode cX5_readShip 73 = .ok (.aload_n 0, 1) := by decide +kernel
theorem dX5_readShip_74 : decode cX5_readShip 74 = .ok (.getfield 22, 3) := by decide +kernel
theorem dX5_readShip_77 : decode cX5_readShip 77 = .ok (.bipush 12, 2) := by decide +kernel
theorem dX5_readShip_79 : decode cX5_readShip 79 = .ok (.iconst 2, 1) := by decide +kernel
theorem dX5_readShip_80 : decode cX5_readShip 80 = .ok (.aload_n 0, 1) := by decide +kernel
theorem dX5_readShip_81 : decode cX5_readShip 81 = .ok (.getfield 22, 3) := by decide +kernel
theorem dX5_readShip_84 : decode cX5_readShip 84 = .ok (.iconst 0, 1) := by decide +kernel
theorem dX5_readShip_85 : decode cX5_readShip 85 = .ok (.iaload, 1) := by decide +kernel
theorem dX5_readShip_86 : decode cX5_readShip 86 = .ok (.imul, 1) := by decide +kernel
theorem dX5_readShip_87 : decode cX5_readShip 87 = .ok (.iadd, 1) := by decide +kernel
theorem dX5_readShip_88 : decode cX5_readShip 88 = .ok (.iconst 1, 1) := by decide +kernel
theorem dX5_readShip_89 : decode cX5_readShip 89 = .ok (.iadd, 1) := by decide +kernel
theorem dX5_readShip_90 : decode cX5_readShip 90 = .ok (.iload_n 2, 1) := by decide +kernel
theorem dX5_readShip_91 : decode cX5_readShip 91 = .ok (.iastore, 1) := by decide +kernel
theorem dX5_readShip_92 : decode cX5_readShip 92 = .ok (.aload_n 0, 1) := by decide +kernel
theorem dX5_readShip_93 : decode cX5_readShip 93 = .ok (.getfield 22, 3) := by decide +kernel
theorem dX5_readShip_96 : decode cX5_readShip 96 = .ok (.iconst 0, 1) := by decide +kernel
theorem dX5_readShip_97 : decode cX5_readShip 97 = .ok (.dup2, 1) := by decide +kernel
theorem dX5_readShip_98 : decode cX5_readShip 98 = .ok (.iaload, 1) := by decide +kernel
theorem dX5_readShip_99 : decode cX5_readShip 99 = .ok (.iconst 1, 1) := by decide +kernel
theorem dX5_readShip_100 : decode cX5_readShip 100 = .ok (.iadd, 1) := by decide +kernel
theorem dX5_readShip_101 : decode cX5_readShip 101 = .ok (.iastore, 1) := by decide +kernel
theorem dX5_readShip_102 : decode cX5_readShip 102 = .ok (.return_, 1) := by decide +kernel
theorem dX5_light_0 : decode cX5_light 0 = .ok (.aload_n 0, 1) := by decide +kernel
theorem dX5_light_1 : decode cX5_light 1 = .ok (.iconst 0, 1) := by decide +kernel
theorem dX5_light_2 : decode cX5_light 2 = .ok (.putfield 47, 3) := by decide +kernel
theorem dX5_light_5 : decode cX5_light 5 = .ok (.aload_n 0, 1) := by decide +kernel
theorem dX5_light_6 : decode cX5_light 6 = .ok (.invokevirtual 132, 3) := by decide +kernel
theorem dX5_light_9 : decode cX5_light 9 = .ok (.iconst 0, 1) := by decide +kernel
theorem dX5_light_10 : decode cX5_light 10 = .ok (.istore_n 1, 1) := by decide +kernel
theorem dX5_light_11 : decode cX5_light 11 = .ok (.iload_n 1, 1) := by decide +kernel
theorem dX5_light_12 : decode cX5_light 12 = .ok (.bipush 24, 2) := by decide +kernel
theorem dX5_light_14 : decode cX5_light 14 = .ok (.if_icmp .ge 16, 3) := by decide +kernel
theorem dX5_light_17 : decode cX5_light 17 = .ok (.aload_n 0, 1) := by decide +kernel
theorem dX5_light_18 : decode cX5_light 18 = .ok (.getfield 22, 3) := by decide +kernel
theorem dX5_light_21 : decode cX5_light 21 = .ok (.iload_n 1, 1) := by decide +kernel
theorem dX5_light_22 : decode cX5_light 22 = .ok (.iconst 0, 1) := by decide +kernel
theorem dX5_light_23 : decode cX5_light 23 = .ok (.iastore, 1) := by decide +kernel
theorem dX5_light_24 : decode cX5_light 24 = .ok (.iinc 1 1, 3) := by decide +kernel
theorem dX5_light_27 : decode cX5_light 27 = .ok (.goto (-16), 3) := by decide +kernel
theorem dX5_light_30 : decode cX5_light 30 = .ok (.aload_n 0, 1) := by decide +kernel
theorem dX5_light_31 : decode cX5_light 31 = .ok (.aload_n 0, 1) := by decide +kernel
theorem dX5_light_32 : decode cX5_light 32 = .ok (.bipush 108, 2) := by decide +kernel
theorem dX5_light_34 : decode cX5_light 34 = .ok (.invokevirtual 122, 3) := by decide +kernel
theorem dX5_light_37 : decode cX5_light 37 = .ok (.invokevirtual 112, 3) := by decide +kernel
theorem dX5_light_40 : decode cX5_light 40 = .ok (.aload_n 0, 1) := by decide +kernel
theorem dX5_light_41 : decode cX5_light 41 = .ok (.getfield 22, 3) := by decide +kernel
theorem dX5_light_44 : decode cX5_light 44 = .ok (.iconst 2, 1) := by decide +kernel
theorem dX5_light_45 : decode cX5_light 45 = .ok (.aload_n 0, 1) := by decide +kernel
theorem dX5_light_46 : decode cX5_light 46 = .ok (.iconst 4, 1) := by decide +kernel
theorem dX5_light_47 : decode cX5_light 47 = .ok (.bipush 12, 2) := by decide +kernel
theorem dX5_light_49 : decode cX5_light 49 = .ok (.invokevirtual 125, 3) := by decide +kernel
theorem dX5_light_52 : decode cX5_light 52 = .ok (.iastore, 1) := by decide +kernel
theorem dX5_light_53 : decode cX5_light 53 = .ok (.aload_n 0, 1) := by decide +kernel
theorem dX5_light_54 : decode cX5_light 54 = .ok (.bipush 44, 2) := by decide +kernel
theorem dX5_light_56 : decode cX5_light 56 = .ok (.invokevirtual 129, 3) := by decide +kernel
theorem dX5_light_59 : decode cX5_light 59 = .ok (.aload_n 0, 1) := by decide +kernel
theorem dX5_light_60 : decode cX5_light 60 = .ok (.getfield 22, 3) := by decide +kernel
theorem dX5_light_63 : decode cX5_light 63 = .ok (.iconst 3, 1) := by decide +kernel
theorem dX5_light_64 : decode cX5_light 64 = .ok (.aload_n 0, 1) := by decide +kernel
theorem dX5_light_65 : decode cX5_light 65 = .ok (.iconst 0, 1) := by decide +kernel
theorem dX5_light_66 : decode cX5_light 66 = .ok (.bipush 12, 2) := by decide +kernel
theorem dX5_light_68 : decode cX5_light 68 = .ok (.invokevirtual 125, 3) := by decide +kernel
theorem dX5_light_71 : decode cX5_light 71 = .ok (.iastore, 1) := by decide +kernel
theorem dX5_light_72 : decode cX5_light 72 = .ok (.aload_n 0, 1) := by decide +kernel
theorem dX5_light_73 : decode cX5_light 73 = .ok (.bipush 44, 2) := by decide +kernel
theorem dX5_light_75 : decode cX5_light 75 = .ok (.invokevirtual 129, 3) := by decide +kernel
theorem dX5_light_78 : decode cX5_light 78 = .ok (.aload_n 0, 1) := by decide +kernel
theorem dX5_light_79 : decode cX5_light 79 = .ok (.getfield 22, 3) := by decide +kernel
theorem dX5_light_82 : decode cX5_light 82 = .ok (.iconst 4, 1) := by decide +kernel
theorem dX5_light_83 : decode cX5_light 83 = .ok (.aload_n 0, 1) := by decide +kernel
theorem dX5_light_84 : decode cX5_light 84 = .ok (.iconst 0, 1) := by decide +kernel
theorem dX5_light_85 : decode cX5_light 85 = .ok (.bipush 60, 2) := by decide +kernel
theorem dX5_light_87 : decode cX5_light 87 = .ok (.invokevirtual 125, 3) := by decide +kernel
theorem dX5_light_90 : decode cX5_light 90 = .ok (.iastore, 1) := by decide +kernel
theorem dX5_light_91 : decode cX5_light 91 = .ok (.aload_n 0, 1) := by decide +kernel
theorem dX5_light_92 : decode cX5_light 92 = .ok (.bipush 59, 2) := by decide +kernel
theorem dX5_light_94 : decode cX5_light 94 = .ok (.invokevirtual 129, 3) := by decide +kernel
theorem dX5_light_97 : decode cX5_light 97 = .ok (.aload_n 0, 1) := by decide +kernel
theorem dX5_light_98 : decode cX5_light 98 = .ok (.invokevirtual 135, 3) := by decide +kernel
theorem dX5_light_101 : decode cX5_light 101 = .ok (.aload_n 0, 1) := by decide +kernel
theorem dX5_light_102 : decode cX5_light 102 = .ok (.bipush 102, 2) := by decide +kernel
theorem dX5_light_104 : decode cX5_light 104 = .ok (.invokevirtual 122, 3) := by decide +kernel
theorem dX5_light_107 : decode cX5_light 107 = .ok (.ifCond .eq 10, 3) := by decide +kernel
theorem dX5_light_110 : decode cX5_light 110 = .ok (.aload_n 0, 1) := by decide +kernel
theorem dX5_light_111 : decode cX5_light 111 = .ok (.invokevirtual 135, 3) := by decide +kernel
theorem dX5_light_114 : decode cX5_light 114 = .ok (.goto (-13), 3) := by decide +kernel
theorem dX5_light_117 : decode cX5_light 117 = .ok (.aload_n 0, 1) := by decide +kernel
theorem dX5_light_118 : decode cX5_light 118 = .ok (.invokevirtual 138, 3) := by decide +kernel
theorem dX5_light_121 : decode cX5_light 121 = .ok (.ifCond .ne 8, 3) := by decide +kernel
theorem dX5_light_124 : decode cX5_light 124 = .ok (.aload_n 0, 1) := by decide +kernel
theorem dX5_light_125 : decode cX5_light 125 = .ok (.iconst 1, 1) := by decide +kernel
theorem dX5_light_126 : decode cX5_light 126 = .ok (.invokevirtual 105, 3) := by decide +kernel
theorem dX5_light_129 : decode cX5_light 129 = .ok (.aload_n 0, 1) := by decide +kernel
theorem dX5_light_130 : decode cX5_light 130 = .ok (.invokevirtual 138, 3) := by decide +kernel
theorem dX5_light_133 : decode cX5_light 133 = .ok (.ifCond .eq 10, 3) := by decide +kernel
theorem dX5_light_136 : decode cX5_light 136 = .ok (.aload_n 0, 1) := by decide +kernel
theorem dX5_light_137 : decode cX5_light 137 = .ok (.invokevirtual 142, 3) := by decide +kernel
theorem dX5_light_140 : decode cX5_light 140 = .ok (.goto (-11), 3) := by decide +kernel
theorem dX5_light_143 : decode cX5_light 143 = .ok (.aload_n 0, 1) := by decide +kernel
theorem dX5_light_144 : decode cX5_light 144 = .ok (.invokevirtual 145, 3) := by decide +kernel
theorem dX5_light_147 : decode cX5_light 147 = .ok (.ifCond .eq 11, 3) := by decide +kernel
theorem dX5_light_150 : decode cX5_light 150 = .ok (.ldc 148, 2) := by decide +kernel
theorem dX5_light_152 : decode cX5_light 152 = .ok (.aload_n 0, 1) := by decide +kernel
theorem dX5_light_153 : decode cX5_light 153 = .ok (.getfield 84, 3) := by decide +kernel
theorem dX5_light_156 : decode cX5_light 156 = .ok (.isub, 1) := by decide +kernel
theorem dX5_light_157 : decode cX5_light 157 = .ok (.ireturn, 1) := by decide +kernel
theorem dX5_light_158 : decode cX5_light 158 = .ok (.aload_n 0, 1) := by decide +kernel
theorem dX5_light_159 : decode cX5_light 159 = .ok (.iconst 0, 1) := by decide +kernel
theorem dX5_light_160 : decode cX5_light 160 = .ok (.putfield 149, 3) := by decide +kernel
theorem dX5_light_163 : decode cX5_light 163 = .ok (.iconst 0, 1) := by decide +kernel
theorem dX5_light_164 : decode cX5_light 164 = .ok (.istore_n 1, 1) := by decide +kernel
theorem dX5_light_165 : decode cX5_light 165 = .ok (.iload_n 1, 1) := by decide +kernel
theorem dX5_light_166 : decode cX5_light 166 = .ok (.bipush 24, 2) := by decide +kernel
theorem dX5_light_168 : decode cX5_light 168 = .ok (.if_icmp .ge 21, 3) := by decide +kernel
theorem dX5_light_171 : decode cX5_light 171 = .ok (.aload_n 0, 1) := by decide +kernel
theorem dX5_light_172 : decode cX5_light 172 = .ok (.getfield 19, 3) := by decide +kernel
theorem dX5_light_175 : decode cX5_light 175 = .ok (.iload_n 1, 1) := by decide +kernel
theorem dX5_light_176 : decode cX5_light 176 = .ok (.aload_n 0, 1) := by decide +kernel
theorem dX5_light_177 : decode cX5_light 177 = .ok (.getfield 22, 3) := by decide +kernel
theorem dX5_light_180 : decode cX5_light 180 = .ok (.iload_n 1, 1) := by decide +kernel
theorem dX5_light_181 : decode cX5_light 181 = .ok (.iaload, 1) := by decide +kernel
theorem dX5_light_182 : decode cX5_light 182 = .ok (.iastore, 1) := by decide +kernel
theorem dX5_light_183 : decode cX5_light 183 = .ok (.iinc 1 1, 3) := by decide +kernel
theorem dX5_light_186 : decode cX5_light 186 = .ok (.goto (-21), 3) := by decide +kernel
theorem dX5_light_189 : decode cX5_light 189 = .ok (.aload_n 0, 1) := by decide +kernel
theorem dX5_light_190 : decode cX5_light 190 = .ok (.getfield 19, 3) := by decide +kernel
theorem dX5_light_193 : decode cX5_light 193 = .ok (.iconst 0, 1) := by decide +kernel
theorem dX5_light_194 : decode cX5_light 194 = .ok (.iaload, 1) := by decide +kernel
theorem dX5_light_195 : decode cX5_light 195 = .ok (.ireturn, 1) := by decide +kernel
theorem dX5_isThere_0 : decode cX5_isThere 0 = .ok (.aload_n 0, 1) := by decide +kernel
theorem dX5_isThere_1 : decode cX5_isThere 1 = .ok (.getfield 19, 3) := by decide +kernel
theorem dX5_isThere_4 : decode cX5_isThere 4 = .ok (.iconst 0, 1) := by decide +kernel
theorem dX5_isThere_5 : decode cX5_isThere 5 = .ok (.iaload, 1) := by decide +kernel
theorem dX5_isThere_6 : decode cX5_isThere 6 = .ok (.ifCond .le 7, 3) := by decide +kernel
theorem dX5_isThere_9 : decode cX5_isThere 9 = .ok (.iconst 1, 1) := by decide +kernel
theorem dX5_isThere_10 : decode cX5_isThere 10 = .ok (.goto 4, 3) := by decide +kernel
theorem dX5_isThere_13 : decode cX5_isThere 13 = .ok (.iconst 0, 1) := by decide +kernel
theorem dX5_isThere_14 : decode cX5_isThere 14 = .ok (.ireturn, 1) := by decide +kernel
theorem dX5_isShip_0 : decode cX5_isShip 0 = .ok (.iload_n 1, 1) := by decide +kernel
theorem dX5_isShip_1 : decode cX5_isShip 1 = .ok (.i2l, 1) := by decide +kernel
theorem dX5_isShip_2 : decode cX5_isShip 2 = .ok (.lconst 0, 1) := by decide +kernel
theorem dX5_isShip_3 : decode cX5_isShip 3 = .ok (.aload_n 0, 1) := by decide +kernel
theorem dX5_isShip_4 : decode cX5_isShip 4 = .ok (.getfield 19, 3) := by decide +kernel
theorem dX5_isShip_7 : decode cX5_isShip 7 = .ok (.iconst 0, 1) := by decide +kernel
theorem dX5_isShip_8 : decode cX5_isShip 8 = .ok (.iaload, 1) := by decide +kernel
theorem dX5_isShip_9 : decode cX5_isShip 9 = .ok (.iconst 1, 1) := by decide +kernel
theorem dX5_isShip_10 : decode cX5_isShip 10 = .ok (.isub, 1) := by decide +kernel
theorem dX5_isShip_11 : decode cX5_isShip 11 = .ok (.i2l, 1) := by decide +kernel
theorem dX5_isShip_12 : decode cX5_isShip 12 = .ok (.invokestatic 57, 3) := by decide +kernel
theorem dX5_isShip_15 : decode cX5_isShip 15 = .ok (.ireturn, 1) := by decide +kernel
theorem dX5_isFog_0 : decode cX5_isFog 0 = .ok (.iload_n 1, 1) := by decide +kernel
theorem dX5_isFog_1 : decode cX5_isFog 1 = .ok (.i2l, 1) := by decide +kernel
theorem dX5_isFog_2 : decode cX5_isFog 2 = .ok (.lconst 0, 1) := by decide +kernel
theorem dX5_isFog_3 : decode cX5_isFog 3 = .ok (.aload_n 0, 1) := by decide +kernel
theorem dX5_isFog_4 : decode cX5_isFog 4 = .ok (.getfield 19, 3) := by decide +kernel
theorem dX5_isFog_7 : decode cX5_isFog 7 = .ok (.iconst 1, 1) := by decide +kernel
theorem dX5_isFog_8 : decode cX5_isFog 8 = .ok (.iaload, 1) := by decide +kernel
theorem dX5_isFog_9 : decode cX5_isFog 9 = .ok (.iconst 1, 1) := by decide +kernel
theorem dX5_isFog_10 : decode cX5_isFog 10 = .ok (.isub, 1) := by decide +kernel
theorem dX5_isFog_11 : decode cX5_isFog 11 = .ok (.i2l, 1) := by decide +kernel
theorem dX5_isFog_12 : decode cX5_isFog 12 = .ok (.invokestatic 57, 3) := by decide +kernel
theorem dX5_isFog_15 : decode cX5_isFog 15 = .ok (.ireturn, 1) := by decide +kernel
theorem dX5_isCell_0 : decode cX5_isCell 0 = .ok (.iload_n 1, 1) := by decide +kernel
theorem dX5_isCell_1 : decode cX5_isCell 1 = .ok (.i2l, 1) := by decide +kernel
theorem dX5_isCell_2 : decode cX5_isCell 2 = .ok (.lconst 0, 1) := by decide +kernel
theorem dX5_isCell_3 : decode cX5_isCell 3 = .ok (.aload_n 0, 1) := by decide +kernel
theorem dX5_isCell_4 : decode cX5_isCell 4 = .ok (.getfield 19, 3) := by decide +kernel
theorem dX5_isCell_7 : decode cX5_isCell 7 = .ok (.iconst 2, 1) := by decide +kernel
theorem dX5_isCell_8 : decode cX5_isCell 8 = .ok (.iaload, 1) := by decide +kernel
theorem dX5_isCell_9 : decode cX5_isCell 9 = .ok (.iconst 1, 1) := by decide +kernel
theorem dX5_isCell_10 : decode cX5_isCell 10 = .ok (.isub, 1) := by decide +kernel
theorem dX5_isCell_11 : decode cX5_isCell 11 = .ok (.i2l, 1) := by decide +kernel
theorem dX5_isCell_12 : decode cX5_isCell 12 = .ok (.invokestatic 57, 3) := by decide +kernel
theorem dX5_isCell_15 : decode cX5_isCell 15 = .ok (.ireturn, 1) := by decide +kernel
theorem dX5_bits_0 : decode cX5_bits 0 = .ok (.iconst 0, 1) := by decide +kernel
theorem dX5_bits_1 : decode cX5_bits 1 = .ok (.istore_n 1, 1) := by decide +kernel
theorem dX5_bits_2 : decode cX5_bits 2 = .ok (.iconst 0, 1) := by decide +kernel
theorem dX5_bits_3 : decode cX5_bits 3 = .ok (.istore_n 2, 1) := by decide +kernel
theorem dX5_bits_4 : decode cX5_bits 4 = .ok (.iload_n 2, 1) := by decide +kernel
theorem dX5_bits_5 : decode cX5_bits 5 = .ok (.bipush 6, 2) := by decide +kernel
theorem dX5_bits_7 : decode cX5_bits 7 = .ok (.if_icmp .ge 17, 3) := by decide +kernel
theorem dX5_bits_10 : decode cX5_bits 10 = .ok (.iload_n 1, 1) := by decide +kernel
theorem dX5_bits_11 : decode cX5_bits 11 = .ok (.iload_n 0, 1) := by decide +kernel
theorem dX5_bits_12 : decode cX5_bits 12 = .ok (.iload_n 2, 1) := by decide +kernel
theorem dX5_bits_13 : decode cX5_bits 13 = .ok (.ishr, 1) := by decide +kernel
theorem dX5_bits_14 : decode cX5_bits 14 = .ok (.iconst 1, 1) := by decide +kernel
theorem dX5_bits_15 : decode cX5_bits 15 = .ok (.iand, 1) := by decide +kernel
theorem dX5_bits_16 : decode cX5_bits 16 = .ok (.iadd, 1) := by decide +kernel
theorem dX5_bits_17 : decode cX5_bits 17 = .ok (.istore_n 1, 1) := by decide +kernel
theorem dX5_bits_18 : decode cX5_bits 18 = .ok (.iinc 2 1, 3) := by decide +kernel
theorem dX5_bits_21 : decode cX5_bits 21 = .ok (.goto (-17), 3) := by decide +kernel
theorem dX5_bits_24 : decode cX5_bits 24 = .ok (.iload_n 1, 1) := by decide +kernel
theorem dX5_bits_25 : decode cX5_bits 25 = .ok (.ireturn, 1) := by decide +kernel
theorem dX5_has_0 : decode cX5_has 0 = .ok (.iload_n 0, 1) := by decide +kernel
theorem dX5_has_1 : decode cX5_has 1 = .ok (.iload_n 1, 1) := by decide +kernel
theorem dX5_has_2 : decode cX5_has 2 = .ok (.ishr, 1) := by decide +kernel
theorem dX5_has_3 : decode cX5_has 3 = .ok (.iconst 1, 1) := by decide +kernel
theorem dX5_has_4 : decode cX5_has 4 = .ok (.iand, 1) := by decide +kernel
theorem dX5_has_5 : decode cX5_has 5 = .ok (.iconst 1, 1) := by decide +kernel
theorem dX5_has_6 : decode cX5_has 6 = .ok (.if_icmp .ne 7, 3) := by decide +kernel
theorem dX5_has_9 : decode cX5_has 9 = .ok (.iconst 1, 1) := by decide +kernel
theorem dX5_has_10 : decode cX5_has 10 = .ok (.goto 4, 3) := by decide +kernel
theorem dX5_has_13 : decode cX5_has 13 = .ok (.iconst 0, 1) := by decide +kernel
theorem dX5_has_14 : decode cX5_has 14 = .ok (.ireturn, 1) := by decide +kernel
theorem dX5_of_0 : decode cX5_of 0 = .ok (.aload_n 0, 1) := by decide +kernel
theorem dX5_of_1 : decode cX5_of 1 = .ok (.bipush 12, 2) := by decide +kernel
theorem dX5_of_3 : decode cX5_of 3 = .ok (.iconst 2, 1) := by decide +kernel
theorem dX5_of_4 : decode cX5_of 4 = .ok (.iload_n 1, 1) := by decide +kernel
theorem dX5_of_5 : decode cX5_of 5 = .ok (.imul, 1) := by decide +kernel
theorem dX5_of_6 : decode cX5_of 6 = .ok (.iadd, 1) := by decide +kernel
theorem dX5_of_7 : decode cX5_of 7 = .ok (.iload_n 2, 1) := by decide +kernel
theorem dX5_of_8 : decode cX5_of 8 = .ok (.iadd, 1) := by decide +kernel
theorem dX5_of_9 : decode cX5_of 9 = .ok (.iaload, 1) := by decide +kernel
theorem dX5_of_10 : decode cX5_of 10 = .ok (.ireturn, 1) := by decide +kernel
theorem dX5_thickOf_0 : decode cX5_thickOf 0 = .ok (.aload_n 0, 1) := by decide +kernel
theorem dX5_thickOf_1 : decode cX5_thickOf 1 = .ok (.bipush 6, 2) := by decide +kernel
theorem dX5_thickOf_3 : decode cX5_thickOf 3 = .ok (.iload_n 1, 1) := by decide +kernel
theorem dX5_thickOf_4 : decode cX5_thickOf 4 = .ok (.aload_n 0, 1) := by decide +kernel
theorem dX5_thickOf_5 : decode cX5_thickOf 5 = .ok (.iconst 1, 1) := by decide +kernel
theorem dX5_thickOf_6 : decode cX5_thickOf 6 = .ok (.iaload, 1) := by decide +kernel
theorem dX5_thickOf_7 : decode cX5_thickOf 7 = .ok (.irem, 1) := by decide +kernel
theorem dX5_thickOf_8 : decode cX5_thickOf 8 = .ok (.iadd, 1) := by decide +kernel
theorem dX5_thickOf_9 : decode cX5_thickOf 9 = .ok (.iaload, 1) := by decide +kernel
theorem dX5_thickOf_10 : decode cX5_thickOf 10 = .ok (.ireturn, 1) := by decide +kernel
theorem dX5_loggedOf_0 : decode cX5_loggedOf 0 = .ok (.aload_n 0, 1) := by decide +kernel
theorem dX5_loggedOf_1 : decode cX5_loggedOf 1 = .ok (.iload_n 1, 1) := by decide +kernel
theorem dX5_loggedOf_2 : decode cX5_loggedOf 2 = .ok (.iconst 1, 1) := by decide +kernel
theorem dX5_loggedOf_3 : decode cX5_loggedOf 3 = .ok (.invokestatic 152, 3) := by decide +kernel
theorem dX5_loggedOf_6 : decode cX5_loggedOf 6 = .ok (.istore_n 2, 1) := by decide +kernel
theorem dX5_loggedOf_7 : decode cX5_loggedOf 7 = .ok (.aload_n 0, 1) := by decide +kernel
theorem dX5_loggedOf_8 : decode cX5_loggedOf 8 = .ok (.iload_n 1, 1) := by decide +kernel
theorem dX5_loggedOf_9 : decode cX5_loggedOf 9 = .ok (.iconst 0, 1) := by decide +kernel
theorem dX5_loggedOf_10 : decode cX5_loggedOf 10 = .ok (.invokestatic 152, 3) := by decide +kernel
theorem dX5_loggedOf_13 : decode cX5_loggedOf 13 = .ok (.istore_n 3, 1) := by decide +kernel
theorem dX5_loggedOf_14 : decode cX5_loggedOf 14 = .ok (.aload_n 0, 1) := by decide +kernel
theorem dX5_loggedOf_15 : decode cX5_loggedOf 15 = .ok (.aload_n 0, 1) := by decide +kernel
theorem dX5_loggedOf_16 : decode cX5_loggedOf 16 = .ok (.iconst 5, 1) := by decide +kernel
theorem dX5_loggedOf_17 : decode cX5_loggedOf 17 = .ok (.iaload, 1) := by decide +kernel
theorem dX5_loggedOf_18 : decode cX5_loggedOf 18 = .ok (.invokestatic 156, 3) := by decide +kernel
theorem dX5_loggedOf_21 : decode cX5_loggedOf 21 = .ok (.istore 4, 2) := by decide +kernel
theorem dX5_loggedOf_23 : decode cX5_loggedOf 23 = .ok (.iload_n 3, 1) := by decide +kernel
theorem dX5_loggedOf_24 : decode cX5_loggedOf 24 = .ok (.iconst 5, 1) := by decide +kernel
theorem dX5_loggedOf_25 : decode cX5_loggedOf 25 = .ok (.if_icmp .ne 10, 3) := by decide +kernel
theorem dX5_loggedOf_28 : decode cX5_loggedOf 28 = .ok (.iload_n 2, 1) := by decide +kernel
theorem dX5_loggedOf_29 : decode cX5_loggedOf 29 = .ok (.iconst 2, 1) := by decide +kernel
theorem dX5_loggedOf_30 : decode cX5_loggedOf 30 = .ok (.if_icmp .le 5, 3) := by decide +kernel
theorem dX5_loggedOf_33 : decode cX5_loggedOf 33 = .ok (.iconst 0, 1) := by decide +kernel
theorem dX5_loggedOf_34 : decode cX5_loggedOf 34 = .ok (.ireturn, 1) := by decide +kernel
theorem dX5_loggedOf_35 : decode cX5_loggedOf 35 = .ok (.iload_n 2, 1) := by decide +kernel
theorem dX5_loggedOf_36 : decode cX5_loggedOf 36 = .ok (.ifCond .ne 10, 3) := by decide +kernel
theorem dX5_loggedOf_39 : decode cX5_loggedOf 39 = .ok (.iload_n 3, 1) := by decide +kernel
theorem dX5_loggedOf_40 : decode cX5_loggedOf 40 = .ok (.iconst 4, 1) := by decide +kernel
theorem dX5_loggedOf_41 : decode cX5_loggedOf 41 = .ok (.if_icmp .ge 5, 3) := by decide +kernel
theorem dX5_loggedOf_44 : decode cX5_loggedOf 44 = .ok (.iconst 3, 1) := by decide +kernel
theorem dX5_loggedOf_45 : decode cX5_loggedOf 45 = .ok (.ireturn, 1) := by decide +kernel
theorem dX5_loggedOf_46 : decode cX5_loggedOf 46 = .ok (.iload_n 2, 1) := by decide +kernel
theorem dX5_loggedOf_47 : decode cX5_loggedOf 47 = .ok (.aload_n 0, 1) := by decide +kernel
theorem dX5_loggedOf_48 : decode cX5_loggedOf 48 = .ok (.iconst 3, 1) := by decide +kernel
theorem dX5_loggedOf_49 : decode cX5_loggedOf 49 = .ok (.iaload, 1) := by decide +kernel
theorem dX5_loggedOf_50 : decode cX5_loggedOf 50 = .ok (.iload 4, 2) := by decide +kernel
theorem dX5_loggedOf_52 : decode cX5_loggedOf 52 = .ok (.isub, 1) := by decide +kernel
theorem dX5_loggedOf_53 : decode cX5_loggedOf 53 = .ok (.if_icmp .gt 7, 3) := by decide +kernel
theorem dX5_loggedOf_56 : decode cX5_loggedOf 56 = .ok (.iconst 1, 1) := by decide +kernel
theorem dX5_loggedOf_57 : decode cX5_loggedOf 57 = .ok (.goto 4, 3) := by decide +kernel
theorem dX5_loggedOf_60 : decode cX5_loggedOf 60 = .ok (.iconst 0, 1) := by decide +kernel
theorem dX5_loggedOf_61 : decode cX5_loggedOf 61 = .ok (.istore 5, 2) := by decide +kernel
theorem dX5_loggedOf_63 : decode cX5_loggedOf 63 = .ok (.iload 5, 2) := by decide +kernel
theorem dX5_loggedOf_65 : decode cX5_loggedOf 65 = .ok (.aload_n 0, 1) := by decide +kernel
theorem dX5_loggedOf_66 : decode cX5_loggedOf 66 = .ok (.iconst 4, 1) := by decide +kernel
theorem dX5_loggedOf_67 : decode cX5_loggedOf 67 = .ok (.iaload, 1) := by decide +kernel
theorem dX5_loggedOf_68 : decode cX5_loggedOf 68 = .ok (.ifCond .le 24, 3) := by decide +kernel
theorem dX5_loggedOf_71 : decode cX5_loggedOf 71 = .ok (.iload_n 2, 1) := by decide +kernel
theorem dX5_loggedOf_72 : decode cX5_loggedOf 72 = .ok (.iconst 4, 1) := by decide +kernel
theorem dX5_loggedOf_73 : decode cX5_loggedOf 73 = .ok (.aload_n 0, 1) := by decide +kernel
theorem dX5_loggedOf_74 : decode cX5_loggedOf 74 = .ok (.iconst 4, 1) := by decide +kernel
theorem dX5_loggedOf_75 : decode cX5_loggedOf 75 = .ok (.iaload, 1) := by decide +kernel
theorem dX5_loggedOf_76 : decode cX5_loggedOf 76 = .ok (.bipush 10, 2) := by decide +kernel
theorem dX5_loggedOf_78 : decode cX5_loggedOf 78 = .ok (.idiv, 1) := by decide +kernel
theorem dX5_loggedOf_79 : decode cX5_loggedOf 79 = .ok (.iadd, 1) := by decide +kernel
theorem dX5_loggedOf_80 : decode cX5_loggedOf 80 = .ok (.iload 4, 2) := by decide +kernel
theorem dX5_loggedOf_82 : decode cX5_loggedOf 82 = .ok (.iconst 2, 1) := by decide +kernel
theorem dX5_loggedOf_83 : decode cX5_loggedOf 83 = .ok (.idiv, 1) := by decide +kernel
theorem dX5_loggedOf_84 : decode cX5_loggedOf 84 = .ok (.isub, 1) := by decide +kernel
theorem dX5_loggedOf_85 : decode cX5_loggedOf 85 = .ok (.if_icmp .gt 7, 3) := by decide +kernel
theorem dX5_loggedOf_88 : decode cX5_loggedOf 88 = .ok (.iconst 2, 1) := by decide +kernel
theorem dX5_loggedOf_89 : decode cX5_loggedOf 89 = .ok (.goto 4, 3) := by decide +kernel
theorem dX5_loggedOf_92 : decode cX5_loggedOf 92 = .ok (.iconst 0, 1) := by decide +kernel
theorem dX5_loggedOf_93 : decode cX5_loggedOf 93 = .ok (.iadd, 1) := by decide +kernel
theorem dX5_loggedOf_94 : decode cX5_loggedOf 94 = .ok (.ireturn, 1) := by decide +kernel
theorem dX5_seenBy_0 : decode cX5_seenBy 0 = .ok (.iconst 0, 1) := by decide +kernel
theorem dX5_seenBy_1 : decode cX5_seenBy 1 = .ok (.istore_n 2, 1) := by decide +kernel
theorem dX5_seenBy_2 : decode cX5_seenBy 2 = .ok (.iconst 0, 1) := by decide +kernel
theorem dX5_seenBy_3 : decode cX5_seenBy 3 = .ok (.istore_n 3, 1) := by decide +kernel
theorem dX5_seenBy_4 : decode cX5_seenBy 4 = .ok (.iload_n 3, 1) := by decide +kernel
theorem dX5_seenBy_5 : decode cX5_seenBy 5 = .ok (.aload_n 0, 1) := by decide +kernel
theorem dX5_seenBy_6 : decode cX5_seenBy 6 = .ok (.iconst 0, 1) := by decide +kernel
theorem dX5_seenBy_7 : decode cX5_seenBy 7 = .ok (.iaload, 1) := by decide +kernel
theorem dX5_seenBy_8 : decode cX5_seenBy 8 = .ok (.if_icmp .ge 31, 3) := by decide +kernel
theorem dX5_seenBy_11 : decode cX5_seenBy 11 = .ok (.iload_n 2, 1) := by decide +kernel
theorem dX5_seenBy_12 : decode cX5_seenBy 12 = .ok (.aload_n 0, 1) := by decide +kernel
theorem dX5_seenBy_13 : decode cX5_seenBy 13 = .ok (.iload_n 3, 1) := by decide +kernel
theorem dX5_seenBy_14 : decode cX5_seenBy 14 = .ok (.invokestatic 160, 3) := by decide +kernel
theorem dX5_seenBy_17 : decode cX5_seenBy 17 = .ok (.iload_n 1, 1) := by decide +kernel
theorem dX5_seenBy_18 : decode cX5_seenBy 18 = .ok (.invokestatic 163, 3) := by decide +kernel
theorem dX5_seenBy_21 : decode cX5_seenBy 21 = .ok (.ifCond .eq 9, 3) := by decide +kernel
theorem dX5_seenBy_24 : decode cX5_seenBy 24 = .ok (.iconst 1, 1) := by decide +kernel
theorem dX5_seenBy_25 : decode cX5_seenBy 25 = .ok (.iload_n 3, 1) := by decide +kernel
theorem dX5_seenBy_26 : decode cX5_seenBy 26 = .ok (.ishl, 1) := by decide +kernel
theorem dX5_seenBy_27 : decode cX5_seenBy 27 = .ok (.goto 4, 3) := by decide +kernel
theorem dX5_seenBy_30 : decode cX5_seenBy 30 = .ok (.iconst 0, 1) := by decide +kernel
theorem dX5_seenBy_31 : decode cX5_seenBy 31 = .ok (.ior, 1) := by decide +kernel
theorem dX5_seenBy_32 : decode cX5_seenBy 32 = .ok (.istore_n 2, 1) := by decide +kernel
theorem dX5_seenBy_33 : decode cX5_seenBy 33 = .ok (.iinc 3 1, 3) := by decide +kernel
theorem dX5_seenBy_36 : decode cX5_seenBy 36 = .ok (.goto (-32), 3) := by decide +kernel
theorem dX5_seenBy_39 : decode cX5_seenBy 39 = .ok (.iload_n 2, 1) := by decide +kernel
theorem dX5_seenBy_40 : decode cX5_seenBy 40 = .ok (.ireturn, 1) := by decide +kernel
theorem dX5_differ_0 : decode cX5_differ 0 = .ok (.aload_n 0, 1) := by decide +kernel
theorem dX5_differ_1 : decode cX5_differ 1 = .ok (.iconst 0, 1) := by decide +kernel
theorem dX5_differ_2 : decode cX5_differ 2 = .ok (.invokestatic 167, 3) := by decide +kernel
theorem dX5_differ_5 : decode cX5_differ 5 = .ok (.aload_n 0, 1) := by decide +kernel
theorem dX5_differ_6 : decode cX5_differ 6 = .ok (.iconst 1, 1) := by decide +kernel
theorem dX5_differ_7 : decode cX5_differ 7 = .ok (.invokestatic 167, 3) := by decide +kernel
theorem dX5_differ_10 : decode cX5_differ 10 = .ok (.ixor, 1) := by decide +kernel
theorem dX5_differ_11 : decode cX5_differ 11 = .ok (.ireturn, 1) := by decide +kernel
theorem dX5_nextCell_0 : decode cX5_nextCell 0 = .ok (.aload_n 0, 1) := by decide +kernel
theorem dX5_nextCell_1 : decode cX5_nextCell 1 = .ok (.iload_n 1, 1) := by decide +kernel
theorem dX5_nextCell_2 : decode cX5_nextCell 2 = .ok (.iconst 1, 1) := by decide +kernel
theorem dX5_nextCell_3 : decode cX5_nextCell 3 = .ok (.invokestatic 152, 3) := by decide +kernel
theorem dX5_nextCell_6 : decode cX5_nextCell 6 = .ok (.istore_n 2, 1) := by decide +kernel
theorem dX5_nextCell_7 : decode cX5_nextCell 7 = .ok (.aload_n 0, 1) := by decide +kernel
theorem dX5_nextCell_8 : decode cX5_nextCell 8 = .ok (.iconst 5, 1) := by decide +kernel
theorem dX5_nextCell_9 : decode cX5_nextCell 9 = .ok (.iaload, 1) := by decide +kernel
theorem dX5_nextCell_10 : decode cX5_nextCell 10 = .ok (.iconst 2, 1) := by decide +kernel
theorem dX5_nextCell_11 : decode cX5_nextCell 11 = .ok (.irem, 1) := by decide +kernel
theorem dX5_nextCell_12 : decode cX5_nextCell 12 = .ok (.ifCond .ne 7, 3) := by decide +kernel
theorem dX5_nextCell_15 : decode cX5_nextCell 15 = .ok (.iconst 1, 1) := by decide +kernel
theorem dX5_nextCell_16 : decode cX5_nextCell 16 = .ok (.goto 4, 3) := by decide +kernel
theorem dX5_nextCell_19 : decode cX5_nextCell 19 = .ok (.iconst 0, 1) := by decide +kernel
theorem dX5_nextCell_20 : decode cX5_nextCell 20 = .ok (.istore_n 3, 1) := by decide +kernel
theorem dX5_nextCell_21 : decode cX5_nextCell 21 = .ok (.iload_n 2, 1) := by decide +kernel
theorem dX5_nextCell_22 : decode cX5_nextCell 22 = .ok (.istore 4, 2) := by decide +kernel
theorem dX5_nextCell_24 : decode cX5_nextCell 24 = .ok (.aload_n 0, 1) := by decide +kernel
theorem dX5_nextCell_25 : decode cX5_nextCell 25 = .ok (.iload_n 1, 1) := by decide +kernel
theorem dX5_nextCell_26 : decode cX5_nextCell 26 = .ok (.iconst 0, 1) := by decide +kernel
theorem dX5_nextCell_27 : decode cX5_nextCell 27 = .ok (.invokestatic 152, 3) := by decide +kernel
theorem dX5_nextCell_30 : decode cX5_nextCell 30 = .ok (.tableswitch 80 1 4 #[30, 38, 54, 62], 30) := by decide +kernel
theorem dX5_nextCell_60 : decode cX5_nextCell 60 = .ok (.iload_n 2, 1) := by decide +kernel
theorem dX5_nextCell_61 : decode cX5_nextCell 61 = .ok (.iconst 1, 1) := by decide +kernel
theorem dX5_nextCell_62 : decode cX5_nextCell 62 = .ok (.isub, 1) := by decide +kernel
theorem dX5_nextCell_63 : decode cX5_nextCell 63 = .ok (.istore 4, 2) := by decide +kernel
theorem dX5_nextCell_65 : decode cX5_nextCell 65 = .ok (.goto 60, 3) := by decide +kernel
theorem dX5_nextCell_68 : decode cX5_nextCell 68 = .ok (.iload_n 3, 1) := by decide +kernel
theorem dX5_nextCell_69 : decode cX5_nextCell 69 = .ok (.ifCond .eq 9, 3) := by decide +kernel
theorem dX5_nextCell_72 : decode cX5_nextCell 72 = .ok (.iload_n 2, 1) := by decide +kernel
theorem dX5_nextCell_73 : decode cX5_nextCell 73 = .ok (.iconst 1, 1) := by decide +kernel
theorem dX5_nextCell_74 : decode cX5_nextCell 74 = .ok (.isub, 1) := by decide +kernel
theorem dX5_nextCell_75 : decode cX5_nextCell 75 = .ok (.goto 4, 3) := by decide +kernel
theorem dX5_nextCell_78 : decode cX5_nextCell 78 = .ok (.iload_n 2, 1) := by decide +kernel
theorem dX5_nextCell_79 : decode cX5_nextCell 79 = .ok (.istore 4, 2) := by decide +kernel
theorem dX5_nextCell_81 : decode cX5_nextCell 81 = .ok (.goto 44, 3) := by decide +kernel
theorem dX5_nextCell_84 : decode cX5_nextCell 84 = .ok (.iload_n 2, 1) := by decide +kernel
theorem dX5_nextCell_85 : decode cX5_nextCell 85 = .ok (.iconst 2, 1) := by decide +kernel
theorem dX5_nextCell_86 : decode cX5_nextCell 86 = .ok (.isub, 1) := by decide +kernel
theorem dX5_nextCell_87 : decode cX5_nextCell 87 = .ok (.istore 4, 2) := by decide +kernel
theorem dX5_nextCell_89 : decode cX5_nextCell 89 = .ok (.goto 36, 3) := by decide +kernel
theorem dX5_nextCell_92 : decode cX5_nextCell 92 = .ok (.iload_n 3, 1) := by decide +kernel
theorem dX5_nextCell_93 : decode cX5_nextCell 93 = .ok (.ifCond .eq 9, 3) := by decide +kernel
theorem dX5_nextCell_96 : decode cX5_nextCell 96 = .ok (.iload_n 2, 1) := by decide +kernel
theorem dX5_nextCell_97 : decode cX5_nextCell 97 = .ok (.iconst 1, 1) := by decide +kernel
theorem dX5_nextCell_98 : decode cX5_nextCell 98 = .ok (.iadd, 1) := by decide +kernel
theorem dX5_nextCell_99 : decode cX5_nextCell 99 = .ok (.goto 6, 3) := by decide +kernel
theorem dX5_nextCell_102 : decode cX5_nextCell 102 = .ok (.iload_n 2, 1) := by decide +kernel
theorem dX5_nextCell_103 : decode cX5_nextCell 103 = .ok (.iconst 1, 1) := by decide +kernel
theorem dX5_nextCell_104 : decode cX5_nextCell 104 = .ok (.isub, 1) := by decide +kernel
theorem dX5_nextCell_105 : decode cX5_nextCell 105 = .ok (.istore 4, 2) := by decide +kernel
theorem dX5_nextCell_107 : decode cX5_nextCell 107 = .ok (.goto 18, 3) := by decide +kernel
theorem dX5_nextCell_110 : decode cX5_nextCell 110 = .ok (.iload_n 3, 1) := by decide +kernel
theorem dX5_nextCell_111 : decode cX5_nextCell 111 = .ok (.ifCond .eq 9, 3) := by decide +kernel
theorem dX5_nextCell_114 : decode cX5_nextCell 114 = .ok (.iload_n 2, 1) := by decide +kernel
theorem dX5_nextCell_115 : decode cX5_nextCell 115 = .ok (.iconst 2, 1) := by decide +kernel
theorem dX5_nextCell_116 : decode cX5_nextCell 116 = .ok (.iadd, 1) := by decide +kernel
theorem dX5_nextCell_117 : decode cX5_nextCell 117 = .ok (.goto 6, 3) := by decide +kernel
theorem dX5_nextCell_120 : decode cX5_nextCell 120 = .ok (.iload_n 2, 1) := by decide +kernel
theorem dX5_nextCell_121 : decode cX5_nextCell 121 = .ok (.iconst 2, 1) := by decide +kernel
theorem dX5_nextCell_122 : decode cX5_nextCell 122 = .ok (.isub, 1) := by decide +kernel
theorem dX5_nextCell_123 : decode cX5_nextCell 123 = .ok (.istore 4, 2) := by decide +kernel
theorem dX5_nextCell_125 : decode cX5_nextCell 125 = .ok (.iload 4, 2) := by decide +kernel
theorem dX5_nextCell_127 : decode cX5_nextCell 127 = .ok (.ifCond .ge 7, 3) := by decide +kernel
theorem dX5_nextCell_130 : decode cX5_nextCell 130 = .ok (.iconst 0, 1) := by decide +kernel
theorem dX5_nextCell_131 : decode cX5_nextCell 131 = .ok (.goto 21, 3) := by decide +kernel
theorem dX5_nextCell_134 : decode cX5_nextCell 134 = .ok (.iload 4, 2) := by decide +kernel
theorem dX5_nextCell_136 : decode cX5_nextCell 136 = .ok (.aload_n 0, 1) := by decide +kernel
theorem dX5_nextCell_137 : decode cX5_nextCell 137 = .ok (.iconst 2, 1) := by decide +kernel
theorem dX5_nextCell_138 : decode cX5_nextCell 138 = .ok (.iaload, 1) := by decide +kernel
theorem dX5_nextCell_139 : decode cX5_nextCell 139 = .ok (.if_icmp .lt 11, 3) := by decide +kernel
theorem dX5_nextCell_142 : decode cX5_nextCell 142 = .ok (.aload_n 0, 1) := by decide +kernel
theorem dX5_nextCell_143 : decode cX5_nextCell 143 = .ok (.iconst 2, 1) := by decide +kernel
theorem dX5_nextCell_144 : decode cX5_nextCell 144 = .ok (.iaload, 1) := by decide +kernel
theorem dX5_nextCell_145 : decode cX5_nextCell 145 = .ok (.iconst 1, 1) := by decide +kernel
theorem dX5_nextCell_146 : decode cX5_nextCell 146 = .ok (.isub, 1) := by decide +kernel
theorem dX5_nextCell_147 : decode cX5_nextCell 147 = .ok (.goto 5, 3) := by decide +kernel
theorem dX5_nextCell_150 : decode cX5_nextCell 150 = .ok (.iload 4, 2) := by decide +kernel
theorem dX5_nextCell_152 : decode cX5_nextCell 152 = .ok (.ireturn, 1) := by decide +kernel
theorem dX5_watchOf_0 : decode cX5_watchOf 0 = .ok (.iconst 0, 1) := by decide +kernel
theorem dX5_watchOf_1 : decode cX5_watchOf 1 = .ok (.istore_n 1, 1) := by decide +kernel
theorem dX5_watchOf_2 : decode cX5_watchOf 2 = .ok (.iload_n 1, 1) := by decide +kernel
theorem dX5_watchOf_3 : decode cX5_watchOf 3 = .ok (.aload_n 0, 1) := by decide +kernel
theorem dX5_watchOf_4 : decode cX5_watchOf 4 = .ok (.iconst 0, 1) := by decide +kernel
theorem dX5_watchOf_5 : decode cX5_watchOf 5 = .ok (.iaload, 1) := by decide +kernel
theorem dX5_watchOf_6 : decode cX5_watchOf 6 = .ok (.if_icmp .ge 24, 3) := by decide +kernel
theorem dX5_watchOf_9 : decode cX5_watchOf 9 = .ok (.aload_n 0, 1) := by decide +kernel
theorem dX5_watchOf_10 : decode cX5_watchOf 10 = .ok (.bipush 12, 2) := by decide +kernel
theorem dX5_watchOf_12 : decode cX5_watchOf 12 = .ok (.iconst 2, 1) := by decide +kernel
theorem dX5_watchOf_13 : decode cX5_watchOf 13 = .ok (.iload_n 1, 1) := by decide +kernel
theorem dX5_watchOf_14 : decode cX5_watchOf 14 = .ok (.imul, 1) := by decide +kernel
theorem dX5_watchOf_15 : decode cX5_watchOf 15 = .ok (.iadd, 1) := by decide +kernel
theorem dX5_watchOf_16 : decode cX5_watchOf 16 = .ok (.iconst 1, 1) := by decide +kernel
theorem dX5_watchOf_17 : decode cX5_watchOf 17 = .ok (.iadd, 1) := by decide +kernel
theorem dX5_watchOf_18 : decode cX5_watchOf 18 = .ok (.aload_n 0, 1) := by decide +kernel
theorem dX5_watchOf_19 : decode cX5_watchOf 19 = .ok (.iload_n 1, 1) := by decide +kernel
theorem dX5_watchOf_20 : decode cX5_watchOf 20 = .ok (.invokestatic 170, 3) := by decide +kernel
theorem dX5_watchOf_23 : decode cX5_watchOf 23 = .ok (.iastore, 1) := by decide +kernel
theorem dX5_watchOf_24 : decode cX5_watchOf 24 = .ok (.iinc 1 1, 3) := by decide +kernel
theorem dX5_watchOf_27 : decode cX5_watchOf 27 = .ok (.goto (-25), 3) := by decide +kernel
theorem dX5_watchOf_30 : decode cX5_watchOf 30 = .ok (.aload_n 0, 1) := by decide +kernel
theorem dX5_watchOf_31 : decode cX5_watchOf 31 = .ok (.aload_n 0, 1) := by decide +kernel
theorem dX5_watchOf_32 : decode cX5_watchOf 32 = .ok (.iconst 5, 1) := by decide +kernel
theorem dX5_watchOf_33 : decode cX5_watchOf 33 = .ok (.iaload, 1) := by decide +kernel
theorem dX5_watchOf_34 : decode cX5_watchOf 34 = .ok (.invokestatic 156, 3) := by decide +kernel
theorem dX5_watchOf_37 : decode cX5_watchOf 37 = .ok (.iconst 5, 1) := by decide +kernel
theorem dX5_watchOf_38 : decode cX5_watchOf 38 = .ok (.if_icmp .lt 7, 3) := by decide +kernel
theorem dX5_watchOf_41 : decode cX5_watchOf 41 = .ok (.iconst 2, 1) := by decide +kernel
theorem dX5_watchOf_42 : decode cX5_watchOf 42 = .ok (.goto 4, 3) := by decide +kernel
theorem dX5_watchOf_45 : decode cX5_watchOf 45 = .ok (.iconst 1, 1) := by decide +kernel
theorem dX5_watchOf_46 : decode cX5_watchOf 46 = .ok (.istore_n 1, 1) := by decide +kernel
theorem dX5_watchOf_47 : decode cX5_watchOf 47 = .ok (.aload_n 0, 1) := by decide +kernel
theorem dX5_watchOf_48 : decode cX5_watchOf 48 = .ok (.iconst 4, 1) := by decide +kernel
theorem dX5_watchOf_49 : decode cX5_watchOf 49 = .ok (.aload_n 0, 1) := by decide +kernel
theorem dX5_watchOf_50 : decode cX5_watchOf 50 = .ok (.iconst 4, 1) := by decide +kernel
theorem dX5_watchOf_51 : decode cX5_watchOf 51 = .ok (.iaload, 1) := by decide +kernel
theorem dX5_watchOf_52 : decode cX5_watchOf 52 = .ok (.iload_n 1, 1) := by decide +kernel
theorem dX5_watchOf_53 : decode cX5_watchOf 53 = .ok (.if_icmp .le 11, 3) := by decide +kernel
theorem dX5_watchOf_56 : decode cX5_watchOf 56 = .ok (.aload_n 0, 1) := by decide +kernel
theorem dX5_watchOf_57 : decode cX5_watchOf 57 = .ok (.iconst 4, 1) := by decide +kernel
theorem dX5_watchOf_58 : decode cX5_watchOf 58 = .ok (.iaload, 1) := by decide +kernel
theorem dX5_watchOf_59 : decode cX5_watchOf 59 = .ok (.iload_n 1, 1) := by decide +kernel
theorem dX5_watchOf_60 : decode cX5_watchOf 60 = .ok (.isub, 1) := by decide +kernel
theorem dX5_watchOf_61 : decode cX5_watchOf 61 = .ok (.goto 4, 3) := by decide +kernel
theorem dX5_watchOf_64 : decode cX5_watchOf 64 = .ok (.iconst 0, 1) := by decide +kernel
theorem dX5_watchOf_65 : decode cX5_watchOf 65 = .ok (.iastore, 1) := by decide +kernel
theorem dX5_watchOf_66 : decode cX5_watchOf 66 = .ok (.aload_n 0, 1) := by decide +kernel
theorem dX5_watchOf_67 : decode cX5_watchOf 67 = .ok (.iconst 5, 1) := by decide +kernel
theorem dX5_watchOf_68 : decode cX5_watchOf 68 = .ok (.dup2, 1) := by decide +kernel
theorem dX5_watchOf_69 : decode cX5_watchOf 69 = .ok (.iaload, 1) := by decide +kernel
theorem dX5_watchOf_70 : decode cX5_watchOf 70 = .ok (.iconst 1, 1) := by decide +kernel
theorem dX5_watchOf_71 : decode cX5_watchOf 71 = .ok (.iadd, 1) := by decide +kernel
theorem dX5_watchOf_72 : decode cX5_watchOf 72 = .ok (.iastore, 1) := by decide +kernel
theorem dX5_watchOf_73 : decode cX5_watchOf 73 = .ok (.return_, 1) := by decide +kernel
theorem dX5_watchesOf_0 : decode cX5_watchesOf 0 = .ok (.iconst 0, 1) := by decide +kernel
theorem dX5_watchesOf_1 : decode cX5_watchesOf 1 = .ok (.istore_n 2, 1) := by decide +kernel
theorem dX5_watchesOf_2 : decode cX5_watchesOf 2 = .ok (.iload_n 2, 1) := by decide +kernel
theorem dX5_watchesOf_3 : decode cX5_watchesOf 3 = .ok (.iload_n 1, 1) := by decide +kernel
theorem dX5_watchesOf_4 : decode cX5_watchesOf 4 = .ok (.if_icmp .ge 13, 3) := by decide +kernel
theorem dX5_watchesOf_7 : decode cX5_watchesOf 7 = .ok (.aload_n 0, 1) := by decide +kernel
theorem dX5_watchesOf_8 : decode cX5_watchesOf 8 = .ok (.invokestatic 173, 3) := by decide +kernel
theorem dX5_watchesOf_11 : decode cX5_watchesOf 11 = .ok (.iinc 2 1, 3) := by decide +kernel
theorem dX5_watchesOf_14 : decode cX5_watchesOf 14 = .ok (.goto (-12), 3) := by decide +kernel
theorem dX5_watchesOf_17 : decode cX5_watchesOf 17 = .ok (.return_, 1) := by decide +kernel
theorem dX5_pourInto_0 : decode cX5_pourInto 0 = .ok (.aload_n 0, 1) := by decide +kernel
theorem dX5_pourInto_1 : decode cX5_pourInto 1 = .ok (.iconst 4, 1) := by decide +kernel
theorem dX5_pourInto_2 : decode cX5_pourInto 2 = .ok (.aload_n 0, 1) := by decide +kernel
theorem dX5_pourInto_3 : decode cX5_pourInto 3 = .ok (.iconst 4, 1) := by decide +kernel
theorem dX5_pourInto_4 : decode cX5_pourInto 4 = .ok (.iaload, 1) := by decide +kernel
theorem dX5_pourInto_5 : decode cX5_pourInto 5 = .ok (.iload_n 1, 1) := by decide +kernel
theorem dX5_pourInto_6 : decode cX5_pourInto 6 = .ok (.iadd, 1) := by decide +kernel
theorem dX5_pourInto_7 : decode cX5_pourInto 7 = .ok (.bipush 60, 2) := by decide +kernel
theorem dX5_pourInto_9 : decode cX5_pourInto 9 = .ok (.if_icmp .le 8, 3) := by decide +kernel
theorem dX5_pourInto_12 : decode cX5_pourInto 12 = .ok (.bipush 60, 2) := by decide +kernel
theorem dX5_pourInto_14 : decode cX5_pourInto 14 = .ok (.goto 8, 3) := by decide +kernel
theorem dX5_pourInto_17 : decode cX5_pourInto 17 = .ok (.aload_n 0, 1) := by decide +kernel
theorem dX5_pourInto_18 : decode cX5_pourInto 18 = .ok (.iconst 4, 1) := by decide +kernel
theorem dX5_pourInto_19 : decode cX5_pourInto 19 = .ok (.iaload, 1) := by decide +kernel
theorem dX5_pourInto_20 : decode cX5_pourInto 20 = .ok (.iload_n 1, 1) := by decide +kernel
theorem dX5_pourInto_21 : decode cX5_pourInto 21 = .ok (.iadd, 1) := by decide +kernel
theorem dX5_pourInto_22 : decode cX5_pourInto 22 = .ok (.iastore, 1) := by decide +kernel
theorem dX5_pourInto_23 : decode cX5_pourInto 23 = .ok (.return_, 1) := by decide +kernel
theorem dX5_layThen_0 : decode cX5_layThen 0 = .ok (.iconst 0, 1) := by decide +kernel
theorem dX5_layThen_1 : decode cX5_layThen 1 = .ok (.istore_n 1, 1) := by decide +kernel
theorem dX5_layThen_2 : decode cX5_layThen 2 = .ok (.iload_n 1, 1) := by decide +kernel
theorem dX5_layThen_3 : decode cX5_layThen 3 = .ok (.bipush 24, 2) := by decide +kernel
theorem dX5_layThen_5 : decode cX5_layThen 5 = .ok (.if_icmp .ge 21, 3) := by decide +kernel
theorem dX5_layThen_8 : decode cX5_layThen 8 = .ok (.aload_n 0, 1) := by decide +kernel
theorem dX5_layThen_9 : decode cX5_layThen 9 = .ok (.getfield 25, 3) := by decide +kernel
theorem dX5_layThen_12 : decode cX5_layThen 12 = .ok (.iload_n 1, 1) := by decide +kernel
theorem dX5_layThen_13 : decode cX5_layThen 13 = .ok (.aload_n 0, 1) := by decide +kernel
theorem dX5_layThen_14 : decode cX5_layThen 14 = .ok (.getfield 19, 3) := by decide +kernel
theorem dX5_layThen_17 : decode cX5_layThen 17 = .ok (.iload_n 1, 1) := by decide +kernel
theorem dX5_layThen_18 : decode cX5_layThen 18 = .ok (.iaload, 1) := by decide +kernel
theorem dX5_layThen_19 : decode cX5_layThen 19 = .ok (.iastore, 1) := by decide +kernel
theorem dX5_layThen_20 : decode cX5_layThen 20 = .ok (.iinc 1 1, 3) := by decide +kernel
theorem dX5_layThen_23 : decode cX5_layThen 23 = .ok (.goto (-21), 3) := by decide +kernel
theorem dX5_layThen_26 : decode cX5_layThen 26 = .ok (.return_, 1) := by decide +kernel
theorem dX5_keep_0 : decode cX5_keep 0 = .ok (.aload_n 0, 1) := by decide +kernel
theorem dX5_keep_1 : decode cX5_keep 1 = .ok (.getfield 149, 3) := by decide +kernel
theorem dX5_keep_4 : decode cX5_keep 4 = .ok (.bipush 24, 2) := by decide +kernel
theorem dX5_keep_6 : decode cX5_keep 6 = .ok (.if_icmp .ne 43, 3) := by decide +kernel
theorem dX5_keep_9 : decode cX5_keep 9 = .ok (.iconst 0, 1) := by decide +kernel
theorem dX5_keep_10 : decode cX5_keep 10 = .ok (.istore_n 1, 1) := by decide +kernel
theorem dX5_keep_11 : decode cX5_keep 11 = .ok (.iload_n 1, 1) := by decide +kernel
theorem dX5_keep_12 : decode cX5_keep 12 = .ok (.sipush 552, 3) := by decide +kernel
theorem dX5_keep_15 : decode cX5_keep 15 = .ok (.if_icmp .ge 24, 3) := by decide +kernel
theorem dX5_keep_18 : decode cX5_keep 18 = .ok (.aload_n 0, 1) := by decide +kernel
theorem dX5_keep_19 : decode cX5_keep 19 = .ok (.getfield 28, 3) := by decide +kernel
theorem dX5_keep_22 : decode cX5_keep 22 = .ok (.iload_n 1, 1) := by decide +kernel
theorem dX5_keep_23 : decode cX5_keep 23 = .ok (.aload_n 0, 1) := by decide +kernel
theorem dX5_keep_24 : decode cX5_keep 24 = .ok (.getfield 28, 3) := by decide +kernel
theorem dX5_keep_27 : decode cX5_keep 27 = .ok (.iload_n 1, 1) := by decide +kernel
theorem dX5_keep_28 : decode cX5_keep 28 = .ok (.bipush 24, 2) := by decide +kernel
theorem dX5_keep_30 : decode cX5_keep 30 = .ok (.iadd, 1) := by decide +kernel
theorem dX5_keep_31 : decode cX5_keep 31 = .ok (.iaload, 1) := by decide +kernel
theorem dX5_keep_32 : decode cX5_keep 32 = .ok (.iastore, 1) := by decide +kernel
theorem dX5_keep_33 : decode cX5_keep 33 = .ok (.iinc 1 1, 3) := by decide +kernel
theorem dX5_keep_36 : decode cX5_keep 36 = .ok (.goto (-25), 3) := by decide +kernel
theorem dX5_keep_39 : decode cX5_keep 39 = .ok (.aload_n 0, 1) := by decide +kernel
theorem dX5_keep_40 : decode cX5_keep 40 = .ok (.dup, 1) := by decide +kernel
theorem dX5_keep_41 : decode cX5_keep 41 = .ok (.getfield 149, 3) := by decide +kernel
theorem dX5_keep_44 : decode cX5_keep 44 = .ok (.iconst 1, 1) := by decide +kernel
theorem dX5_keep_45 : decode cX5_keep 45 = .ok (.isub, 1) := by decide +kernel
theorem dX5_keep_46 : decode cX5_keep 46 = .ok (.putfield 149, 3) := by decide +kernel
theorem dX5_keep_49 : decode cX5_keep 49 = .ok (.iconst 0, 1) := by decide +kernel
theorem dX5_keep_50 : decode cX5_keep 50 = .ok (.istore_n 1, 1) := by decide +kernel
theorem dX5_keep_51 : decode cX5_keep 51 = .ok (.iload_n 1, 1) := by decide +kernel
theorem dX5_keep_52 : decode cX5_keep 52 = .ok (.bipush 24, 2) := by decide +kernel
theorem dX5_keep_54 : decode cX5_keep 54 = .ok (.if_icmp .ge 29, 3) := by decide +kernel
theorem dX5_keep_57 : decode cX5_keep 57 = .ok (.aload_n 0, 1) := by decide +kernel
theorem dX5_keep_58 : decode cX5_keep 58 = .ok (.getfield 28, 3) := by decide +kernel
theorem dX5_keep_61 : decode cX5_keep 61 = .ok (.bipush 24, 2) := by decide +kernel
theorem dX5_keep_63 : decode cX5_keep 63 = .ok (.aload_n 0, 1) := by decide +kernel
theorem dX5_keep_64 : decode cX5_keep 64 = .ok (.getfield 149, 3) := by decide +kernel
theorem dX5_keep_67 : decode cX5_keep 67 = .ok (.imul, 1) := by decide +kernel
theorem dX5_keep_68 : decode cX5_keep 68 = .ok (.iload_n 1, 1) := by decide +kernel
theorem dX5_keep_69 : decode cX5_keep 69 = .ok (.iadd, 1) := by decide +kernel
theorem dX5_keep_70 : decode cX5_keep 70 = .ok (.aload_n 0, 1) := by decide +kernel
theorem dX5_keep_71 : decode cX5_keep 71 = .ok (.getfield 19, 3) := by decide +kernel
theorem dX5_keep_74 : decode cX5_keep 74 = .ok (.iload_n 1, 1) := by decide +kernel
theorem dX5_keep_75 : decode cX5_keep 75 = .ok (.iaload, 1) := by decide +kernel
theorem dX5_keep_76 : decode cX5_keep 76 = .ok (.iastore, 1) := by decide +kernel
theorem dX5_keep_77 : decode cX5_keep 77 = .ok (.iinc 1 1, 3) := by decide +kernel
theorem dX5_keep_80 : decode cX5_keep 80 = .ok (.goto (-29), 3) := by decide +kernel
theorem dX5_keep_83 : decode cX5_keep 83 = .ok (.aload_n 0, 1) := by decide +kernel
theorem dX5_keep_84 : decode cX5_keep 84 = .ok (.dup, 1) := by decide +kernel
theorem dX5_keep_85 : decode cX5_keep 85 = .ok (.getfield 149, 3) := by decide +kernel
theorem dX5_keep_88 : decode cX5_keep 88 = .ok (.iconst 1, 1) := by decide +kernel
theorem dX5_keep_89 : decode cX5_keep 89 = .ok (.iadd, 1) := by decide +kernel
theorem dX5_keep_90 : decode cX5_keep 90 = .ok (.putfield 149, 3) := by decide +kernel
theorem dX5_keep_93 : decode cX5_keep 93 = .ok (.return_, 1) := by decide +kernel
theorem dX5_watches_0 : decode cX5_watches 0 = .ok (.aload_n 0, 1) := by decide +kernel
theorem dX5_watches_1 : decode cX5_watches 1 = .ok (.iconst 0, 1) := by decide +kernel
theorem dX5_watches_2 : decode cX5_watches 2 = .ok (.putfield 47, 3) := by decide +kernel
theorem dX5_watches_5 : decode cX5_watches 5 = .ok (.aload_n 0, 1) := by decide +kernel
theorem dX5_watches_6 : decode cX5_watches 6 = .ok (.invokevirtual 177, 3) := by decide +kernel
theorem dX5_watches_9 : decode cX5_watches 9 = .ok (.ifCond .ne 6, 3) := by decide +kernel
theorem dX5_watches_12 : decode cX5_watches 12 = .ok (.ldc 180, 2) := by decide +kernel
theorem dX5_watches_14 : decode cX5_watches 14 = .ok (.ireturn, 1) := by decide +kernel
theorem dX5_watches_15 : decode cX5_watches 15 = .ok (.iload_n 1, 1) := by decide +kernel
theorem dX5_watches_16 : decode cX5_watches 16 = .ok (.i2l, 1) := by decide +kernel
theorem dX5_watches_17 : decode cX5_watches 17 = .ok (.lconst 1, 1) := by decide +kernel
theorem dX5_watches_18 : decode cX5_watches 18 = .ok (.ldc2_w 181, 3) := by decide +kernel
theorem dX5_watches_21 : decode cX5_watches 21 = .ok (.invokestatic 57, 3) := by decide +kernel
theorem dX5_watches_24 : decode cX5_watches 24 = .ok (.ifCond .ne 6, 3) := by decide +kernel
theorem dX5_watches_27 : decode cX5_watches 27 = .ok (.ldc 67, 2) := by decide +kernel
theorem dX5_watches_29 : decode cX5_watches 29 = .ok (.ireturn, 1) := by decide +kernel
theorem dX5_watches_30 : decode cX5_watches 30 = .ok (.aload_n 0, 1) := by decide +kernel
theorem dX5_watches_31 : decode cX5_watches 31 = .ok (.getfield 19, 3) := by decide +kernel
theorem dX5_watches_34 : decode cX5_watches 34 = .ok (.iconst 5, 1) := by decide +kernel
theorem dX5_watches_35 : decode cX5_watches 35 = .ok (.iaload, 1) := by decide +kernel
theorem dX5_watches_36 : decode cX5_watches 36 = .ok (.iload_n 1, 1) := by decide +kernel
theorem dX5_watches_37 : decode cX5_watches 37 = .ok (.iadd, 1) := by decide +kernel
theorem dX5_watches_38 : decode cX5_watches 38 = .ok (.sipush 999, 3) := by decide +kernel
theorem dX5_watches_41 : decode cX5_watches 41 = .ok (.if_icmp .le 6, 3) := by decide +kernel
theorem dX5_watches_44 : decode cX5_watches 44 = .ok (.ldc 77, 2) := by decide +kernel
theorem dX5_watches_46 : decode cX5_watches 46 = .ok (.ireturn, 1) := by decide +kernel
theorem dX5_watches_47 : decode cX5_watches 47 = .ok (.iconst 0, 1) := by decide +kernel
theorem dX5_watches_48 : decode cX5_watches 48 = .ok (.istore_n 2, 1) := by decide +kernel
theorem dX5_watches_49 : decode cX5_watches 49 = .ok (.iload_n 2, 1) := by decide +kernel
theorem dX5_watches_50 : decode cX5_watches 50 = .ok (.iload_n 1, 1) := by decide +kernel
theorem dX5_watches_51 : decode cX5_watches 51 = .ok (.if_icmp .ge 20, 3) := by decide +kernel
theorem dX5_watches_54 : decode cX5_watches 54 = .ok (.aload_n 0, 1) := by decide +kernel
theorem dX5_watches_55 : decode cX5_watches 55 = .ok (.invokevirtual 183, 3) := by decide +kernel
theorem dX5_watches_58 : decode cX5_watches 58 = .ok (.aload_n 0, 1) := by decide +kernel
theorem dX5_watches_59 : decode cX5_watches 59 = .ok (.getfield 19, 3) := by decide +kernel
theorem dX5_watches_62 : decode cX5_watches 62 = .ok (.invokestatic 173, 3) := by decide +kernel
theorem dX5_watches_65 : decode cX5_watches 65 = .ok (.iinc 2 1, 3) := by decide +kernel
theorem dX5_watches_68 : decode cX5_watches 68 = .ok (.goto (-19), 3) := by decide +kernel
theorem dX5_watches_71 : decode cX5_watches 71 = .ok (.aload_n 0, 1) := by decide +kernel
theorem dX5_watches_72 : decode cX5_watches 72 = .ok (.getfield 19, 3) := by decide +kernel
theorem dX5_watches_75 : decode cX5_watches 75 = .ok (.invokestatic 186, 3) := by decide +kernel
theorem dX5_watches_78 : decode cX5_watches 78 = .ok (.ireturn, 1) := by decide +kernel
theorem dX5_pour_0 : decode cX5_pour 0 = .ok (.aload_n 0, 1) := by decide +kernel
theorem dX5_pour_1 : decode cX5_pour 1 = .ok (.iconst 0, 1) := by decide +kernel
theorem dX5_pour_2 : decode cX5_pour 2 = .ok (.putfield 47, 3) := by decide +kernel
theorem dX5_pour_5 : decode cX5_pour 5 = .ok (.aload_n 0, 1) := by decide +kernel
theorem dX5_pour_6 : decode cX5_pour 6 = .ok (.invokevirtual 177, 3) := by decide +kernel
theorem dX5_pour_9 : decode cX5_pour 9 = .ok (.ifCond .ne 6, 3) := by decide +kernel
theorem dX5_pour_12 : decode cX5_pour 12 = .ok (.ldc 180, 2) := by decide +kernel
theorem dX5_pour_14 : decode cX5_pour 14 = .ok (.ireturn, 1) := by decide +kernel
theorem dX5_pour_15 : decode cX5_pour 15 = .ok (.iload_n 1, 1) := by decide +kernel
theorem dX5_pour_16 : decode cX5_pour 16 = .ok (.i2l, 1) := by decide +kernel
theorem dX5_pour_17 : decode cX5_pour 17 = .ok (.lconst 1, 1) := by decide +kernel
theorem dX5_pour_18 : decode cX5_pour 18 = .ok (.ldc2_w 190, 3) := by decide +kernel
theorem dX5_pour_21 : decode cX5_pour 21 = .ok (.invokestatic 57, 3) := by decide +kernel
theorem dX5_pour_24 : decode cX5_pour 24 = .ok (.ifCond .ne 6, 3) := by decide +kernel
theorem dX5_pour_27 : decode cX5_pour 27 = .ok (.ldc 67, 2) := by decide +kernel
theorem dX5_pour_29 : decode cX5_pour 29 = .ok (.ireturn, 1) := by decide +kernel
theorem dX5_pour_30 : decode cX5_pour 30 = .ok (.aload_n 0, 1) := by decide +kernel
theorem dX5_pour_31 : decode cX5_pour 31 = .ok (.invokevirtual 183, 3) := by decide +kernel
theorem dX5_pour_34 : decode cX5_pour 34 = .ok (.aload_n 0, 1) := by decide +kernel
theorem dX5_pour_35 : decode cX5_pour 35 = .ok (.getfield 19, 3) := by decide +kernel
theorem dX5_pour_38 : decode cX5_pour 38 = .ok (.iload_n 1, 1) := by decide +kernel
theorem dX5_pour_39 : decode cX5_pour 39 = .ok (.invokestatic 192, 3) := by decide +kernel
theorem dX5_pour_42 : decode cX5_pour 42 = .ok (.aload_n 0, 1) := by decide +kernel
theorem dX5_pour_43 : decode cX5_pour 43 = .ok (.getfield 19, 3) := by decide +kernel
theorem dX5_pour_46 : decode cX5_pour 46 = .ok (.iconst 4, 1) := by decide +kernel
theorem dX5_pour_47 : decode cX5_pour 47 = .ok (.iaload, 1) := by decide +kernel
theorem dX5_pour_48 : decode cX5_pour 48 = .ok (.ireturn, 1) := by decide +kernel
theorem dX5_fog_0 : decode cX5_fog 0 = .ok (.aload_n 0, 1) := by decide +kernel
theorem dX5_fog_1 : decode cX5_fog 1 = .ok (.iconst 0, 1) := by decide +kernel
theorem dX5_fog_2 : decode cX5_fog 2 = .ok (.putfield 47, 3) := by decide +kernel
theorem dX5_fog_5 : decode cX5_fog 5 = .ok (.aload_n 0, 1) := by decide +kernel
theorem dX5_fog_6 : decode cX5_fog 6 = .ok (.iload_n 1, 1) := by decide +kernel
theorem dX5_fog_7 : decode cX5_fog 7 = .ok (.invokevirtual 196, 3) := by decide +kernel
theorem dX5_fog_10 : decode cX5_fog 10 = .ok (.ifCond .eq 15, 3) := by decide +kernel
theorem dX5_fog_13 : decode cX5_fog 13 = .ok (.iload_n 2, 1) := by decide +kernel
theorem dX5_fog_14 : decode cX5_fog 14 = .ok (.i2l, 1) := by decide +kernel
theorem dX5_fog_15 : decode cX5_fog 15 = .ok (.lconst 0, 1) := by decide +kernel
theorem dX5_fog_16 : decode cX5_fog 16 = .ok (.ldc2_w 199, 3) := by decide +kernel
theorem dX5_fog_19 : decode cX5_fog 19 = .ok (.invokestatic 57, 3) := by decide +kernel
theorem dX5_fog_22 : decode cX5_fog 22 = .ok (.ifCond .ne 6, 3) := by decide +kernel
theorem dX5_fog_25 : decode cX5_fog 25 = .ok (.ldc 67, 2) := by decide +kernel
theorem dX5_fog_27 : decode cX5_fog 27 = .ok (.ireturn, 1) := by decide +kernel
theorem dX5_fog_28 : decode cX5_fog 28 = .ok (.aload_n 0, 1) := by decide +kernel
theorem dX5_fog_29 : decode cX5_fog 29 = .ok (.invokevirtual 183, 3) := by decide +kernel
theorem dX5_fog_32 : decode cX5_fog 32 = .ok (.aload_n 0, 1) := by decide +kernel
theorem dX5_fog_33 : decode cX5_fog 33 = .ok (.getfield 19, 3) := by decide +kernel
theorem dX5_fog_36 : decode cX5_fog 36 = .ok (.bipush 6, 2) := by decide +kernel
theorem dX5_fog_38 : decode cX5_fog 38 = .ok (.iload_n 1, 1) := by decide +kernel
theorem dX5_fog_39 : decode cX5_fog 39 = .ok (.iadd, 1) := by decide +kernel
theorem dX5_fog_40 : decode cX5_fog 40 = .ok (.iaload, 1) := by decide +kernel
theorem dX5_fog_41 : decode cX5_fog 41 = .ok (.istore_n 3, 1) := by decide +kernel
theorem dX5_fog_42 : decode cX5_fog 42 = .ok (.aload_n 0, 1) := by decide +kernel
theorem dX5_fog_43 : decode cX5_fog 43 = .ok (.getfield 19, 3) := by decide +kernel
theorem dX5_fog_46 : decode cX5_fog 46 = .ok (.bipush 6, 2) := by decide +kernel
theorem dX5_fog_48 : decode cX5_fog 48 = .ok (.iload_n 1, 1) := by decide +kernel
theorem dX5_fog_49 : decode cX5_fog 49 = .ok (.iadd, 1) := by decide +kernel
theorem dX5_fog_50 : decode cX5_fog 50 = .ok (.iload_n 2, 1) := by decide +kernel
theorem dX5_fog_51 : decode cX5_fog 51 = .ok (.iastore, 1) := by decide +kernel
theorem dX5_fog_52 : decode cX5_fog 52 = .ok (.iload_n 3, 1) := by decide +kernel
theorem dX5_fog_53 : decode cX5_fog 53 = .ok (.ireturn, 1) := by decide +kernel
theorem dX5_eyes_0 : decode cX5_eyes 0 = .ok (.aload_n 0, 1) := by decide +kernel
theorem dX5_eyes_1 : decode cX5_eyes 1 = .ok (.iconst 0, 1) := by decide +kernel
theorem dX5_eyes_2 : decode cX5_eyes 2 = .ok (.putfield 47, 3) := by decide +kernel
theorem dX5_eyes_5 : decode cX5_eyes 5 = .ok (.aload_n 0, 1) := by decide +kernel
theorem dX5_eyes_6 : decode cX5_eyes 6 = .ok (.invokevirtual 177, 3) := by decide +kernel
theorem dX5_eyes_9 : decode cX5_eyes 9 = .ok (.ifCond .ne 6, 3) := by decide +kernel
theorem dX5_eyes_12 : decode cX5_eyes 12 = .ok (.ldc 180, 2) := by decide +kernel
theorem dX5_eyes_14 : decode cX5_eyes 14 = .ok (.ireturn, 1) := by decide +kernel
theorem dX5_eyes_15 : decode cX5_eyes 15 = .ok (.iload_n 1, 1) := by decide +kernel
theorem dX5_eyes_16 : decode cX5_eyes 16 = .ok (.i2l, 1) := by decide +kernel
theorem dX5_eyes_17 : decode cX5_eyes 17 = .ok (.lconst 0, 1) := by decide +kernel
theorem dX5_eyes_18 : decode cX5_eyes 18 = .ok (.ldc2_w 201, 3) := by decide +kernel
theorem dX5_eyes_21 : decode cX5_eyes 21 = .ok (.invokestatic 57, 3) := by decide +kernel
theorem dX5_eyes_24 : decode cX5_eyes 24 = .ok (.ifCond .ne 6, 3) := by decide +kernel
theorem dX5_eyes_27 : decode cX5_eyes 27 = .ok (.ldc 67, 2) := by decide +kernel
theorem dX5_eyes_29 : decode cX5_eyes 29 = .ok (.ireturn, 1) := by decide +kernel
theorem dX5_eyes_30 : decode cX5_eyes 30 = .ok (.aload_n 0, 1) := by decide +kernel
theorem dX5_eyes_31 : decode cX5_eyes 31 = .ok (.invokevirtual 183, 3) := by decide +kernel
theorem dX5_eyes_34 : decode cX5_eyes 34 = .ok (.aload_n 0, 1) := by decide +kernel
theorem dX5_eyes_35 : decode cX5_eyes 35 = .ok (.getfield 19, 3) := by decide +kernel
theorem dX5_eyes_38 : decode cX5_eyes 38 = .ok (.iconst 3, 1) := by decide +kernel
theorem dX5_eyes_39 : decode cX5_eyes 39 = .ok (.iaload, 1) := by decide +kernel
theorem dX5_eyes_40 : decode cX5_eyes 40 = .ok (.istore_n 2, 1) := by decide +kernel
theorem dX5_eyes_41 : decode cX5_eyes 41 = .ok (.aload_n 0, 1) := by decide +kernel
theorem dX5_eyes_42 : decode cX5_eyes 42 = .ok (.getfield 19, 3) := by decide +kernel
theorem dX5_eyes_45 : decode cX5_eyes 45 = .ok (.iconst 3, 1) := by decide +kernel
theorem dX5_eyes_46 : decode cX5_eyes 46 = .ok (.iload_n 1, 1) := by decide +kernel
theorem dX5_eyes_47 : decode cX5_eyes 47 = .ok (.iastore, 1) := by decide +kernel
theorem dX5_eyes_48 : decode cX5_eyes 48 = .ok (.iload_n 2, 1) := by decide +kernel
theorem dX5_eyes_49 : decode cX5_eyes 49 = .ok (.ireturn, 1) := by decide +kernel
theorem dX5_move_0 : decode cX5_move 0 = .ok (.aload_n 0, 1) := by decide +kernel
theorem dX5_move_1 : decode cX5_move 1 = .ok (.iconst 0, 1) := by decide +kernel
theorem dX5_move_2 : decode cX5_move 2 = .ok (.putfield 47, 3) := by decide +kernel
theorem dX5_move_5 : decode cX5_move 5 = .ok (.aload_n 0, 1) := by decide +kernel
theorem dX5_move_6 : decode cX5_move 6 = .ok (.iload_n 1, 1) := by decide +kernel
theorem dX5_move_7 : decode cX5_move 7 = .ok (.invokevirtual 203, 3) := by decide +kernel
theorem dX5_move_10 : decode cX5_move 10 = .ok (.ifCond .eq 11, 3) := by decide +kernel
theorem dX5_move_13 : decode cX5_move 13 = .ok (.aload_n 0, 1) := by decide +kernel
theorem dX5_move_14 : decode cX5_move 14 = .ok (.iload_n 2, 1) := by decide +kernel
theorem dX5_move_15 : decode cX5_move 15 = .ok (.invokevirtual 206, 3) := by decide +kernel
theorem dX5_move_18 : decode cX5_move 18 = .ok (.ifCond .ne 6, 3) := by decide +kernel
theorem dX5_move_21 : decode cX5_move 21 = .ok (.ldc 67, 2) := by decide +kernel
theorem dX5_move_23 : decode cX5_move 23 = .ok (.ireturn, 1) := by decide +kernel
theorem dX5_move_24 : decode cX5_move 24 = .ok (.aload_n 0, 1) := by decide +kernel
theorem dX5_move_25 : decode cX5_move 25 = .ok (.getfield 19, 3) := by decide +kernel
theorem dX5_move_28 : decode cX5_move 28 = .ok (.iload_n 1, 1) := by decide +kernel
theorem dX5_move_29 : decode cX5_move 29 = .ok (.iconst 1, 1) := by decide +kernel
theorem dX5_move_30 : decode cX5_move 30 = .ok (.invokestatic 152, 3) := by decide +kernel
theorem dX5_move_33 : decode cX5_move 33 = .ok (.istore_n 3, 1) := by decide +kernel
theorem dX5_move_34 : decode cX5_move 34 = .ok (.iload_n 3, 1) := by decide +kernel
theorem dX5_move_35 : decode cX5_move 35 = .ok (.iload_n 2, 1) := by decide +kernel
theorem dX5_move_36 : decode cX5_move 36 = .ok (.if_icmp .ne 6, 3) := by decide +kernel
theorem dX5_move_39 : decode cX5_move 39 = .ok (.ldc 180, 2) := by decide +kernel
theorem dX5_move_41 : decode cX5_move 41 = .ok (.ireturn, 1) := by decide +kernel
theorem dX5_move_42 : decode cX5_move 42 = .ok (.aload_n 0, 1) := by decide +kernel
theorem dX5_move_43 : decode cX5_move 43 = .ok (.invokevirtual 183, 3) := by decide +kernel
theorem dX5_move_46 : decode cX5_move 46 = .ok (.aload_n 0, 1) := by decide +kernel
theorem dX5_move_47 : decode cX5_move 47 = .ok (.getfield 19, 3) := by decide +kernel
theorem dX5_move_50 : decode cX5_move 50 = .ok (.bipush 12, 2) := by decide +kernel
theorem dX5_move_52 : decode cX5_move 52 = .ok (.iconst 2, 1) := by decide +kernel
theorem dX5_move_53 : decode cX5_move 53 = .ok (.iload_n 1, 1) := by decide +kernel
theorem dX5_move_54 : decode cX5_move 54 = .ok (.imul, 1) := by decide +kernel
theorem dX5_move_55 : decode cX5_move 55 = .ok (.iadd, 1) := by decide +kernel
theorem dX5_move_56 : decode cX5_move 56 = .ok (.iconst 1, 1) := by decide +kernel
theorem dX5_move_57 : decode cX5_move 57 = .ok (.iadd, 1) := by decide +kernel
theorem dX5_move_58 : decode cX5_move 58 = .ok (.iload_n 2, 1) := by decide +kernel
theorem dX5_move_59 : decode cX5_move 59 = .ok (.iastore, 1) := by decide +kernel
theorem dX5_move_60 : decode cX5_move 60 = .ok (.iload_n 3, 1) := by decide +kernel
theorem dX5_move_61 : decode cX5_move 61 = .ok (.ireturn, 1) := by decide +kernel
theorem dX5_undo_0 : decode cX5_undo 0 = .ok (.aload_n 0, 1) := by decide +kernel
theorem dX5_undo_1 : decode cX5_undo 1 = .ok (.iconst 0, 1) := by decide +kernel
theorem dX5_undo_2 : decode cX5_undo 2 = .ok (.putfield 47, 3) := by decide +kernel
theorem dX5_undo_5 : decode cX5_undo 5 = .ok (.aload_n 0, 1) := by decide +kernel
theorem dX5_undo_6 : decode cX5_undo 6 = .ok (.getfield 149, 3) := by decide +kernel
theorem dX5_undo_9 : decode cX5_undo 9 = .ok (.ifCond .ne 6, 3) := by decide +kernel
theorem dX5_undo_12 : decode cX5_undo 12 = .ok (.ldc 180, 2) := by decide +kernel
theorem dX5_undo_14 : decode cX5_undo 14 = .ok (.ireturn, 1) := by decide +kernel
theorem dX5_undo_15 : decode cX5_undo 15 = .ok (.aload_n 0, 1) := by decide +kernel
theorem dX5_undo_16 : decode cX5_undo 16 = .ok (.dup, 1) := by decide +kernel
theorem dX5_undo_17 : decode cX5_undo 17 = .ok (.getfield 149, 3) := by decide +kernel
theorem dX5_undo_20 : decode cX5_undo 20 = .ok (.iconst 1, 1) := by decide +kernel
theorem dX5_undo_21 : decode cX5_undo 21 = .ok (.isub, 1) := by decide +kernel
theorem dX5_undo_22 : decode cX5_undo 22 = .ok (.putfield 149, 3) := by decide +kernel
theorem dX5_undo_25 : decode cX5_undo 25 = .ok (.iconst 0, 1) := by decide +kernel
theorem dX5_undo_26 : decode cX5_undo 26 = .ok (.istore_n 1, 1) := by decide +kernel
theorem dX5_undo_27 : decode cX5_undo 27 = .ok (.iload_n 1, 1) := by decide +kernel
theorem dX5_undo_28 : decode cX5_undo 28 = .ok (.bipush 24, 2) := by decide +kernel
theorem dX5_undo_30 : decode cX5_undo 30 = .ok (.if_icmp .ge 29, 3) := by decide +kernel
theorem dX5_undo_33 : decode cX5_undo 33 = .ok (.aload_n 0, 1) := by decide +kernel
theorem dX5_undo_34 : decode cX5_undo 34 = .ok (.getfield 19, 3) := by decide +kernel
theorem dX5_undo_37 : decode cX5_undo 37 = .ok (.iload_n 1, 1) := by decide +kernel
theorem dX5_undo_38 : decode cX5_undo 38 = .ok (.aload_n 0, 1) := by decide +kernel
theorem dX5_undo_39 : decode cX5_undo 39 = .ok (.getfield 28, 3) := by decide +kernel
theorem dX5_undo_42 : decode cX5_undo 42 = .ok (.bipush 24, 2) := by decide +kernel
theorem dX5_undo_44 : decode cX5_undo 44 = .ok (.aload_n 0, 1) := by decide +kernel
theorem dX5_undo_45 : decode cX5_undo 45 = .ok (.getfield 149, 3) := by decide +kernel
theorem dX5_undo_48 : decode cX5_undo 48 = .ok (.imul, 1) := by decide +kernel
theorem dX5_undo_49 : decode cX5_undo 49 = .ok (.iload_n 1, 1) := by decide +kernel
theorem dX5_undo_50 : decode cX5_undo 50 = .ok (.iadd, 1) := by decide +kernel
theorem dX5_undo_51 : decode cX5_undo 51 = .ok (.iaload, 1) := by decide +kernel
theorem dX5_undo_52 : decode cX5_undo 52 = .ok (.iastore, 1) := by decide +kernel
theorem dX5_undo_53 : decode cX5_undo 53 = .ok (.iinc 1 1, 3) := by decide +kernel
theorem dX5_undo_56 : decode cX5_undo 56 = .ok (.goto (-29), 3) := by decide +kernel
theorem dX5_undo_59 : decode cX5_undo 59 = .ok (.aload_n 0, 1) := by decide +kernel
theorem dX5_undo_60 : decode cX5_undo 60 = .ok (.getfield 149, 3) := by decide +kernel
theorem dX5_undo_63 : decode cX5_undo 63 = .ok (.ireturn, 1) := by decide +kernel
theorem dX5_ship_0 : decode cX5_ship 0 = .ok (.aload_n 0, 1) := by decide +kernel
theorem dX5_ship_1 : decode cX5_ship 1 = .ok (.iconst 0, 1) := by decide +kernel
theorem dX5_ship_2 : decode cX5_ship 2 = .ok (.putfield 47, 3) := by decide +kernel
theorem dX5_ship_5 : decode cX5_ship 5 = .ok (.aload_n 0, 1) := by decide +kernel
theorem dX5_ship_6 : decode cX5_ship 6 = .ok (.iload_n 1, 1) := by decide +kernel
theorem dX5_ship_7 : decode cX5_ship 7 = .ok (.invokevirtual 203, 3) := by decide +kernel
theorem dX5_ship_10 : decode cX5_ship 10 = .ok (.ifCond .eq 15, 3) := by decide +kernel
theorem dX5_ship_13 : decode cX5_ship 13 = .ok (.iload_n 2, 1) := by decide +kernel
theorem dX5_ship_14 : decode cX5_ship 14 = .ok (.i2l, 1) := by decide +kernel
theorem dX5_ship_15 : decode cX5_ship 15 = .ok (.lconst 0, 1) := by decide +kernel
theorem dX5_ship_16 : decode cX5_ship 16 = .ok (.ldc2_w 65, 3) := by decide +kernel
theorem dX5_ship_19 : decode cX5_ship 19 = .ok (.invokestatic 57, 3) := by decide +kernel
theorem dX5_ship_22 : decode cX5_ship 22 = .ok (.ifCond .ne 6, 3) := by decide +kernel
theorem dX5_ship_25 : decode cX5_ship 25 = .ok (.ldc 67, 2) := by decide +kernel
theorem dX5_ship_27 : decode cX5_ship 27 = .ok (.ireturn, 1) := by decide +kernel
theorem dX5_ship_28 : decode cX5_ship 28 = .ok (.iload_n 2, 1) := by decide +kernel
theorem dX5_ship_29 : decode cX5_ship 29 = .ok (.ifCond .ne 15, 3) := by decide +kernel
theorem dX5_ship_32 : decode cX5_ship 32 = .ok (.aload_n 0, 1) := by decide +kernel
theorem dX5_ship_33 : decode cX5_ship 33 = .ok (.getfield 19, 3) := by decide +kernel
theorem dX5_ship_36 : decode cX5_ship 36 = .ok (.iload_n 1, 1) := by decide +kernel
theorem dX5_ship_37 : decode cX5_ship 37 = .ok (.iconst 1, 1) := by decide +kernel
theorem dX5_ship_38 : decode cX5_ship 38 = .ok (.invokestatic 152, 3) := by decide +kernel
theorem dX5_ship_41 : decode cX5_ship 41 = .ok (.goto 27, 3) := by decide +kernel
theorem dX5_ship_44 : decode cX5_ship 44 = .ok (.iload_n 2, 1) := by decide +kernel
theorem dX5_ship_45 : decode cX5_ship 45 = .ok (.iconst 1, 1) := by decide +kernel
theorem dX5_ship_46 : decode cX5_ship 46 = .ok (.if_icmp .ne 14, 3) := by decide +kernel
theorem dX5_ship_49 : decode cX5_ship 49 = .ok (.aload_n 0, 1) := by decide +kernel
theorem dX5_ship_50 : decode cX5_ship 50 = .ok (.getfield 19, 3) := by decide +kernel
theorem dX5_ship_53 : decode cX5_ship 53 = .ok (.iload_n 1, 1) := by decide +kernel
theorem dX5_ship_54 : decode cX5_ship 54 = .ok (.invokestatic 160, 3) := by decide +kernel
theorem dX5_ship_57 : decode cX5_ship 57 = .ok (.goto 11, 3) := by decide +kernel
theorem dX5_ship_60 : decode cX5_ship 60 = .ok (.aload_n 0, 1) := by decide +kernel
theorem dX5_ship_61 : decode cX5_ship 61 = .ok (.getfield 19, 3) := by decide +kernel
theorem dX5_ship_64 : decode cX5_ship 64 = .ok (.iload_n 1, 1) := by decide +kernel
theorem dX5_ship_65 : decode cX5_ship 65 = .ok (.invokestatic 170, 3) := by decide +kernel
theorem dX5_ship_68 : decode cX5_ship 68 = .ok (.ireturn, 1) := by decide +kernel
theorem dX5_stand_0 : decode cX5_stand 0 = .ok (.aload_n 0, 1) := by decide +kernel
theorem dX5_stand_1 : decode cX5_stand 1 = .ok (.iconst 0, 1) := by decide +kernel
theorem dX5_stand_2 : decode cX5_stand 2 = .ok (.putfield 47, 3) := by decide +kernel
theorem dX5_stand_5 : decode cX5_stand 5 = .ok (.aload_n 0, 1) := by decide +kernel
theorem dX5_stand_6 : decode cX5_stand 6 = .ok (.invokevirtual 177, 3) := by decide +kernel
theorem dX5_stand_9 : decode cX5_stand 9 = .ok (.ifCond .ne 6, 3) := by decide +kernel
theorem dX5_stand_12 : decode cX5_stand 12 = .ok (.ldc 180, 2) := by decide +kernel
theorem dX5_stand_14 : decode cX5_stand 14 = .ok (.ireturn, 1) := by decide +kernel
theorem dX5_stand_15 : decode cX5_stand 15 = .ok (.iload_n 1, 1) := by decide +kernel
theorem dX5_stand_16 : decode cX5_stand 16 = .ok (.tableswitch 96 0 6 #[44, 44, 53, 61, 68, 75, 82], 44) := by decide +kernel
theorem dX5_stand_60 : decode cX5_stand 60 = .ok (.aload_n 0, 1) := by decide +kernel
theorem dX5_stand_61 : decode cX5_stand 61 = .ok (.getfield 19, 3) := by decide +kernel
theorem dX5_stand_64 : decode cX5_stand 64 = .ok (.iload_n 1, 1) := by decide +kernel
theorem dX5_stand_65 : decode cX5_stand 65 = .ok (.invokestatic 167, 3) := by decide +kernel
theorem dX5_stand_68 : decode cX5_stand 68 = .ok (.ireturn, 1) := by decide +kernel
theorem dX5_stand_69 : decode cX5_stand 69 = .ok (.aload_n 0, 1) := by decide +kernel
theorem dX5_stand_70 : decode cX5_stand 70 = .ok (.getfield 19, 3) := by decide +kernel
theorem dX5_stand_73 : decode cX5_stand 73 = .ok (.invokestatic 186, 3) := by decide +kernel
theorem dX5_stand_76 : decode cX5_stand 76 = .ok (.ireturn, 1) := by decide +kernel
theorem dX5_stand_77 : decode cX5_stand 77 = .ok (.aload_n 0, 1) := by decide +kernel
theorem dX5_stand_78 : decode cX5_stand 78 = .ok (.getfield 19, 3) := by decide +kernel
theorem dX5_stand_81 : decode cX5_stand 81 = .ok (.iconst 3, 1) := by decide +kernel
theorem dX5_stand_82 : decode cX5_stand 82 = .ok (.iaload, 1) := by decide +kernel
theorem dX5_stand_83 : decode cX5_stand 83 = .ok (.ireturn, 1) := by decide +kernel
theorem dX5_stand_84 : decode cX5_stand 84 = .ok (.aload_n 0, 1) := by decide +kernel
theorem dX5_stand_85 : decode cX5_stand 85 = .ok (.getfield 19, 3) := by decide +kernel
theorem dX5_stand_88 : decode cX5_stand 88 = .ok (.iconst 4, 1) := by decide +kernel
theorem dX5_stand_89 : decode cX5_stand 89 = .ok (.iaload, 1) := by decide +kernel
theorem dX5_stand_90 : decode cX5_stand 90 = .ok (.ireturn, 1) := by decide +kernel
theorem dX5_stand_91 : decode cX5_stand 91 = .ok (.aload_n 0, 1) := by decide +kernel
theorem dX5_stand_92 : decode cX5_stand 92 = .ok (.getfield 19, 3) := by decide +kernel
theorem dX5_stand_95 : decode cX5_stand 95 = .ok (.iconst 2, 1) := by decide +kernel
theorem dX5_stand_96 : decode cX5_stand 96 = .ok (.iaload, 1) := by decide +kernel
theorem dX5_stand_97 : decode cX5_stand 97 = .ok (.ireturn, 1) := by decide +kernel
theorem dX5_stand_98 : decode cX5_stand 98 = .ok (.aload_n 0, 1) := by decide +kernel
theorem dX5_stand_99 : decode cX5_stand 99 = .ok (.getfield 19, 3) := by decide +kernel
theorem dX5_stand_102 : decode cX5_stand 102 = .ok (.aload_n 0, 1) := by decide +kernel
theorem dX5_stand_103 : decode cX5_stand 103 = .ok (.getfield 19, 3) := by decide +kernel
theorem dX5_stand_106 : decode cX5_stand 106 = .ok (.iconst 5, 1) := by decide +kernel
theorem dX5_stand_107 : decode cX5_stand 107 = .ok (.iaload, 1) := by decide +kernel
theorem dX5_stand_108 : decode cX5_stand 108 = .ok (.invokestatic 156, 3) := by decide +kernel
theorem dX5_stand_111 : decode cX5_stand 111 = .ok (.ireturn, 1) := by decide +kernel
theorem dX5_stand_112 : decode cX5_stand 112 = .ok (.ldc 67, 2) := by decide +kernel
theorem dX5_stand_114 : decode cX5_stand 114 = .ok (.ireturn, 1) := by decide +kernel
theorem dX5_thick_0 : decode cX5_thick 0 = .ok (.aload_n 0, 1) := by decide +kernel
theorem dX5_thick_1 : decode cX5_thick 1 = .ok (.iconst 0, 1) := by decide +kernel
theorem dX5_thick_2 : decode cX5_thick 2 = .ok (.putfield 47, 3) := by decide +kernel
theorem dX5_thick_5 : decode cX5_thick 5 = .ok (.aload_n 0, 1) := by decide +kernel
theorem dX5_thick_6 : decode cX5_thick 6 = .ok (.invokevirtual 177, 3) := by decide +kernel
theorem dX5_thick_9 : decode cX5_thick 9 = .ok (.ifCond .ne 6, 3) := by decide +kernel
theorem dX5_thick_12 : decode cX5_thick 12 = .ok (.ldc 180, 2) := by decide +kernel
theorem dX5_thick_14 : decode cX5_thick 14 = .ok (.ireturn, 1) := by decide +kernel
theorem dX5_thick_15 : decode cX5_thick 15 = .ok (.iload_n 1, 1) := by decide +kernel
theorem dX5_thick_16 : decode cX5_thick 16 = .ok (.i2l, 1) := by decide +kernel
theorem dX5_thick_17 : decode cX5_thick 17 = .ok (.lconst 0, 1) := by decide +kernel
theorem dX5_thick_18 : decode cX5_thick 18 = .ok (.ldc2_w 190, 3) := by decide +kernel
theorem dX5_thick_21 : decode cX5_thick 21 = .ok (.invokestatic 57, 3) := by decide +kernel
theorem dX5_thick_24 : decode cX5_thick 24 = .ok (.ifCond .eq 21, 3) := by decide +kernel
theorem dX5_thick_27 : decode cX5_thick 27 = .ok (.aload_n 0, 1) := by decide +kernel
theorem dX5_thick_28 : decode cX5_thick 28 = .ok (.getfield 19, 3) := by decide +kernel
theorem dX5_thick_31 : decode cX5_thick 31 = .ok (.aload_n 0, 1) := by decide +kernel
theorem dX5_thick_32 : decode cX5_thick 32 = .ok (.getfield 19, 3) := by decide +kernel
theorem dX5_thick_35 : decode cX5_thick 35 = .ok (.iconst 5, 1) := by decide +kernel
theorem dX5_thick_36 : decode cX5_thick 36 = .ok (.iaload, 1) := by decide +kernel
theorem dX5_thick_37 : decode cX5_thick 37 = .ok (.iload_n 1, 1) := by decide +kernel
theorem dX5_thick_38 : decode cX5_thick 38 = .ok (.iadd, 1) := by decide +kernel
theorem dX5_thick_39 : decode cX5_thick 39 = .ok (.invokestatic 156, 3) := by decide +kernel
theorem dX5_thick_42 : decode cX5_thick 42 = .ok (.goto 5, 3) := by decide +kernel
theorem dX5_thick_45 : decode cX5_thick 45 = .ok (.ldc 67, 2) := by decide +kernel
theorem dX5_thick_47 : decode cX5_thick 47 = .ok (.ireturn, 1) := by decide +kernel
theorem dX5_ahead_0 : decode cX5_ahead 0 = .ok (.aload_n 0, 1) := by decide +kernel
theorem dX5_ahead_1 : decode cX5_ahead 1 = .ok (.iconst 0, 1) := by decide +kernel
theorem dX5_ahead_2 : decode cX5_ahead 2 = .ok (.putfield 47, 3) := by decide +kernel
theorem dX5_ahead_5 : decode cX5_ahead 5 = .ok (.aload_n 0, 1) := by decide +kernel
theorem dX5_ahead_6 : decode cX5_ahead 6 = .ok (.iload_n 1, 1) := by decide +kernel
theorem dX5_ahead_7 : decode cX5_ahead 7 = .ok (.invokevirtual 203, 3) := by decide +kernel
theorem dX5_ahead_10 : decode cX5_ahead 10 = .ok (.ifCond .eq 25, 3) := by decide +kernel
theorem dX5_ahead_13 : decode cX5_ahead 13 = .ok (.iload_n 2, 1) := by decide +kernel
theorem dX5_ahead_14 : decode cX5_ahead 14 = .ok (.i2l, 1) := by decide +kernel
theorem dX5_ahead_15 : decode cX5_ahead 15 = .ok (.lconst 0, 1) := by decide +kernel
theorem dX5_ahead_16 : decode cX5_ahead 16 = .ok (.ldc2_w 190, 3) := by decide +kernel
theorem dX5_ahead_19 : decode cX5_ahead 19 = .ok (.invokestatic 57, 3) := by decide +kernel
theorem dX5_ahead_22 : decode cX5_ahead 22 = .ok (.ifCond .eq 13, 3) := by decide +kernel
theorem dX5_ahead_25 : decode cX5_ahead 25 = .ok (.iload_n 3, 1) := by decide +kernel
theorem dX5_ahead_26 : decode cX5_ahead 26 = .ok (.i2l, 1) := by decide +kernel
theorem dX5_ahead_27 : decode cX5_ahead 27 = .ok (.lconst 0, 1) := by decide +kernel
theorem dX5_ahead_28 : decode cX5_ahead 28 = .ok (.lconst 1, 1) := by decide +kernel
theorem dX5_ahead_29 : decode cX5_ahead 29 = .ok (.invokestatic 57, 3) := by decide +kernel
theorem dX5_ahead_32 : decode cX5_ahead 32 = .ok (.ifCond .ne 6, 3) := by decide +kernel
theorem dX5_ahead_35 : decode cX5_ahead 35 = .ok (.ldc 67, 2) := by decide +kernel
theorem dX5_ahead_37 : decode cX5_ahead 37 = .ok (.ireturn, 1) := by decide +kernel
theorem dX5_ahead_38 : decode cX5_ahead 38 = .ok (.aload_n 0, 1) := by decide +kernel
theorem dX5_ahead_39 : decode cX5_ahead 39 = .ok (.invokevirtual 209, 3) := by decide +kernel
theorem dX5_ahead_42 : decode cX5_ahead 42 = .ok (.aload_n 0, 1) := by decide +kernel
theorem dX5_ahead_43 : decode cX5_ahead 43 = .ok (.getfield 25, 3) := by decide +kernel
theorem dX5_ahead_46 : decode cX5_ahead 46 = .ok (.iload_n 2, 1) := by decide +kernel
theorem dX5_ahead_47 : decode cX5_ahead 47 = .ok (.invokestatic 212, 3) := by decide +kernel
theorem dX5_ahead_50 : decode cX5_ahead 50 = .ok (.iload_n 3, 1) := by decide +kernel
theorem dX5_ahead_51 : decode cX5_ahead 51 = .ok (.ifCond .ne 15, 3) := by decide +kernel
theorem dX5_ahead_54 : decode cX5_ahead 54 = .ok (.aload_n 0, 1) := by decide +kernel
theorem dX5_ahead_55 : decode cX5_ahead 55 = .ok (.getfield 25, 3) := by decide +kernel
theorem dX5_ahead_58 : decode cX5_ahead 58 = .ok (.iload_n 1, 1) := by decide +kernel
theorem dX5_ahead_59 : decode cX5_ahead 59 = .ok (.iconst 1, 1) := by decide +kernel
theorem dX5_ahead_60 : decode cX5_ahead 60 = .ok (.invokestatic 152, 3) := by decide +kernel
theorem dX5_ahead_63 : decode cX5_ahead 63 = .ok (.goto 11, 3) := by decide +kernel
theorem dX5_ahead_66 : decode cX5_ahead 66 = .ok (.aload_n 0, 1) := by decide +kernel
theorem dX5_ahead_67 : decode cX5_ahead 67 = .ok (.getfield 25, 3) := by decide +kernel
theorem dX5_ahead_70 : decode cX5_ahead 70 = .ok (.iload_n 1, 1) := by decide +kernel
theorem dX5_ahead_71 : decode cX5_ahead 71 = .ok (.invokestatic 160, 3) := by decide +kernel
theorem dX5_ahead_74 : decode cX5_ahead 74 = .ok (.ireturn, 1) := by decide +kernel
theorem dX5_written_0 : decode cX5_written 0 = .ok (.aload_n 0, 1) := by decide +kernel
theorem dX5_written_1 : decode cX5_written 1 = .ok (.iconst 0, 1) := by decide +kernel
theorem dX5_written_2 : decode cX5_written 2 = .ok (.putfield 47, 3) := by decide +kernel
theorem dX5_written_5 : decode cX5_written 5 = .ok (.aload_n 0, 1) := by decide +kernel
theorem dX5_written_6 : decode cX5_written 6 = .ok (.invokevirtual 177, 3) := by decide +kernel
theorem dX5_written_9 : decode cX5_written 9 = .ok (.ifCond .ne 6, 3) := by decide +kernel
theorem dX5_written_12 : decode cX5_written 12 = .ok (.ldc 180, 2) := by decide +kernel
theorem dX5_written_14 : decode cX5_written 14 = .ok (.ireturn, 1) := by decide +kernel
theorem dX5_written_15 : decode cX5_written 15 = .ok (.iload_n 1, 1) := by decide +kernel
theorem dX5_written_16 : decode cX5_written 16 = .ok (.i2l, 1) := by decide +kernel
theorem dX5_written_17 : decode cX5_written 17 = .ok (.lconst 0, 1) := by decide +kernel
theorem dX5_written_18 : decode cX5_written 18 = .ok (.ldc2_w 190, 3) := by decide +kernel
theorem dX5_written_21 : decode cX5_written 21 = .ok (.invokestatic 57, 3) := by decide +kernel
theorem dX5_written_24 : decode cX5_written 24 = .ok (.ifCond .eq 15, 3) := by decide +kernel
theorem dX5_written_27 : decode cX5_written 27 = .ok (.iload_n 2, 1) := by decide +kernel
theorem dX5_written_28 : decode cX5_written 28 = .ok (.i2l, 1) := by decide +kernel
theorem dX5_written_29 : decode cX5_written 29 = .ok (.lconst 0, 1) := by decide +kernel
theorem dX5_written_30 : decode cX5_written 30 = .ok (.ldc2_w 215, 3) := by decide +kernel
theorem dX5_written_33 : decode cX5_written 33 = .ok (.invokestatic 57, 3) := by decide +kernel
theorem dX5_written_36 : decode cX5_written 36 = .ok (.ifCond .ne 6, 3) := by decide +kernel
theorem dX5_written_39 : decode cX5_written 39 = .ok (.ldc 67, 2) := by decide +kernel
theorem dX5_written_41 : decode cX5_written 41 = .ok (.ireturn, 1) := by decide +kernel
theorem dX5_written_42 : decode cX5_written 42 = .ok (.aload_n 0, 1) := by decide +kernel
theorem dX5_written_43 : decode cX5_written 43 = .ok (.invokevirtual 209, 3) := by decide +kernel
theorem dX5_written_46 : decode cX5_written 46 = .ok (.aload_n 0, 1) := by decide +kernel
theorem dX5_written_47 : decode cX5_written 47 = .ok (.getfield 25, 3) := by decide +kernel
theorem dX5_written_50 : decode cX5_written 50 = .ok (.iload_n 1, 1) := by decide +kernel
theorem dX5_written_51 : decode cX5_written 51 = .ok (.invokestatic 212, 3) := by decide +kernel
theorem dX5_written_54 : decode cX5_written 54 = .ok (.iload_n 2, 1) := by decide +kernel
theorem dX5_written_55 : decode cX5_written 55 = .ok (.iconst 2, 1) := by decide +kernel
theorem dX5_written_56 : decode cX5_written 56 = .ok (.if_icmp .ge 14, 3) := by decide +kernel
theorem dX5_written_59 : decode cX5_written 59 = .ok (.aload_n 0, 1) := by decide +kernel
theorem dX5_written_60 : decode cX5_written 60 = .ok (.getfield 25, 3) := by decide +kernel
theorem dX5_written_63 : decode cX5_written 63 = .ok (.iload_n 2, 1) := by decide +kernel
theorem dX5_written_64 : decode cX5_written 64 = .ok (.invokestatic 167, 3) := by decide +kernel
theorem dX5_written_67 : decode cX5_written 67 = .ok (.goto 24, 3) := by decide +kernel
theorem dX5_written_70 : decode cX5_written 70 = .ok (.iload_n 2, 1) := by decide +kernel
theorem dX5_written_71 : decode cX5_written 71 = .ok (.iconst 2, 1) := by decide +kernel
theorem dX5_written_72 : decode cX5_written 72 = .ok (.if_icmp .ne 13, 3) := by decide +kernel
theorem dX5_written_75 : decode cX5_written 75 = .ok (.aload_n 0, 1) := by decide +kernel
theorem dX5_written_76 : decode cX5_written 76 = .ok (.getfield 25, 3) := by decide +kernel
theorem dX5_written_79 : decode cX5_written 79 = .ok (.invokestatic 186, 3) := by decide +kernel
theorem dX5_written_82 : decode cX5_written 82 = .ok (.goto 9, 3) := by decide +kernel
theorem dX5_written_85 : decode cX5_written 85 = .ok (.aload_n 0, 1) := by decide +kernel
theorem dX5_written_86 : decode cX5_written 86 = .ok (.getfield 25, 3) := by decide +kernel
theorem dX5_written_89 : decode cX5_written 89 = .ok (.iconst 4, 1) := by decide +kernel
theorem dX5_written_90 : decode cX5_written 90 = .ok (.iaload, 1) := by decide +kernel
theorem dX5_written_91 : decode cX5_written 91 = .ok (.ireturn, 1) := by decide +kernel
theorem dX5_when_0 : decode cX5_when 0 = .ok (.aload_n 0, 1) := by decide +kernel
theorem dX5_when_1 : decode cX5_when 1 = .ok (.iconst 0, 1) := by decide +kernel
theorem dX5_when_2 : decode cX5_when 2 = .ok (.putfield 47, 3) := by decide +kernel
theorem dX5_when_5 : decode cX5_when 5 = .ok (.aload_n 0, 1) := by decide +kernel
theorem dX5_when_6 : decode cX5_when 6 = .ok (.iload_n 1, 1) := by decide +kernel
theorem dX5_when_7 : decode cX5_when 7 = .ok (.invokevirtual 203, 3) := by decide +kernel
theorem dX5_when_10 : decode cX5_when 10 = .ok (.ifCond .eq 13, 3) := by decide +kernel
theorem dX5_when_13 : decode cX5_when 13 = .ok (.iload_n 2, 1) := by decide +kernel
theorem dX5_when_14 : decode cX5_when 14 = .ok (.i2l, 1) := by decide +kernel
theorem dX5_when_15 : decode cX5_when 15 = .ok (.lconst 0, 1) := by decide +kernel
theorem dX5_when_16 : decode cX5_when 16 = .ok (.lconst 1, 1) := by decide +kernel
theorem dX5_when_17 : decode cX5_when 17 = .ok (.invokestatic 57, 3) := by decide +kernel
theorem dX5_when_20 : decode cX5_when 20 = .ok (.ifCond .ne 6, 3) := by decide +kernel
theorem dX5_when_23 : decode cX5_when 23 = .ok (.ldc 67, 2) := by decide +kernel
theorem dX5_when_25 : decode cX5_when 25 = .ok (.ireturn, 1) := by decide +kernel
theorem dX5_when_26 : decode cX5_when 26 = .ok (.aload_n 0, 1) := by decide +kernel
theorem dX5_when_27 : decode cX5_when 27 = .ok (.invokevirtual 209, 3) := by decide +kernel
theorem dX5_when_30 : decode cX5_when 30 = .ok (.iconst 0, 1) := by decide +kernel
theorem dX5_when_31 : decode cX5_when 31 = .ok (.istore_n 3, 1) := by decide +kernel
theorem dX5_when_32 : decode cX5_when 32 = .ok (.iload_n 3, 1) := by decide +kernel
theorem dX5_when_33 : decode cX5_when 33 = .ok (.bipush 60, 2) := by decide +kernel
theorem dX5_when_35 : decode cX5_when 35 = .ok (.if_icmp .gt 51, 3) := by decide +kernel
theorem dX5_when_38 : decode cX5_when 38 = .ok (.iload_n 2, 1) := by decide +kernel
theorem dX5_when_39 : decode cX5_when 39 = .ok (.ifCond .ne 18, 3) := by decide +kernel
theorem dX5_when_42 : decode cX5_when 42 = .ok (.aload_n 0, 1) := by decide +kernel
theorem dX5_when_43 : decode cX5_when 43 = .ok (.getfield 25, 3) := by decide +kernel
theorem dX5_when_46 : decode cX5_when 46 = .ok (.iload_n 1, 1) := by decide +kernel
theorem dX5_when_47 : decode cX5_when 47 = .ok (.iconst 1, 1) := by decide +kernel
theorem dX5_when_48 : decode cX5_when 48 = .ok (.invokestatic 152, 3) := by decide +kernel
theorem dX5_when_51 : decode cX5_when 51 = .ok (.ifCond .ne 22, 3) := by decide +kernel
theorem dX5_when_54 : decode cX5_when 54 = .ok (.goto 17, 3) := by decide +kernel
theorem dX5_when_57 : decode cX5_when 57 = .ok (.aload_n 0, 1) := by decide +kernel
theorem dX5_when_58 : decode cX5_when 58 = .ok (.getfield 25, 3) := by decide +kernel
theorem dX5_when_61 : decode cX5_when 61 = .ok (.invokestatic 186, 3) := by decide +kernel
theorem dX5_when_64 : decode cX5_when 64 = .ok (.iload_n 1, 1) := by decide +kernel
theorem dX5_when_65 : decode cX5_when 65 = .ok (.invokestatic 163, 3) := by decide +kernel
theorem dX5_when_68 : decode cX5_when 68 = .ok (.ifCond .eq 5, 3) := by decide +kernel
theorem dX5_when_71 : decode cX5_when 71 = .ok (.iload_n 3, 1) := by decide +kernel
theorem dX5_when_72 : decode cX5_when 72 = .ok (.ireturn, 1) := by decide +kernel
theorem dX5_when_73 : decode cX5_when 73 = .ok (.aload_n 0, 1) := by decide +kernel
theorem dX5_when_74 : decode cX5_when 74 = .ok (.getfield 25, 3) := by decide +kernel
theorem dX5_when_77 : decode cX5_when 77 = .ok (.invokestatic 173, 3) := by decide +kernel
theorem dX5_when_80 : decode cX5_when 80 = .ok (.iinc 3 1, 3) := by decide +kernel
theorem dX5_when_83 : decode cX5_when 83 = .ok (.goto (-51), 3) := by decide +kernel
theorem dX5_when_86 : decode cX5_when 86 = .ok (.ldc 90, 2) := by decide +kernel
theorem dX5_when_88 : decode cX5_when 88 = .ok (.ireturn, 1) := by decide +kernel
theorem dX5_quarrel_0 : decode cX5_quarrel 0 = .ok (.aload_n 0, 1) := by decide +kernel
theorem dX5_quarrel_1 : decode cX5_quarrel 1 = .ok (.iconst 0, 1) := by decide +kernel
theorem dX5_quarrel_2 : decode cX5_quarrel 2 = .ok (.putfield 47, 3) := by decide +kernel
theorem dX5_quarrel_5 : decode cX5_quarrel 5 = .ok (.aload_n 0, 1) := by decide +kernel
theorem dX5_quarrel_6 : decode cX5_quarrel 6 = .ok (.invokevirtual 177, 3) := by decide +kernel
theorem dX5_quarrel_9 : decode cX5_quarrel 9 = .ok (.ifCond .ne 6, 3) := by decide +kernel
theorem dX5_quarrel_12 : decode cX5_quarrel 12 = .ok (.ldc 180, 2) := by decide +kernel
theorem dX5_quarrel_14 : decode cX5_quarrel 14 = .ok (.ireturn, 1) := by decide +kernel
theorem dX5_quarrel_15 : decode cX5_quarrel 15 = .ok (.iload_n 1, 1) := by decide +kernel
theorem dX5_quarrel_16 : decode cX5_quarrel 16 = .ok (.i2l, 1) := by decide +kernel
theorem dX5_quarrel_17 : decode cX5_quarrel 17 = .ok (.lconst 0, 1) := by decide +kernel
theorem dX5_quarrel_18 : decode cX5_quarrel 18 = .ok (.lconst 1, 1) := by decide +kernel
theorem dX5_quarrel_19 : decode cX5_quarrel 19 = .ok (.invokestatic 57, 3) := by decide +kernel
theorem dX5_quarrel_22 : decode cX5_quarrel 22 = .ok (.ifCond .ne 6, 3) := by decide +kernel
theorem dX5_quarrel_25 : decode cX5_quarrel 25 = .ok (.ldc 67, 2) := by decide +kernel
theorem dX5_quarrel_27 : decode cX5_quarrel 27 = .ok (.ireturn, 1) := by decide +kernel
theorem dX5_quarrel_28 : decode cX5_quarrel 28 = .ok (.aload_n 0, 1) := by decide +kernel
theorem dX5_quarrel_29 : decode cX5_quarrel 29 = .ok (.invokevirtual 209, 3) := by decide +kernel
theorem dX5_quarrel_32 : decode cX5_quarrel 32 = .ok (.iconst 0, 1) := by decide +kernel
theorem dX5_quarrel_33 : decode cX5_quarrel 33 = .ok (.istore_n 2, 1) := by decide +kernel
theorem dX5_quarrel_34 : decode cX5_quarrel 34 = .ok (.iload_n 2, 1) := by decide +kernel
theorem dX5_quarrel_35 : decode cX5_quarrel 35 = .ok (.bipush 60, 2) := by decide +kernel
theorem dX5_quarrel_37 : decode cX5_quarrel 37 = .ok (.if_icmp .gt 57, 3) := by decide +kernel
theorem dX5_quarrel_40 : decode cX5_quarrel 40 = .ok (.aload_n 0, 1) := by decide +kernel
theorem dX5_quarrel_41 : decode cX5_quarrel 41 = .ok (.getfield 25, 3) := by decide +kernel
theorem dX5_quarrel_44 : decode cX5_quarrel 44 = .ok (.invokestatic 186, 3) := by decide +kernel
theorem dX5_quarrel_47 : decode cX5_quarrel 47 = .ok (.istore_n 3, 1) := by decide +kernel
theorem dX5_quarrel_48 : decode cX5_quarrel 48 = .ok (.iload_n 3, 1) := by decide +kernel
theorem dX5_quarrel_49 : decode cX5_quarrel 49 = .ok (.ifCond .eq 32, 3) := by decide +kernel
theorem dX5_quarrel_52 : decode cX5_quarrel 52 = .ok (.iconst 0, 1) := by decide +kernel
theorem dX5_quarrel_53 : decode cX5_quarrel 53 = .ok (.istore 4, 2) := by decide +kernel
theorem dX5_quarrel_55 : decode cX5_quarrel 55 = .ok (.iload_n 3, 1) := by decide +kernel
theorem dX5_quarrel_56 : decode cX5_quarrel 56 = .ok (.iload 4, 2) := by decide +kernel
theorem dX5_quarrel_58 : decode cX5_quarrel 58 = .ok (.invokestatic 163, 3) := by decide +kernel
theorem dX5_quarrel_61 : decode cX5_quarrel 61 = .ok (.ifCond .ne 9, 3) := by decide +kernel
theorem dX5_quarrel_64 : decode cX5_quarrel 64 = .ok (.iinc 4 1, 3) := by decide +kernel
theorem dX5_quarrel_67 : decode cX5_quarrel 67 = .ok (.goto (-12), 3) := by decide +kernel
theorem dX5_quarrel_70 : decode cX5_quarrel 70 = .ok (.iload_n 1, 1) := by decide +kernel
theorem dX5_quarrel_71 : decode cX5_quarrel 71 = .ok (.ifCond .ne 7, 3) := by decide +kernel
theorem dX5_quarrel_74 : decode cX5_quarrel 74 = .ok (.iload_n 2, 1) := by decide +kernel
theorem dX5_quarrel_75 : decode cX5_quarrel 75 = .ok (.goto 5, 3) := by decide +kernel
theorem dX5_quarrel_78 : decode cX5_quarrel 78 = .ok (.iload 4, 2) := by decide +kernel
theorem dX5_quarrel_80 : decode cX5_quarrel 80 = .ok (.ireturn, 1) := by decide +kernel
theorem dX5_quarrel_81 : decode cX5_quarrel 81 = .ok (.aload_n 0, 1) := by decide +kernel
theorem dX5_quarrel_82 : decode cX5_quarrel 82 = .ok (.getfield 25, 3) := by decide +kernel
theorem dX5_quarrel_85 : decode cX5_quarrel 85 = .ok (.invokestatic 173, 3) := by decide +kernel
theorem dX5_quarrel_88 : decode cX5_quarrel 88 = .ok (.iinc 2 1, 3) := by decide +kernel
theorem dX5_quarrel_91 : decode cX5_quarrel 91 = .ok (.goto (-57), 3) := by decide +kernel
theorem dX5_quarrel_94 : decode cX5_quarrel 94 = .ok (.ldc 90, 2) := by decide +kernel
theorem dX5_quarrel_96 : decode cX5_quarrel 96 = .ok (.ireturn, 1) := by decide +kernel
theorem dX5_pours_0 : decode cX5_pours 0 = .ok (.aload_n 0, 1) := by decide +kernel
theorem dX5_pours_1 : decode cX5_pours 1 = .ok (.iconst 0, 1) := by decide +kernel
theorem dX5_pours_2 : decode cX5_pours 2 = .ok (.putfield 47, 3) := by decide +kernel
theorem dX5_pours_5 : decode cX5_pours 5 = .ok (.aload_n 0, 1) := by decide +kernel
theorem dX5_pours_6 : decode cX5_pours 6 = .ok (.iload_n 1, 1) := by decide +kernel
theorem dX5_pours_7 : decode cX5_pours 7 = .ok (.invokevirtual 203, 3) := by decide +kernel
theorem dX5_pours_10 : decode cX5_pours 10 = .ok (.ifCond .eq 15, 3) := by decide +kernel
theorem dX5_pours_13 : decode cX5_pours 13 = .ok (.iload_n 2, 1) := by decide +kernel
theorem dX5_pours_14 : decode cX5_pours 14 = .ok (.i2l, 1) := by decide +kernel
theorem dX5_pours_15 : decode cX5_pours 15 = .ok (.lconst 0, 1) := by decide +kernel
theorem dX5_pours_16 : decode cX5_pours 16 = .ok (.ldc2_w 217, 3) := by decide +kernel
theorem dX5_pours_19 : decode cX5_pours 19 = .ok (.invokestatic 57, 3) := by decide +kernel
theorem dX5_pours_22 : decode cX5_pours 22 = .ok (.ifCond .ne 6, 3) := by decide +kernel
theorem dX5_pours_25 : decode cX5_pours 25 = .ok (.ldc 67, 2) := by decide +kernel
theorem dX5_pours_27 : decode cX5_pours 27 = .ok (.ireturn, 1) := by decide +kernel
theorem dX5_pours_28 : decode cX5_pours 28 = .ok (.iconst 0, 1) := by decide +kernel
theorem dX5_pours_29 : decode cX5_pours 29 = .ok (.istore_n 3, 1) := by decide +kernel
theorem dX5_pours_30 : decode cX5_pours 30 = .ok (.iload_n 3, 1) := by decide +kernel
theorem dX5_pours_31 : decode cX5_pours 31 = .ok (.bipush 60, 2) := by decide +kernel
theorem dX5_pours_33 : decode cX5_pours 33 = .ok (.if_icmp .gt 46, 3) := by decide +kernel
theorem dX5_pours_36 : decode cX5_pours 36 = .ok (.aload_n 0, 1) := by decide +kernel
theorem dX5_pours_37 : decode cX5_pours 37 = .ok (.invokevirtual 209, 3) := by decide +kernel
theorem dX5_pours_40 : decode cX5_pours 40 = .ok (.aload_n 0, 1) := by decide +kernel
theorem dX5_pours_41 : decode cX5_pours 41 = .ok (.getfield 25, 3) := by decide +kernel
theorem dX5_pours_44 : decode cX5_pours 44 = .ok (.iload_n 3, 1) := by decide +kernel
theorem dX5_pours_45 : decode cX5_pours 45 = .ok (.invokestatic 192, 3) := by decide +kernel
theorem dX5_pours_48 : decode cX5_pours 48 = .ok (.aload_n 0, 1) := by decide +kernel
theorem dX5_pours_49 : decode cX5_pours 49 = .ok (.getfield 25, 3) := by decide +kernel
theorem dX5_pours_52 : decode cX5_pours 52 = .ok (.iload_n 2, 1) := by decide +kernel
theorem dX5_pours_53 : decode cX5_pours 53 = .ok (.invokestatic 212, 3) := by decide +kernel
theorem dX5_pours_56 : decode cX5_pours 56 = .ok (.aload_n 0, 1) := by decide +kernel
theorem dX5_pours_57 : decode cX5_pours 57 = .ok (.getfield 25, 3) := by decide +kernel
theorem dX5_pours_60 : decode cX5_pours 60 = .ok (.iconst 1, 1) := by decide +kernel
theorem dX5_pours_61 : decode cX5_pours 61 = .ok (.invokestatic 167, 3) := by decide +kernel
theorem dX5_pours_64 : decode cX5_pours 64 = .ok (.iload_n 1, 1) := by decide +kernel
theorem dX5_pours_65 : decode cX5_pours 65 = .ok (.invokestatic 163, 3) := by decide +kernel
theorem dX5_pours_68 : decode cX5_pours 68 = .ok (.ifCond .eq 5, 3) := by decide +kernel
theorem dX5_pours_71 : decode cX5_pours 71 = .ok (.iload_n 3, 1) := by decide +kernel
theorem dX5_pours_72 : decode cX5_pours 72 = .ok (.ireturn, 1) := by decide +kernel
theorem dX5_pours_73 : decode cX5_pours 73 = .ok (.iinc 3 1, 3) := by decide +kernel
theorem dX5_pours_76 : decode cX5_pours 76 = .ok (.goto (-46), 3) := by decide +kernel
theorem dX5_pours_79 : decode cX5_pours 79 = .ok (.ldc 90, 2) := by decide +kernel
theorem dX5_pours_81 : decode cX5_pours 81 = .ok (.ireturn, 1) := by decide +kernel
theorem dX5_lift_0 : decode cX5_lift 0 = .ok (.aload_n 0, 1) := by decide +kernel
theorem dX5_lift_1 : decode cX5_lift 1 = .ok (.iconst 0, 1) := by decide +kernel
theorem dX5_lift_2 : decode cX5_lift 2 = .ok (.putfield 47, 3) := by decide +kernel
theorem dX5_lift_5 : decode cX5_lift 5 = .ok (.aload_n 0, 1) := by decide +kernel
theorem dX5_lift_6 : decode cX5_lift 6 = .ok (.invokevirtual 177, 3) := by decide +kernel
theorem dX5_lift_9 : decode cX5_lift 9 = .ok (.ifCond .ne 6, 3) := by decide +kernel
theorem dX5_lift_12 : decode cX5_lift 12 = .ok (.ldc 180, 2) := by decide +kernel
theorem dX5_lift_14 : decode cX5_lift 14 = .ok (.ireturn, 1) := by decide +kernel
theorem dX5_lift_15 : decode cX5_lift 15 = .ok (.iload_n 1, 1) := by decide +kernel
theorem dX5_lift_16 : decode cX5_lift 16 = .ok (.i2l, 1) := by decide +kernel
theorem dX5_lift_17 : decode cX5_lift 17 = .ok (.lconst 1, 1) := by decide +kernel
theorem dX5_lift_18 : decode cX5_lift 18 = .ok (.ldc2_w 217, 3) := by decide +kernel
theorem dX5_lift_21 : decode cX5_lift 21 = .ok (.invokestatic 57, 3) := by decide +kernel
theorem dX5_lift_24 : decode cX5_lift 24 = .ok (.ifCond .eq 13, 3) := by decide +kernel
theorem dX5_lift_27 : decode cX5_lift 27 = .ok (.iload_n 2, 1) := by decide +kernel
theorem dX5_lift_28 : decode cX5_lift 28 = .ok (.i2l, 1) := by decide +kernel
theorem dX5_lift_29 : decode cX5_lift 29 = .ok (.lconst 0, 1) := by decide +kernel
theorem dX5_lift_30 : decode cX5_lift 30 = .ok (.lconst 1, 1) := by decide +kernel
theorem dX5_lift_31 : decode cX5_lift 31 = .ok (.invokestatic 57, 3) := by decide +kernel
theorem dX5_lift_34 : decode cX5_lift 34 = .ok (.ifCond .ne 6, 3) := by decide +kernel
theorem dX5_lift_37 : decode cX5_lift 37 = .ok (.ldc 67, 2) := by decide +kernel
theorem dX5_lift_39 : decode cX5_lift 39 = .ok (.ireturn, 1) := by decide +kernel
theorem dX5_lift_40 : decode cX5_lift 40 = .ok (.ldc 90, 2) := by decide +kernel
theorem dX5_lift_42 : decode cX5_lift 42 = .ok (.istore_n 3, 1) := by decide +kernel
theorem dX5_lift_43 : decode cX5_lift 43 = .ok (.ldc 90, 2) := by decide +kernel
theorem dX5_lift_45 : decode cX5_lift 45 = .ok (.istore 4, 2) := by decide +kernel
theorem dX5_lift_47 : decode cX5_lift 47 = .ok (.iconst 0, 1) := by decide +kernel
theorem dX5_lift_48 : decode cX5_lift 48 = .ok (.istore 5, 2) := by decide +kernel
theorem dX5_lift_50 : decode cX5_lift 50 = .ok (.iload 5, 2) := by decide +kernel
theorem dX5_lift_52 : decode cX5_lift 52 = .ok (.aload_n 0, 1) := by decide +kernel
theorem dX5_lift_53 : decode cX5_lift 53 = .ok (.getfield 19, 3) := by decide +kernel
theorem dX5_lift_56 : decode cX5_lift 56 = .ok (.iconst 1, 1) := by decide +kernel
theorem dX5_lift_57 : decode cX5_lift 57 = .ok (.iaload, 1) := by decide +kernel
theorem dX5_lift_58 : decode cX5_lift 58 = .ok (.if_icmp .ge 84, 3) := by decide +kernel
theorem dX5_lift_61 : decode cX5_lift 61 = .ok (.aload_n 0, 1) := by decide +kernel
theorem dX5_lift_62 : decode cX5_lift 62 = .ok (.invokevirtual 209, 3) := by decide +kernel
theorem dX5_lift_65 : decode cX5_lift 65 = .ok (.aload_n 0, 1) := by decide +kernel
theorem dX5_lift_66 : decode cX5_lift 66 = .ok (.getfield 25, 3) := by decide +kernel
theorem dX5_lift_69 : decode cX5_lift 69 = .ok (.bipush 6, 2) := by decide +kernel
theorem dX5_lift_71 : decode cX5_lift 71 = .ok (.iload 5, 2) := by decide +kernel
theorem dX5_lift_73 : decode cX5_lift 73 = .ok (.iadd, 1) := by decide +kernel
theorem dX5_lift_74 : decode cX5_lift 74 = .ok (.iconst 0, 1) := by decide +kernel
theorem dX5_lift_75 : decode cX5_lift 75 = .ok (.iastore, 1) := by decide +kernel
theorem dX5_lift_76 : decode cX5_lift 76 = .ok (.iconst 0, 1) := by decide +kernel
theorem dX5_lift_77 : decode cX5_lift 77 = .ok (.istore 6, 2) := by decide +kernel
theorem dX5_lift_79 : decode cX5_lift 79 = .ok (.iconst 0, 1) := by decide +kernel
theorem dX5_lift_80 : decode cX5_lift 80 = .ok (.istore 7, 2) := by decide +kernel
theorem dX5_lift_82 : decode cX5_lift 82 = .ok (.iload 7, 2) := by decide +kernel
theorem dX5_lift_84 : decode cX5_lift 84 = .ok (.iload_n 1, 1) := by decide +kernel
theorem dX5_lift_85 : decode cX5_lift 85 = .ok (.if_icmp .ge 31, 3) := by decide +kernel
theorem dX5_lift_88 : decode cX5_lift 88 = .ok (.aload_n 0, 1) := by decide +kernel
theorem dX5_lift_89 : decode cX5_lift 89 = .ok (.getfield 25, 3) := by decide +kernel
theorem dX5_lift_92 : decode cX5_lift 92 = .ok (.invokestatic 173, 3) := by decide +kernel
theorem dX5_lift_95 : decode cX5_lift 95 = .ok (.iload 6, 2) := by decide +kernel
theorem dX5_lift_97 : decode cX5_lift 97 = .ok (.aload_n 0, 1) := by decide +kernel
theorem dX5_lift_98 : decode cX5_lift 98 = .ok (.getfield 25, 3) := by decide +kernel
theorem dX5_lift_101 : decode cX5_lift 101 = .ok (.invokestatic 186, 3) := by decide +kernel
theorem dX5_lift_104 : decode cX5_lift 104 = .ok (.invokestatic 219, 3) := by decide +kernel
theorem dX5_lift_107 : decode cX5_lift 107 = .ok (.iadd, 1) := by decide +kernel
theorem dX5_lift_108 : decode cX5_lift 108 = .ok (.istore 6, 2) := by decide +kernel
theorem dX5_lift_110 : decode cX5_lift 110 = .ok (.iinc 7 1, 3) := by decide +kernel
theorem dX5_lift_113 : decode cX5_lift 113 = .ok (.goto (-31), 3) := by decide +kernel
theorem dX5_lift_116 : decode cX5_lift 116 = .ok (.iload_n 3, 1) := by decide +kernel
theorem dX5_lift_117 : decode cX5_lift 117 = .ok (.ldc 90, 2) := by decide +kernel
theorem dX5_lift_119 : decode cX5_lift 119 = .ok (.if_icmp .eq 10, 3) := by decide +kernel
theorem dX5_lift_122 : decode cX5_lift 122 = .ok (.iload 6, 2) := by decide +kernel
theorem dX5_lift_124 : decode cX5_lift 124 = .ok (.iload 4, 2) := by decide +kernel
theorem dX5_lift_126 : decode cX5_lift 126 = .ok (.if_icmp .ge 10, 3) := by decide +kernel
theorem dX5_lift_129 : decode cX5_lift 129 = .ok (.iload 5, 2) := by decide +kernel
theorem dX5_lift_131 : decode cX5_lift 131 = .ok (.istore_n 3, 1) := by decide +kernel
theorem dX5_lift_132 : decode cX5_lift 132 = .ok (.iload 6, 2) := by decide +kernel
theorem dX5_lift_134 : decode cX5_lift 134 = .ok (.istore 4, 2) := by decide +kernel
theorem dX5_lift_136 : decode cX5_lift 136 = .ok (.iinc 5 1, 3) := by decide +kernel
theorem dX5_lift_139 : decode cX5_lift 139 = .ok (.goto (-89), 3) := by decide +kernel
theorem dX5_lift_142 : decode cX5_lift 142 = .ok (.iload_n 2, 1) := by decide +kernel
theorem dX5_lift_143 : decode cX5_lift 143 = .ok (.ifCond .ne 7, 3) := by decide +kernel
theorem dX5_lift_146 : decode cX5_lift 146 = .ok (.iload_n 3, 1) := by decide +kernel
theorem dX5_lift_147 : decode cX5_lift 147 = .ok (.goto 5, 3) := by decide +kernel
theorem dX5_lift_150 : decode cX5_lift 150 = .ok (.iload 4, 2) := by decide +kernel
theorem dX5_lift_152 : decode cX5_lift 152 = .ok (.ireturn, 1) := by decide +kernel
theorem dX5_sent_0 : decode cX5_sent 0 = .ok (.aload_n 0, 1) := by decide +kernel
theorem dX5_sent_1 : decode cX5_sent 1 = .ok (.iconst 0, 1) := by decide +kernel
theorem dX5_sent_2 : decode cX5_sent 2 = .ok (.putfield 47, 3) := by decide +kernel
theorem dX5_sent_5 : decode cX5_sent 5 = .ok (.aload_n 0, 1) := by decide +kernel
theorem dX5_sent_6 : decode cX5_sent 6 = .ok (.invokevirtual 177, 3) := by decide +kernel
theorem dX5_sent_9 : decode cX5_sent 9 = .ok (.ifCond .ne 6, 3) := by decide +kernel
theorem dX5_sent_12 : decode cX5_sent 12 = .ok (.ldc 180, 2) := by decide +kernel
theorem dX5_sent_14 : decode cX5_sent 14 = .ok (.ireturn, 1) := by decide +kernel
theorem dX5_sent_15 : decode cX5_sent 15 = .ok (.iload_n 1, 1) := by decide +kernel
theorem dX5_sent_16 : decode cX5_sent 16 = .ok (.i2l, 1) := by decide +kernel
theorem dX5_sent_17 : decode cX5_sent 17 = .ok (.lconst 1, 1) := by decide +kernel
theorem dX5_sent_18 : decode cX5_sent 18 = .ok (.ldc2_w 217, 3) := by decide +kernel
theorem dX5_sent_21 : decode cX5_sent 21 = .ok (.invokestatic 57, 3) := by decide +kernel
theorem dX5_sent_24 : decode cX5_sent 24 = .ok (.ifCond .eq 13, 3) := by decide +kernel
theorem dX5_sent_27 : decode cX5_sent 27 = .ok (.iload_n 2, 1) := by decide +kernel
theorem dX5_sent_28 : decode cX5_sent 28 = .ok (.i2l, 1) := by decide +kernel
theorem dX5_sent_29 : decode cX5_sent 29 = .ok (.lconst 0, 1) := by decide +kernel
theorem dX5_sent_30 : decode cX5_sent 30 = .ok (.lconst 1, 1) := by decide +kernel
theorem dX5_sent_31 : decode cX5_sent 31 = .ok (.invokestatic 57, 3) := by decide +kernel
theorem dX5_sent_34 : decode cX5_sent 34 = .ok (.ifCond .ne 6, 3) := by decide +kernel
theorem dX5_sent_37 : decode cX5_sent 37 = .ok (.ldc 67, 2) := by decide +kernel
theorem dX5_sent_39 : decode cX5_sent 39 = .ok (.ireturn, 1) := by decide +kernel
theorem dX5_sent_40 : decode cX5_sent 40 = .ok (.iconst 0, 1) := by decide +kernel
theorem dX5_sent_41 : decode cX5_sent 41 = .ok (.istore_n 3, 1) := by decide +kernel
theorem dX5_sent_42 : decode cX5_sent 42 = .ok (.aload_n 0, 1) := by decide +kernel
theorem dX5_sent_43 : decode cX5_sent 43 = .ok (.invokevirtual 209, 3) := by decide +kernel
theorem dX5_sent_46 : decode cX5_sent 46 = .ok (.iconst 0, 1) := by decide +kernel
theorem dX5_sent_47 : decode cX5_sent 47 = .ok (.istore 4, 2) := by decide +kernel
theorem dX5_sent_49 : decode cX5_sent 49 = .ok (.iload 4, 2) := by decide +kernel
theorem dX5_sent_51 : decode cX5_sent 51 = .ok (.iload_n 1, 1) := by decide +kernel
theorem dX5_sent_52 : decode cX5_sent 52 = .ok (.if_icmp .ge 26, 3) := by decide +kernel
theorem dX5_sent_55 : decode cX5_sent 55 = .ok (.aload_n 0, 1) := by decide +kernel
theorem dX5_sent_56 : decode cX5_sent 56 = .ok (.getfield 25, 3) := by decide +kernel
theorem dX5_sent_59 : decode cX5_sent 59 = .ok (.invokestatic 173, 3) := by decide +kernel
theorem dX5_sent_62 : decode cX5_sent 62 = .ok (.iload_n 3, 1) := by decide +kernel
theorem dX5_sent_63 : decode cX5_sent 63 = .ok (.aload_n 0, 1) := by decide +kernel
theorem dX5_sent_64 : decode cX5_sent 64 = .ok (.getfield 25, 3) := by decide +kernel
theorem dX5_sent_67 : decode cX5_sent 67 = .ok (.invokestatic 186, 3) := by decide +kernel
theorem dX5_sent_70 : decode cX5_sent 70 = .ok (.ior, 1) := by decide +kernel
theorem dX5_sent_71 : decode cX5_sent 71 = .ok (.istore_n 3, 1) := by decide +kernel
theorem dX5_sent_72 : decode cX5_sent 72 = .ok (.iinc 4 1, 3) := by decide +kernel
theorem dX5_sent_75 : decode cX5_sent 75 = .ok (.goto (-26), 3) := by decide +kernel
theorem dX5_sent_78 : decode cX5_sent 78 = .ok (.iload_n 2, 1) := by decide +kernel
theorem dX5_sent_79 : decode cX5_sent 79 = .ok (.ifCond .ne 10, 3) := by decide +kernel
theorem dX5_sent_82 : decode cX5_sent 82 = .ok (.iload_n 3, 1) := by decide +kernel
theorem dX5_sent_83 : decode cX5_sent 83 = .ok (.invokestatic 219, 3) := by decide +kernel
theorem dX5_sent_86 : decode cX5_sent 86 = .ok (.goto 4, 3) := by decide +kernel
theorem dX5_sent_89 : decode cX5_sent 89 = .ok (.iload_n 3, 1) := by decide +kernel
theorem dX5_sent_90 : decode cX5_sent 90 = .ok (.ireturn, 1) := by decide +kernel
theorem dX5_share_0 : decode cX5_share 0 = .ok (.aload_n 0, 1) := by decide +kernel
theorem dX5_share_1 : decode cX5_share 1 = .ok (.iconst 0, 1) := by decide +kernel
theorem dX5_share_2 : decode cX5_share 2 = .ok (.putfield 47, 3) := by decide +kernel
theorem dX5_share_5 : decode cX5_share 5 = .ok (.aload_n 0, 1) := by decide +kernel
theorem dX5_share_6 : decode cX5_share 6 = .ok (.iload_n 1, 1) := by decide +kernel
theorem dX5_share_7 : decode cX5_share 7 = .ok (.invokevirtual 196, 3) := by decide +kernel
theorem dX5_share_10 : decode cX5_share 10 = .ok (.ifCond .eq 15, 3) := by decide +kernel
theorem dX5_share_13 : decode cX5_share 13 = .ok (.iload_n 2, 1) := by decide +kernel
theorem dX5_share_14 : decode cX5_share 14 = .ok (.i2l, 1) := by decide +kernel
theorem dX5_share_15 : decode cX5_share 15 = .ok (.lconst 0, 1) := by decide +kernel
theorem dX5_share_16 : decode cX5_share 16 = .ok (.ldc2_w 222, 3) := by decide +kernel
theorem dX5_share_19 : decode cX5_share 19 = .ok (.invokestatic 57, 3) := by decide +kernel
theorem dX5_share_22 : decode cX5_share 22 = .ok (.ifCond .ne 6, 3) := by decide +kernel
theorem dX5_share_25 : decode cX5_share 25 = .ok (.ldc 67, 2) := by decide +kernel
theorem dX5_share_27 : decode cX5_share 27 = .ok (.ireturn, 1) := by decide +kernel
theorem dX5_share_28 : decode cX5_share 28 = .ok (.iconst 0, 1) := by decide +kernel
theorem dX5_share_29 : decode cX5_share 29 = .ok (.istore_n 3, 1) := by decide +kernel
theorem dX5_share_30 : decode cX5_share 30 = .ok (.iconst 0, 1) := by decide +kernel
theorem dX5_share_31 : decode cX5_share 31 = .ok (.istore 4, 2) := by decide +kernel
theorem dX5_share_33 : decode cX5_share 33 = .ok (.iload 4, 2) := by decide +kernel
theorem dX5_share_35 : decode cX5_share 35 = .ok (.aload_n 0, 1) := by decide +kernel
theorem dX5_share_36 : decode cX5_share 36 = .ok (.getfield 19, 3) := by decide +kernel
theorem dX5_share_39 : decode cX5_share 39 = .ok (.iconst 1, 1) := by decide +kernel
theorem dX5_share_40 : decode cX5_share 40 = .ok (.iaload, 1) := by decide +kernel
theorem dX5_share_41 : decode cX5_share 41 = .ok (.if_icmp .ge 22, 3) := by decide +kernel
theorem dX5_share_44 : decode cX5_share 44 = .ok (.iload_n 3, 1) := by decide +kernel
theorem dX5_share_45 : decode cX5_share 45 = .ok (.aload_n 0, 1) := by decide +kernel
theorem dX5_share_46 : decode cX5_share 46 = .ok (.getfield 19, 3) := by decide +kernel
theorem dX5_share_49 : decode cX5_share 49 = .ok (.bipush 6, 2) := by decide +kernel
theorem dX5_share_51 : decode cX5_share 51 = .ok (.iload 4, 2) := by decide +kernel
theorem dX5_share_53 : decode cX5_share 53 = .ok (.iadd, 1) := by decide +kernel
theorem dX5_share_54 : decode cX5_share 54 = .ok (.iaload, 1) := by decide +kernel
theorem dX5_share_55 : decode cX5_share 55 = .ok (.iadd, 1) := by decide +kernel
theorem dX5_share_56 : decode cX5_share 56 = .ok (.istore_n 3, 1) := by decide +kernel
theorem dX5_share_57 : decode cX5_share 57 = .ok (.iinc 4 1, 3) := by decide +kernel
theorem dX5_share_60 : decode cX5_share 60 = .ok (.goto (-27), 3) := by decide +kernel
theorem dX5_share_63 : decode cX5_share 63 = .ok (.iload_n 3, 1) := by decide +kernel
theorem dX5_share_64 : decode cX5_share 64 = .ok (.ifCond .ne 5, 3) := by decide +kernel
theorem dX5_share_67 : decode cX5_share 67 = .ok (.iconst 0, 1) := by decide +kernel
theorem dX5_share_68 : decode cX5_share 68 = .ok (.ireturn, 1) := by decide +kernel
theorem dX5_share_69 : decode cX5_share 69 = .ok (.iload_n 2, 1) := by decide +kernel
theorem dX5_share_70 : decode cX5_share 70 = .ok (.istore 4, 2) := by decide +kernel
theorem dX5_share_72 : decode cX5_share 72 = .ok (.iconst 0, 1) := by decide +kernel
theorem dX5_share_73 : decode cX5_share 73 = .ok (.istore 5, 2) := by decide +kernel
theorem dX5_share_75 : decode cX5_share 75 = .ok (.iconst 0, 1) := by decide +kernel
theorem dX5_share_76 : decode cX5_share 76 = .ok (.istore 6, 2) := by decide +kernel
theorem dX5_share_78 : decode cX5_share 78 = .ok (.iload 6, 2) := by decide +kernel
theorem dX5_share_80 : decode cX5_share 80 = .ok (.aload_n 0, 1) := by decide +kernel
theorem dX5_share_81 : decode cX5_share 81 = .ok (.getfield 19, 3) := by decide +kernel
theorem dX5_share_84 : decode cX5_share 84 = .ok (.iconst 1, 1) := by decide +kernel
theorem dX5_share_85 : decode cX5_share 85 = .ok (.iaload, 1) := by decide +kernel
theorem dX5_share_86 : decode cX5_share 86 = .ok (.if_icmp .ge 57, 3) := by decide +kernel
theorem dX5_share_89 : decode cX5_share 89 = .ok (.iload 4, 2) := by decide +kernel
theorem dX5_share_91 : decode cX5_share 91 = .ok (.iload_n 2, 1) := by decide +kernel
theorem dX5_share_92 : decode cX5_share 92 = .ok (.aload_n 0, 1) := by decide +kernel
theorem dX5_share_93 : decode cX5_share 93 = .ok (.getfield 19, 3) := by decide +kernel
theorem dX5_share_96 : decode cX5_share 96 = .ok (.bipush 6, 2) := by decide +kernel
theorem dX5_share_98 : decode cX5_share 98 = .ok (.iload 6, 2) := by decide +kernel
theorem dX5_share_100 : decode cX5_share 100 = .ok (.iadd, 1) := by decide +kernel
theorem dX5_share_101 : decode cX5_share 101 = .ok (.iaload, 1) := by decide +kernel
theorem dX5_share_102 : decode cX5_share 102 = .ok (.imul, 1) := by decide +kernel
theorem dX5_share_103 : decode cX5_share 103 = .ok (.iload_n 3, 1) := by decide +kernel
theorem dX5_share_104 : decode cX5_share 104 = .ok (.idiv, 1) := by decide +kernel
theorem dX5_share_105 : decode cX5_share 105 = .ok (.isub, 1) := by decide +kernel
theorem dX5_share_106 : decode cX5_share 106 = .ok (.istore 4, 2) := by decide +kernel
theorem dX5_share_108 : decode cX5_share 108 = .ok (.iload 5, 2) := by decide +kernel
theorem dX5_share_110 : decode cX5_share 110 = .ok (.iload 6, 2) := by decide +kernel
theorem dX5_share_112 : decode cX5_share 112 = .ok (.iload_n 1, 1) := by decide +kernel
theorem dX5_share_113 : decode cX5_share 113 = .ok (.if_icmp .ge 20, 3) := by decide +kernel
theorem dX5_share_116 : decode cX5_share 116 = .ok (.aload_n 0, 1) := by decide +kernel
theorem dX5_share_117 : decode cX5_share 117 = .ok (.getfield 19, 3) := by decide +kernel
theorem dX5_share_120 : decode cX5_share 120 = .ok (.bipush 6, 2) := by decide +kernel
theorem dX5_share_122 : decode cX5_share 122 = .ok (.iload 6, 2) := by decide +kernel
theorem dX5_share_124 : decode cX5_share 124 = .ok (.iadd, 1) := by decide +kernel
theorem dX5_share_125 : decode cX5_share 125 = .ok (.iaload, 1) := by decide +kernel
theorem dX5_share_126 : decode cX5_share 126 = .ok (.ifCond .le 7, 3) := by decide +kernel
theorem dX5_share_129 : decode cX5_share 129 = .ok (.iconst 1, 1) := by decide +kernel
theorem dX5_share_130 : decode cX5_share 130 = .ok (.goto 4, 3) := by decide +kernel
theorem dX5_share_133 : decode cX5_share 133 = .ok (.iconst 0, 1) := by decide +kernel
theorem dX5_share_134 : decode cX5_share 134 = .ok (.iadd, 1) := by decide +kernel
theorem dX5_share_135 : decode cX5_share 135 = .ok (.istore 5, 2) := by decide +kernel
theorem dX5_share_137 : decode cX5_share 137 = .ok (.iinc 6 1, 3) := by decide +kernel
theorem dX5_share_140 : decode cX5_share 140 = .ok (.goto (-62), 3) := by decide +kernel
theorem dX5_share_143 : decode cX5_share 143 = .ok (.iload_n 2, 1) := by decide +kernel
theorem dX5_share_144 : decode cX5_share 144 = .ok (.aload_n 0, 1) := by decide +kernel
theorem dX5_share_145 : decode cX5_share 145 = .ok (.getfield 19, 3) := by decide +kernel
theorem dX5_share_148 : decode cX5_share 148 = .ok (.bipush 6, 2) := by decide +kernel
theorem dX5_share_150 : decode cX5_share 150 = .ok (.iload_n 1, 1) := by decide +kernel
theorem dX5_share_151 : decode cX5_share 151 = .ok (.iadd, 1) := by decide +kernel
theorem dX5_share_152 : decode cX5_share 152 = .ok (.iaload, 1) := by decide +kernel
theorem dX5_share_153 : decode cX5_share 153 = .ok (.imul, 1) := by decide +kernel
theorem dX5_share_154 : decode cX5_share 154 = .ok (.iload_n 3, 1) := by decide +kernel
theorem dX5_share_155 : decode cX5_share 155 = .ok (.idiv, 1) := by decide +kernel
theorem dX5_share_156 : decode cX5_share 156 = .ok (.aload_n 0, 1) := by decide +kernel
theorem dX5_share_157 : decode cX5_share 157 = .ok (.getfield 19, 3) := by decide +kernel
theorem dX5_share_160 : decode cX5_share 160 = .ok (.bipush 6, 2) := by decide +kernel
theorem dX5_share_162 : decode cX5_share 162 = .ok (.iload_n 1, 1) := by decide +kernel
theorem dX5_share_163 : decode cX5_share 163 = .ok (.iadd, 1) := by decide +kernel
theorem dX5_share_164 : decode cX5_share 164 = .ok (.iaload, 1) := by decide +kernel
theorem dX5_share_165 : decode cX5_share 165 = .ok (.ifCond .le 14, 3) := by decide +kernel
theorem dX5_share_168 : decode cX5_share 168 = .ok (.iload 5, 2) := by decide +kernel
theorem dX5_share_170 : decode cX5_share 170 = .ok (.iload 4, 2) := by decide +kernel
theorem dX5_share_172 : decode cX5_share 172 = .ok (.if_icmp .ge 7, 3) := by decide +kernel
theorem dX5_share_175 : decode cX5_share 175 = .ok (.iconst 1, 1) := by decide +kernel
theorem dX5_share_176 : decode cX5_share 176 = .ok (.goto 4, 3) := by decide +kernel
theorem dX5_share_179 : decode cX5_share 179 = .ok (.iconst 0, 1) := by decide +kernel
theorem dX5_share_180 : decode cX5_share 180 = .ok (.iadd, 1) := by decide +kernel
theorem dX5_share_181 : decode cX5_share 181 = .ok (.ireturn, 1) := by decide +kernel
theorem dX5_afterTurns_0 : decode cX5_afterTurns 0 = .ok (.aload_n 0, 1) := by decide +kernel
theorem dX5_afterTurns_1 : decode cX5_afterTurns 1 = .ok (.invokevirtual 209, 3) := by decide +kernel
theorem dX5_afterTurns_4 : decode cX5_afterTurns 4 = .ok (.iconst 0, 1) := by decide +kernel
theorem dX5_afterTurns_5 : decode cX5_afterTurns 5 = .ok (.istore 4, 2) := by decide +kernel
theorem dX5_afterTurns_7 : decode cX5_afterTurns 7 = .ok (.iload 4, 2) := by decide +kernel
theorem dX5_afterTurns_9 : decode cX5_afterTurns 9 = .ok (.iload_n 2, 1) := by decide +kernel
theorem dX5_afterTurns_10 : decode cX5_afterTurns 10 = .ok (.if_icmp .ge 69, 3) := by decide +kernel
theorem dX5_afterTurns_13 : decode cX5_afterTurns 13 = .ok (.iload_n 1, 1) := by decide +kernel
theorem dX5_afterTurns_14 : decode cX5_afterTurns 14 = .ok (.iload 4, 2) := by decide +kernel
theorem dX5_afterTurns_16 : decode cX5_afterTurns 16 = .ok (.invokestatic 163, 3) := by decide +kernel
theorem dX5_afterTurns_19 : decode cX5_afterTurns 19 = .ok (.ifCond .eq 18, 3) := by decide +kernel
theorem dX5_afterTurns_22 : decode cX5_afterTurns 22 = .ok (.iload 4, 2) := by decide +kernel
theorem dX5_afterTurns_24 : decode cX5_afterTurns 24 = .ok (.iconst 2, 1) := by decide +kernel
theorem dX5_afterTurns_25 : decode cX5_afterTurns 25 = .ok (.irem, 1) := by decide +kernel
theorem dX5_afterTurns_26 : decode cX5_afterTurns 26 = .ok (.ifCond .ne 11, 3) := by decide +kernel
theorem dX5_afterTurns_29 : decode cX5_afterTurns 29 = .ok (.aload_n 0, 1) := by decide +kernel
theorem dX5_afterTurns_30 : decode cX5_afterTurns 30 = .ok (.getfield 25, 3) := by decide +kernel
theorem dX5_afterTurns_33 : decode cX5_afterTurns 33 = .ok (.iconst 5, 1) := by decide +kernel
theorem dX5_afterTurns_34 : decode cX5_afterTurns 34 = .ok (.invokestatic 192, 3) := by decide +kernel
theorem dX5_afterTurns_37 : decode cX5_afterTurns 37 = .ok (.iload_n 1, 1) := by decide +kernel
theorem dX5_afterTurns_38 : decode cX5_afterTurns 38 = .ok (.iload 4, 2) := by decide +kernel
theorem dX5_afterTurns_40 : decode cX5_afterTurns 40 = .ok (.invokestatic 163, 3) := by decide +kernel
theorem dX5_afterTurns_43 : decode cX5_afterTurns 43 = .ok (.ifCond .eq 30, 3) := by decide +kernel
theorem dX5_afterTurns_46 : decode cX5_afterTurns 46 = .ok (.iload 4, 2) := by decide +kernel
theorem dX5_afterTurns_48 : decode cX5_afterTurns 48 = .ok (.iconst 2, 1) := by decide +kernel
theorem dX5_afterTurns_49 : decode cX5_afterTurns 49 = .ok (.irem, 1) := by decide +kernel
theorem dX5_afterTurns_50 : decode cX5_afterTurns 50 = .ok (.iconst 1, 1) := by decide +kernel
theorem dX5_afterTurns_51 : decode cX5_afterTurns 51 = .ok (.if_icmp .ne 22, 3) := by decide +kernel
theorem dX5_afterTurns_54 : decode cX5_afterTurns 54 = .ok (.aload_n 0, 1) := by decide +kernel
theorem dX5_afterTurns_55 : decode cX5_afterTurns 55 = .ok (.getfield 25, 3) := by decide +kernel
theorem dX5_afterTurns_58 : decode cX5_afterTurns 58 = .ok (.iconst 3, 1) := by decide +kernel
theorem dX5_afterTurns_59 : decode cX5_afterTurns 59 = .ok (.iaload, 1) := by decide +kernel
theorem dX5_afterTurns_60 : decode cX5_afterTurns 60 = .ok (.ifCond .le 13, 3) := by decide +kernel
theorem dX5_afterTurns_63 : decode cX5_afterTurns 63 = .ok (.aload_n 0, 1) := by decide +kernel
theorem dX5_afterTurns_64 : decode cX5_afterTurns 64 = .ok (.getfield 25, 3) := by decide +kernel
theorem dX5_afterTurns_67 : decode cX5_afterTurns 67 = .ok (.iconst 3, 1) := by decide +kernel
theorem dX5_afterTurns_68 : decode cX5_afterTurns 68 = .ok (.dup2, 1) := by decide +kernel
theorem dX5_afterTurns_69 : decode cX5_afterTurns 69 = .ok (.iaload, 1) := by decide +kernel
theorem dX5_afterTurns_70 : decode cX5_afterTurns 70 = .ok (.iconst 1, 1) := by decide +kernel
theorem dX5_afterTurns_71 : decode cX5_afterTurns 71 = .ok (.isub, 1) := by decide +kernel
theorem dX5_afterTurns_72 : decode cX5_afterTurns 72 = .ok (.iastore, 1) := by decide +kernel
theorem dX5_afterTurns_73 : decode cX5_afterTurns 73 = .ok (.iinc 4 1, 3) := by decide +kernel
theorem dX5_afterTurns_76 : decode cX5_afterTurns 76 = .ok (.goto (-69), 3) := by decide +kernel
theorem dX5_afterTurns_79 : decode cX5_afterTurns 79 = .ok (.aload_n 0, 1) := by decide +kernel
theorem dX5_afterTurns_80 : decode cX5_afterTurns 80 = .ok (.getfield 25, 3) := by decide +kernel
theorem dX5_afterTurns_83 : decode cX5_afterTurns 83 = .ok (.iload_n 3, 1) := by decide +kernel
theorem dX5_afterTurns_84 : decode cX5_afterTurns 84 = .ok (.invokestatic 212, 3) := by decide +kernel
theorem dX5_afterTurns_87 : decode cX5_afterTurns 87 = .ok (.aload_n 0, 1) := by decide +kernel
theorem dX5_afterTurns_88 : decode cX5_afterTurns 88 = .ok (.getfield 25, 3) := by decide +kernel
theorem dX5_afterTurns_91 : decode cX5_afterTurns 91 = .ok (.iconst 1, 1) := by decide +kernel
theorem dX5_afterTurns_92 : decode cX5_afterTurns 92 = .ok (.invokestatic 167, 3) := by decide +kernel
theorem dX5_afterTurns_95 : decode cX5_afterTurns 95 = .ok (.invokestatic 219, 3) := by decide +kernel
theorem dX5_afterTurns_98 : decode cX5_afterTurns 98 = .ok (.aload_n 0, 1) := by decide +kernel
theorem dX5_afterTurns_99 : decode cX5_afterTurns 99 = .ok (.getfield 25, 3) := by decide +kernel
theorem dX5_afterTurns_102 : decode cX5_afterTurns 102 = .ok (.iconst 0, 1) := by decide +kernel
theorem dX5_afterTurns_103 : decode cX5_afterTurns 103 = .ok (.invokestatic 167, 3) := by decide +kernel
theorem dX5_afterTurns_106 : decode cX5_afterTurns 106 = .ok (.invokestatic 219, 3) := by decide +kernel
theorem dX5_afterTurns_109 : decode cX5_afterTurns 109 = .ok (.isub, 1) := by decide +kernel
theorem dX5_afterTurns_110 : decode cX5_afterTurns 110 = .ok (.ireturn, 1) := by decide +kernel
theorem dX5_byTurns_0 : decode cX5_byTurns 0 = .ok (.aload_n 0, 1) := by decide +kernel
theorem dX5_byTurns_1 : decode cX5_byTurns 1 = .ok (.iconst 0, 1) := by decide +kernel
theorem dX5_byTurns_2 : decode cX5_byTurns 2 = .ok (.putfield 47, 3) := by decide +kernel
theorem dX5_byTurns_5 : decode cX5_byTurns 5 = .ok (.aload_n 0, 1) := by decide +kernel
theorem dX5_byTurns_6 : decode cX5_byTurns 6 = .ok (.invokevirtual 177, 3) := by decide +kernel
theorem dX5_byTurns_9 : decode cX5_byTurns 9 = .ok (.ifCond .ne 6, 3) := by decide +kernel
theorem dX5_byTurns_12 : decode cX5_byTurns 12 = .ok (.ldc 180, 2) := by decide +kernel
theorem dX5_byTurns_14 : decode cX5_byTurns 14 = .ok (.ireturn, 1) := by decide +kernel
theorem dX5_byTurns_15 : decode cX5_byTurns 15 = .ok (.iload_n 1, 1) := by decide +kernel
theorem dX5_byTurns_16 : decode cX5_byTurns 16 = .ok (.i2l, 1) := by decide +kernel
theorem dX5_byTurns_17 : decode cX5_byTurns 17 = .ok (.lconst 0, 1) := by decide +kernel
theorem dX5_byTurns_18 : decode cX5_byTurns 18 = .ok (.ldc2_w 224, 3) := by decide +kernel
theorem dX5_byTurns_21 : decode cX5_byTurns 21 = .ok (.invokestatic 57, 3) := by decide +kernel
theorem dX5_byTurns_24 : decode cX5_byTurns 24 = .ok (.ifCond .eq 15, 3) := by decide +kernel
theorem dX5_byTurns_27 : decode cX5_byTurns 27 = .ok (.iload_n 2, 1) := by decide +kernel
theorem dX5_byTurns_28 : decode cX5_byTurns 28 = .ok (.i2l, 1) := by decide +kernel
theorem dX5_byTurns_29 : decode cX5_byTurns 29 = .ok (.lconst 1, 1) := by decide +kernel
theorem dX5_byTurns_30 : decode cX5_byTurns 30 = .ok (.ldc2_w 226, 3) := by decide +kernel
theorem dX5_byTurns_33 : decode cX5_byTurns 33 = .ok (.invokestatic 57, 3) := by decide +kernel
theorem dX5_byTurns_36 : decode cX5_byTurns 36 = .ok (.ifCond .ne 6, 3) := by decide +kernel
theorem dX5_byTurns_39 : decode cX5_byTurns 39 = .ok (.ldc 67, 2) := by decide +kernel
theorem dX5_byTurns_41 : decode cX5_byTurns 41 = .ok (.ireturn, 1) := by decide +kernel
theorem dX5_byTurns_42 : decode cX5_byTurns 42 = .ok (.iconst 0, 1) := by decide +kernel
theorem dX5_byTurns_43 : decode cX5_byTurns 43 = .ok (.istore_n 3, 1) := by decide +kernel
theorem dX5_byTurns_44 : decode cX5_byTurns 44 = .ok (.iload_n 3, 1) := by decide +kernel
theorem dX5_byTurns_45 : decode cX5_byTurns 45 = .ok (.iconst 1, 1) := by decide +kernel
theorem dX5_byTurns_46 : decode cX5_byTurns 46 = .ok (.iload_n 1, 1) := by decide +kernel
theorem dX5_byTurns_47 : decode cX5_byTurns 47 = .ok (.ishl, 1) := by decide +kernel
theorem dX5_byTurns_48 : decode cX5_byTurns 48 = .ok (.if_icmp .ge 22, 3) := by decide +kernel
theorem dX5_byTurns_51 : decode cX5_byTurns 51 = .ok (.aload_n 0, 1) := by decide +kernel
theorem dX5_byTurns_52 : decode cX5_byTurns 52 = .ok (.getfield 34, 3) := by decide +kernel
theorem dX5_byTurns_55 : decode cX5_byTurns 55 = .ok (.iload_n 3, 1) := by decide +kernel
theorem dX5_byTurns_56 : decode cX5_byTurns 56 = .ok (.aload_n 0, 1) := by decide +kernel
theorem dX5_byTurns_57 : decode cX5_byTurns 57 = .ok (.iload_n 3, 1) := by decide +kernel
theorem dX5_byTurns_58 : decode cX5_byTurns 58 = .ok (.iload_n 1, 1) := by decide +kernel
theorem dX5_byTurns_59 : decode cX5_byTurns 59 = .ok (.iload_n 2, 1) := by decide +kernel
theorem dX5_byTurns_60 : decode cX5_byTurns 60 = .ok (.invokevirtual 228, 3) := by decide +kernel
theorem dX5_byTurns_63 : decode cX5_byTurns 63 = .ok (.iastore, 1) := by decide +kernel
theorem dX5_byTurns_64 : decode cX5_byTurns 64 = .ok (.iinc 3 1, 3) := by decide +kernel
theorem dX5_byTurns_67 : decode cX5_byTurns 67 = .ok (.goto (-23), 3) := by decide +kernel
theorem dX5_byTurns_70 : decode cX5_byTurns 70 = .ok (.iload_n 1, 1) := by decide +kernel
theorem dX5_byTurns_71 : decode cX5_byTurns 71 = .ok (.iconst 1, 1) := by decide +kernel
theorem dX5_byTurns_72 : decode cX5_byTurns 72 = .ok (.isub, 1) := by decide +kernel
theorem dX5_byTurns_73 : decode cX5_byTurns 73 = .ok (.istore_n 3, 1) := by decide +kernel
theorem dX5_byTurns_74 : decode cX5_byTurns 74 = .ok (.iload_n 3, 1) := by decide +kernel
theorem dX5_byTurns_75 : decode cX5_byTurns 75 = .ok (.ifCond .lt 102, 3) := by decide +kernel
theorem dX5_byTurns_78 : decode cX5_byTurns 78 = .ok (.iconst 0, 1) := by decide +kernel
theorem dX5_byTurns_79 : decode cX5_byTurns 79 = .ok (.istore 4, 2) := by decide +kernel
theorem dX5_byTurns_81 : decode cX5_byTurns 81 = .ok (.iload 4, 2) := by decide +kernel
theorem dX5_byTurns_83 : decode cX5_byTurns 83 = .ok (.iconst 1, 1) := by decide +kernel
theorem dX5_byTurns_84 : decode cX5_byTurns 84 = .ok (.iload_n 3, 1) := by decide +kernel
theorem dX5_byTurns_85 : decode cX5_byTurns 85 = .ok (.ishl, 1) := by decide +kernel
theorem dX5_byTurns_86 : decode cX5_byTurns 86 = .ok (.if_icmp .ge 85, 3) := by decide +kernel
theorem dX5_byTurns_89 : decode cX5_byTurns 89 = .ok (.aload_n 0, 1) := by decide +kernel
theorem dX5_byTurns_90 : decode cX5_byTurns 90 = .ok (.getfield 34, 3) := by decide +kernel
theorem dX5_byTurns_93 : decode cX5_byTurns 93 = .ok (.iload 4, 2) := by decide +kernel
theorem dX5_byTurns_95 : decode cX5_byTurns 95 = .ok (.iaload, 1) := by decide +kernel
theorem dX5_byTurns_96 : decode cX5_byTurns 96 = .ok (.istore 5, 2) := by decide +kernel
theorem dX5_byTurns_98 : decode cX5_byTurns 98 = .ok (.aload_n 0, 1) := by decide +kernel
theorem dX5_byTurns_99 : decode cX5_byTurns 99 = .ok (.getfield 34, 3) := by decide +kernel
theorem dX5_byTurns_102 : decode cX5_byTurns 102 = .ok (.iload 4, 2) := by decide +kernel
theorem dX5_byTurns_104 : decode cX5_byTurns 104 = .ok (.iconst 1, 1) := by decide +kernel
theorem dX5_byTurns_105 : decode cX5_byTurns 105 = .ok (.iload_n 3, 1) := by decide +kernel
theorem dX5_byTurns_106 : decode cX5_byTurns 106 = .ok (.ishl, 1) := by decide +kernel
theorem dX5_byTurns_107 : decode cX5_byTurns 107 = .ok (.ior, 1) := by decide +kernel
theorem dX5_byTurns_108 : decode cX5_byTurns 108 = .ok (.iaload, 1) := by decide +kernel
theorem dX5_byTurns_109 : decode cX5_byTurns 109 = .ok (.istore 6, 2) := by decide +kernel
theorem dX5_byTurns_111 : decode cX5_byTurns 111 = .ok (.iload_n 3, 1) := by decide +kernel
theorem dX5_byTurns_112 : decode cX5_byTurns 112 = .ok (.iconst 2, 1) := by decide +kernel
theorem dX5_byTurns_113 : decode cX5_byTurns 113 = .ok (.irem, 1) := by decide +kernel
theorem dX5_byTurns_114 : decode cX5_byTurns 114 = .ok (.ifCond .ne 18, 3) := by decide +kernel
theorem dX5_byTurns_117 : decode cX5_byTurns 117 = .ok (.iload 5, 2) := by decide +kernel
theorem dX5_byTurns_119 : decode cX5_byTurns 119 = .ok (.iload 6, 2) := by decide +kernel
theorem dX5_byTurns_121 : decode cX5_byTurns 121 = .ok (.if_icmp .lt 7, 3) := by decide +kernel
theorem dX5_byTurns_124 : decode cX5_byTurns 124 = .ok (.iconst 1, 1) := by decide +kernel
theorem dX5_byTurns_125 : decode cX5_byTurns 125 = .ok (.goto 19, 3) := by decide +kernel
theorem dX5_byTurns_128 : decode cX5_byTurns 128 = .ok (.iconst 0, 1) := by decide +kernel
theorem dX5_byTurns_129 : decode cX5_byTurns 129 = .ok (.goto 15, 3) := by decide +kernel
theorem dX5_byTurns_132 : decode cX5_byTurns 132 = .ok (.iload 5, 2) := by decide +kernel
theorem dX5_byTurns_134 : decode cX5_byTurns 134 = .ok (.iload 6, 2) := by decide +kernel
theorem dX5_byTurns_136 : decode cX5_byTurns 136 = .ok (.if_icmp .gt 7, 3) := by decide +kernel
theorem dX5_byTurns_139 : decode cX5_byTurns 139 = .ok (.iconst 1, 1) := by decide +kernel
theorem dX5_byTurns_140 : decode cX5_byTurns 140 = .ok (.goto 4, 3) := by decide +kernel
theorem dX5_byTurns_143 : decode cX5_byTurns 143 = .ok (.iconst 0, 1) := by decide +kernel
theorem dX5_byTurns_144 : decode cX5_byTurns 144 = .ok (.istore 7, 2) := by decide +kernel
theorem dX5_byTurns_146 : decode cX5_byTurns 146 = .ok (.aload_n 0, 1) := by decide +kernel
theorem dX5_byTurns_147 : decode cX5_byTurns 147 = .ok (.getfield 34, 3) := by decide +kernel
theorem dX5_byTurns_150 : decode cX5_byTurns 150 = .ok (.iload 4, 2) := by decide +kernel
theorem dX5_byTurns_152 : decode cX5_byTurns 152 = .ok (.iload 7, 2) := by decide +kernel
theorem dX5_byTurns_154 : decode cX5_byTurns 154 = .ok (.ifCond .eq 8, 3) := by decide +kernel
theorem dX5_byTurns_157 : decode cX5_byTurns 157 = .ok (.iload 5, 2) := by decide +kernel
theorem dX5_byTurns_159 : decode cX5_byTurns 159 = .ok (.goto 5, 3) := by decide +kernel
theorem dX5_byTurns_162 : decode cX5_byTurns 162 = .ok (.iload 6, 2) := by decide +kernel
theorem dX5_byTurns_164 : decode cX5_byTurns 164 = .ok (.iastore, 1) := by decide +kernel
theorem dX5_byTurns_165 : decode cX5_byTurns 165 = .ok (.iinc 4 1, 3) := by decide +kernel
theorem dX5_byTurns_168 : decode cX5_byTurns 168 = .ok (.goto (-87), 3) := by decide +kernel
theorem dX5_byTurns_171 : decode cX5_byTurns 171 = .ok (.iinc 3 (-1), 3) := by decide +kernel
theorem dX5_byTurns_174 : decode cX5_byTurns 174 = .ok (.goto (-100), 3) := by decide +kernel
theorem dX5_byTurns_177 : decode cX5_byTurns 177 = .ok (.aload_n 0, 1) := by decide +kernel
theorem dX5_byTurns_178 : decode cX5_byTurns 178 = .ok (.getfield 34, 3) := by decide +kernel
theorem dX5_byTurns_181 : decode cX5_byTurns 181 = .ok (.iconst 0, 1) := by decide +kernel
theorem dX5_byTurns_182 : decode cX5_byTurns 182 = .ok (.iaload, 1) := by decide +kernel
theorem dX5_byTurns_183 : decode cX5_byTurns 183 = .ok (.ireturn, 1) := by decide +kernel
theorem dX5_isSo_0 : decode cX5_isSo 0 = .ok (.iconst 1, 1) := by decide +kernel
theorem dX5_isSo_1 : decode cX5_isSo 1 = .ok (.istore 4, 2) := by decide +kernel
theorem dX5_isSo_3 : decode cX5_isSo 3 = .ok (.iconst 0, 1) := by decide +kernel
theorem dX5_isSo_4 : decode cX5_isSo 4 = .ok (.istore 5, 2) := by decide +kernel
theorem dX5_isSo_6 : decode cX5_isSo 6 = .ok (.iload 5, 2) := by decide +kernel
theorem dX5_isSo_8 : decode cX5_isSo 8 = .ok (.iload_n 3, 1) := by decide +kernel
theorem dX5_isSo_9 : decode cX5_isSo 9 = .ok (.if_icmp .ge 48, 3) := by decide +kernel
theorem dX5_isSo_12 : decode cX5_isSo 12 = .ok (.aload_n 0, 1) := by decide +kernel
theorem dX5_isSo_13 : decode cX5_isSo 13 = .ok (.getfield 25, 3) := by decide +kernel
theorem dX5_isSo_16 : decode cX5_isSo 16 = .ok (.invokestatic 173, 3) := by decide +kernel
theorem dX5_isSo_19 : decode cX5_isSo 19 = .ok (.iload 4, 2) := by decide +kernel
theorem dX5_isSo_21 : decode cX5_isSo 21 = .ok (.ifCond .eq 27, 3) := by decide +kernel
theorem dX5_isSo_24 : decode cX5_isSo 24 = .ok (.aload_n 0, 1) := by decide +kernel
theorem dX5_isSo_25 : decode cX5_isSo 25 = .ok (.getfield 25, 3) := by decide +kernel
theorem dX5_isSo_28 : decode cX5_isSo 28 = .ok (.iload_n 1, 1) := by decide +kernel
theorem dX5_isSo_29 : decode cX5_isSo 29 = .ok (.invokestatic 160, 3) := by decide +kernel
theorem dX5_isSo_32 : decode cX5_isSo 32 = .ok (.aload_n 0, 1) := by decide +kernel
theorem dX5_isSo_33 : decode cX5_isSo 33 = .ok (.getfield 16, 3) := by decide +kernel
theorem dX5_isSo_36 : decode cX5_isSo 36 = .ok (.iload_n 2, 1) := by decide +kernel
theorem dX5_isSo_37 : decode cX5_isSo 37 = .ok (.iload 5, 2) := by decide +kernel
theorem dX5_isSo_39 : decode cX5_isSo 39 = .ok (.iadd, 1) := by decide +kernel
theorem dX5_isSo_40 : decode cX5_isSo 40 = .ok (.iaload, 1) := by decide +kernel
theorem dX5_isSo_41 : decode cX5_isSo 41 = .ok (.if_icmp .ne 7, 3) := by decide +kernel
theorem dX5_isSo_44 : decode cX5_isSo 44 = .ok (.iconst 1, 1) := by decide +kernel
theorem dX5_isSo_45 : decode cX5_isSo 45 = .ok (.goto 4, 3) := by decide +kernel
theorem dX5_isSo_48 : decode cX5_isSo 48 = .ok (.iconst 0, 1) := by decide +kernel
theorem dX5_isSo_49 : decode cX5_isSo 49 = .ok (.istore 4, 2) := by decide +kernel
theorem dX5_isSo_51 : decode cX5_isSo 51 = .ok (.iinc 5 1, 3) := by decide +kernel
theorem dX5_isSo_54 : decode cX5_isSo 54 = .ok (.goto (-48), 3) := by decide +kernel
theorem dX5_isSo_57 : decode cX5_isSo 57 = .ok (.iload 4, 2) := by decide +kernel
theorem dX5_isSo_59 : decode cX5_isSo 59 = .ok (.ireturn, 1) := by decide +kernel
theorem dX5_rowFound_0 : decode cX5_rowFound 0 = .ok (.aload_n 0, 1) := by decide +kernel
theorem dX5_rowFound_1 : decode cX5_rowFound 1 = .ok (.getfield 7, 3) := by decide +kernel
theorem dX5_rowFound_4 : decode cX5_rowFound 4 = .ok (.iload_n 1, 1) := by decide +kernel
theorem dX5_rowFound_5 : decode cX5_rowFound 5 = .ok (.iaload, 1) := by decide +kernel
theorem dX5_rowFound_6 : decode cX5_rowFound 6 = .ok (.ifCond .ge 9, 3) := by decide +kernel
theorem dX5_rowFound_9 : decode cX5_rowFound 9 = .ok (.aload_n 0, 1) := by decide +kernel
theorem dX5_rowFound_10 : decode cX5_rowFound 10 = .ok (.iconst 1, 1) := by decide +kernel
theorem dX5_rowFound_11 : decode cX5_rowFound 11 = .ok (.invokevirtual 68, 3) := by decide +kernel
theorem dX5_rowFound_14 : decode cX5_rowFound 14 = .ok (.ireturn, 1) := by decide +kernel
theorem dX5_rowFound_15 : decode cX5_rowFound 15 = .ok (.iload_n 2, 1) := by decide +kernel
theorem dX5_rowFound_16 : decode cX5_rowFound 16 = .ok (.ifCond .lt 19, 3) := by decide +kernel
theorem dX5_rowFound_19 : decode cX5_rowFound 19 = .ok (.iload_n 2, 1) := by decide +kernel
theorem dX5_rowFound_20 : decode cX5_rowFound 20 = .ok (.i2l, 1) := by decide +kernel
theorem dX5_rowFound_21 : decode cX5_rowFound 21 = .ok (.iload_n 3, 1) := by decide +kernel
theorem dX5_rowFound_22 : decode cX5_rowFound 22 = .ok (.i2l, 1) := by decide +kernel
theorem dX5_rowFound_23 : decode cX5_rowFound 23 = .ok (.ladd, 1) := by decide +kernel
theorem dX5_rowFound_24 : decode cX5_rowFound 24 = .ok (.aload_n 0, 1) := by decide +kernel
theorem dX5_rowFound_25 : decode cX5_rowFound 25 = .ok (.getfield 13, 3) := by decide +kernel
theorem dX5_rowFound_28 : decode cX5_rowFound 28 = .ok (.iload_n 1, 1) := by decide +kernel
theorem dX5_rowFound_29 : decode cX5_rowFound 29 = .ok (.iaload, 1) := by decide +kernel
theorem dX5_rowFound_30 : decode cX5_rowFound 30 = .ok (.i2l, 1) := by decide +kernel
theorem dX5_rowFound_31 : decode cX5_rowFound 31 = .ok (.lcmp, 1) := by decide +kernel
theorem dX5_rowFound_32 : decode cX5_rowFound 32 = .ok (.ifCond .le 9, 3) := by decide +kernel
theorem dX5_rowFound_35 : decode cX5_rowFound 35 = .ok (.aload_n 0, 1) := by decide +kernel
theorem dX5_rowFound_36 : decode cX5_rowFound 36 = .ok (.iconst 2, 1) := by decide +kernel
theorem dX5_rowFound_37 : decode cX5_rowFound 37 = .ok (.invokevirtual 68, 3) := by decide +kernel
theorem dX5_rowFound_40 : decode cX5_rowFound 40 = .ok (.ireturn, 1) := by decide +kernel
theorem dX5_rowFound_41 : decode cX5_rowFound 41 = .ok (.aload_n 0, 1) := by decide +kernel
theorem dX5_rowFound_42 : decode cX5_rowFound 42 = .ok (.iconst 0, 1) := by decide +kernel
theorem dX5_rowFound_43 : decode cX5_rowFound 43 = .ok (.putfield 51, 3) := by decide +kernel
theorem dX5_rowFound_46 : decode cX5_rowFound 46 = .ok (.iconst 0, 1) := by decide +kernel
theorem dX5_rowFound_47 : decode cX5_rowFound 47 = .ok (.ireturn, 1) := by decide +kernel
theorem dX5_isMany_0 : decode cX5_isMany 0 = .ok (.iload_n 0, 1) := by decide +kernel
theorem dX5_isMany_1 : decode cX5_isMany 1 = .ok (.invokestatic 61, 3) := by decide +kernel
theorem dX5_isMany_4 : decode cX5_isMany 4 = .ok (.ifCond .eq 19, 3) := by decide +kernel
theorem dX5_isMany_7 : decode cX5_isMany 7 = .ok (.iload_n 1, 1) := by decide +kernel
theorem dX5_isMany_8 : decode cX5_isMany 8 = .ok (.i2l, 1) := by decide +kernel
theorem dX5_isMany_9 : decode cX5_isMany 9 = .ok (.lconst 1, 1) := by decide +kernel
theorem dX5_isMany_10 : decode cX5_isMany 10 = .ok (.ldc2_w 201, 3) := by decide +kernel
theorem dX5_isMany_13 : decode cX5_isMany 13 = .ok (.invokestatic 57, 3) := by decide +kernel
theorem dX5_isMany_16 : decode cX5_isMany 16 = .ok (.ifCond .eq 7, 3) := by decide +kernel
theorem dX5_isMany_19 : decode cX5_isMany 19 = .ok (.iconst 1, 1) := by decide +kernel
theorem dX5_isMany_20 : decode cX5_isMany 20 = .ok (.goto 4, 3) := by decide +kernel
theorem dX5_isMany_23 : decode cX5_isMany 23 = .ok (.iconst 0, 1) := by decide +kernel
theorem dX5_isMany_24 : decode cX5_isMany 24 = .ok (.ireturn, 1) := by decide +kernel
theorem dX5_tryAll_0 : decode cX5_tryAll 0 = .ok (.aload_n 0, 1) := by decide +kernel
theorem dX5_tryAll_1 : decode cX5_tryAll 1 = .ok (.iconst 0, 1) := by decide +kernel
theorem dX5_tryAll_2 : decode cX5_tryAll 2 = .ok (.putfield 232, 3) := by decide +kernel
theorem dX5_tryAll_5 : decode cX5_tryAll 5 = .ok (.aload_n 0, 1) := by decide +kernel
theorem dX5_tryAll_6 : decode cX5_tryAll 6 = .ok (.iconst 0, 1) := by decide +kernel
theorem dX5_tryAll_7 : decode cX5_tryAll 7 = .ok (.putfield 235, 3) := by decide +kernel
theorem dX5_tryAll_10 : decode cX5_tryAll 10 = .ok (.aload_n 0, 1) := by decide +kernel
theorem dX5_tryAll_11 : decode cX5_tryAll 11 = .ok (.ldc 90, 2) := by decide +kernel
theorem dX5_tryAll_13 : decode cX5_tryAll 13 = .ok (.putfield 238, 3) := by decide +kernel
theorem dX5_tryAll_16 : decode cX5_tryAll 16 = .ok (.iload_n 2, 1) := by decide +kernel
theorem dX5_tryAll_17 : decode cX5_tryAll 17 = .ok (.istore 7, 2) := by decide +kernel
theorem dX5_tryAll_19 : decode cX5_tryAll 19 = .ok (.iload 7, 2) := by decide +kernel
theorem dX5_tryAll_21 : decode cX5_tryAll 21 = .ok (.iload_n 3, 1) := by decide +kernel
theorem dX5_tryAll_22 : decode cX5_tryAll 22 = .ok (.if_icmp .gt 87, 3) := by decide +kernel
theorem dX5_tryAll_25 : decode cX5_tryAll 25 = .ok (.aload_n 0, 1) := by decide +kernel
theorem dX5_tryAll_26 : decode cX5_tryAll 26 = .ok (.invokevirtual 209, 3) := by decide +kernel
theorem dX5_tryAll_29 : decode cX5_tryAll 29 = .ok (.aload_n 0, 1) := by decide +kernel
theorem dX5_tryAll_30 : decode cX5_tryAll 30 = .ok (.getfield 25, 3) := by decide +kernel
theorem dX5_tryAll_33 : decode cX5_tryAll 33 = .ok (.iload_n 1, 1) := by decide +kernel
theorem dX5_tryAll_34 : decode cX5_tryAll 34 = .ok (.iload 7, 2) := by decide +kernel
theorem dX5_tryAll_36 : decode cX5_tryAll 36 = .ok (.iastore, 1) := by decide +kernel
theorem dX5_tryAll_37 : decode cX5_tryAll 37 = .ok (.aload_n 0, 1) := by decide +kernel
theorem dX5_tryAll_38 : decode cX5_tryAll 38 = .ok (.iload 4, 2) := by decide +kernel
theorem dX5_tryAll_40 : decode cX5_tryAll 40 = .ok (.iload 5, 2) := by decide +kernel
theorem dX5_tryAll_42 : decode cX5_tryAll 42 = .ok (.iload 6, 2) := by decide +kernel
theorem dX5_tryAll_44 : decode cX5_tryAll 44 = .ok (.invokevirtual 241, 3) := by decide +kernel
theorem dX5_tryAll_47 : decode cX5_tryAll 47 = .ok (.ifCond .eq 56, 3) := by decide +kernel
theorem dX5_tryAll_50 : decode cX5_tryAll 50 = .ok (.aload_n 0, 1) := by decide +kernel
theorem dX5_tryAll_51 : decode cX5_tryAll 51 = .ok (.dup, 1) := by decide +kernel
theorem dX5_tryAll_52 : decode cX5_tryAll 52 = .ok (.getfield 232, 3) := by decide +kernel
theorem dX5_tryAll_55 : decode cX5_tryAll 55 = .ok (.iload_n 3, 1) := by decide +kernel
theorem dX5_tryAll_56 : decode cX5_tryAll 56 = .ok (.bipush 13, 2) := by decide +kernel
theorem dX5_tryAll_58 : decode cX5_tryAll 58 = .ok (.if_icmp .ge 10, 3) := by decide +kernel
theorem dX5_tryAll_61 : decode cX5_tryAll 61 = .ok (.iconst 1, 1) := by decide +kernel
theorem dX5_tryAll_62 : decode cX5_tryAll 62 = .ok (.iload 7, 2) := by decide +kernel
theorem dX5_tryAll_64 : decode cX5_tryAll 64 = .ok (.ishl, 1) := by decide +kernel
theorem dX5_tryAll_65 : decode cX5_tryAll 65 = .ok (.goto 4, 3) := by decide +kernel
theorem dX5_tryAll_68 : decode cX5_tryAll 68 = .ok (.iconst 0, 1) := by decide +kernel
theorem dX5_tryAll_69 : decode cX5_tryAll 69 = .ok (.ior, 1) := by decide +kernel
theorem dX5_tryAll_70 : decode cX5_tryAll 70 = .ok (.putfield 232, 3) := by decide +kernel
theorem dX5_tryAll_73 : decode cX5_tryAll 73 = .ok (.aload_n 0, 1) := by decide +kernel
theorem dX5_tryAll_74 : decode cX5_tryAll 74 = .ok (.aload_n 0, 1) := by decide +kernel
theorem dX5_tryAll_75 : decode cX5_tryAll 75 = .ok (.getfield 235, 3) := by decide +kernel
theorem dX5_tryAll_78 : decode cX5_tryAll 78 = .ok (.ifCond .ne 8, 3) := by decide +kernel
theorem dX5_tryAll_81 : decode cX5_tryAll 81 = .ok (.iload 7, 2) := by decide +kernel
theorem dX5_tryAll_83 : decode cX5_tryAll 83 = .ok (.goto 7, 3) := by decide +kernel
theorem dX5_tryAll_86 : decode cX5_tryAll 86 = .ok (.aload_n 0, 1) := by decide +kernel
theorem dX5_tryAll_87 : decode cX5_tryAll 87 = .ok (.getfield 238, 3) := by decide +kernel
theorem dX5_tryAll_90 : decode cX5_tryAll 90 = .ok (.putfield 238, 3) := by decide +kernel
theorem dX5_tryAll_93 : decode cX5_tryAll 93 = .ok (.aload_n 0, 1) := by decide +kernel
theorem dX5_tryAll_94 : decode cX5_tryAll 94 = .ok (.dup, 1) := by decide +kernel
theorem dX5_tryAll_95 : decode cX5_tryAll 95 = .ok (.getfield 235, 3) := by decide +kernel
theorem dX5_tryAll_98 : decode cX5_tryAll 98 = .ok (.iconst 1, 1) := by decide +kernel
theorem dX5_tryAll_99 : decode cX5_tryAll 99 = .ok (.iadd, 1) := by decide +kernel
theorem dX5_tryAll_100 : decode cX5_tryAll 100 = .ok (.putfield 235, 3) := by decide +kernel
theorem dX5_tryAll_103 : decode cX5_tryAll 103 = .ok (.iinc 7 1, 3) := by decide +kernel
theorem dX5_tryAll_106 : decode cX5_tryAll 106 = .ok (.goto (-87), 3) := by decide +kernel
theorem dX5_tryAll_109 : decode cX5_tryAll 109 = .ok (.return_, 1) := by decide +kernel
theorem dX5_who_0 : decode cX5_who 0 = .ok (.aload_n 0, 1) := by decide +kernel
theorem dX5_who_1 : decode cX5_who 1 = .ok (.iconst 0, 1) := by decide +kernel
theorem dX5_who_2 : decode cX5_who 2 = .ok (.putfield 47, 3) := by decide +kernel
theorem dX5_who_5 : decode cX5_who 5 = .ok (.aload_n 0, 1) := by decide +kernel
theorem dX5_who_6 : decode cX5_who 6 = .ok (.iload_n 1, 1) := by decide +kernel
theorem dX5_who_7 : decode cX5_who 7 = .ok (.invokevirtual 203, 3) := by decide +kernel
theorem dX5_who_10 : decode cX5_who 10 = .ok (.ifCond .eq 22, 3) := by decide +kernel
theorem dX5_who_13 : decode cX5_who 13 = .ok (.iload_n 2, 1) := by decide +kernel
theorem dX5_who_14 : decode cX5_who 14 = .ok (.i2l, 1) := by decide +kernel
theorem dX5_who_15 : decode cX5_who 15 = .ok (.lconst 0, 1) := by decide +kernel
theorem dX5_who_16 : decode cX5_who 16 = .ok (.lconst 1, 1) := by decide +kernel
theorem dX5_who_17 : decode cX5_who 17 = .ok (.invokestatic 57, 3) := by decide +kernel
theorem dX5_who_20 : decode cX5_who 20 = .ok (.ifCond .eq 12, 3) := by decide +kernel
theorem dX5_who_23 : decode cX5_who 23 = .ok (.iload_n 3, 1) := by decide +kernel
theorem dX5_who_24 : decode cX5_who 24 = .ok (.iload 5, 2) := by decide +kernel
theorem dX5_who_26 : decode cX5_who 26 = .ok (.invokestatic 245, 3) := by decide +kernel
theorem dX5_who_29 : decode cX5_who 29 = .ok (.ifCond .ne 6, 3) := by decide +kernel
theorem dX5_who_32 : decode cX5_who 32 = .ok (.ldc 67, 2) := by decide +kernel
theorem dX5_who_34 : decode cX5_who 34 = .ok (.ireturn, 1) := by decide +kernel
theorem dX5_who_35 : decode cX5_who 35 = .ok (.aload_n 0, 1) := by decide +kernel
theorem dX5_who_36 : decode cX5_who 36 = .ok (.iload_n 3, 1) := by decide +kernel
theorem dX5_who_37 : decode cX5_who 37 = .ok (.iload 4, 2) := by decide +kernel
theorem dX5_who_39 : decode cX5_who 39 = .ok (.iload 5, 2) := by decide +kernel
theorem dX5_who_41 : decode cX5_who 41 = .ok (.invokevirtual 248, 3) := by decide +kernel
theorem dX5_who_44 : decode cX5_who 44 = .ok (.istore 6, 2) := by decide +kernel
theorem dX5_who_46 : decode cX5_who 46 = .ok (.iload 6, 2) := by decide +kernel
theorem dX5_who_48 : decode cX5_who 48 = .ok (.ifCond .eq 6, 3) := by decide +kernel
theorem dX5_who_51 : decode cX5_who 51 = .ok (.iload 6, 2) := by decide +kernel
theorem dX5_who_53 : decode cX5_who 53 = .ok (.ireturn, 1) := by decide +kernel
theorem dX5_who_54 : decode cX5_who 54 = .ok (.aload_n 0, 1) := by decide +kernel
theorem dX5_who_55 : decode cX5_who 55 = .ok (.bipush 12, 2) := by decide +kernel
theorem dX5_who_57 : decode cX5_who 57 = .ok (.iconst 2, 1) := by decide +kernel
theorem dX5_who_58 : decode cX5_who 58 = .ok (.iload_n 1, 1) := by decide +kernel
theorem dX5_who_59 : decode cX5_who 59 = .ok (.imul, 1) := by decide +kernel
theorem dX5_who_60 : decode cX5_who 60 = .ok (.iadd, 1) := by decide +kernel
theorem dX5_who_61 : decode cX5_who 61 = .ok (.iload_n 2, 1) := by decide +kernel
theorem dX5_who_62 : decode cX5_who 62 = .ok (.iadd, 1) := by decide +kernel
theorem dX5_who_63 : decode cX5_who 63 = .ok (.iload_n 2, 1) := by decide +kernel
theorem dX5_who_64 : decode cX5_who 64 = .ok (.ifCond .ne 7, 3) := by decide +kernel
theorem dX5_who_67 : decode cX5_who 67 = .ok (.iconst 1, 1) := by decide +kernel
theorem dX5_who_68 : decode cX5_who 68 = .ok (.goto 4, 3) := by decide +kernel
theorem dX5_who_71 : decode cX5_who 71 = .ok (.iconst 0, 1) := by decide +kernel
theorem dX5_who_72 : decode cX5_who 72 = .ok (.iload_n 2, 1) := by decide +kernel
theorem dX5_who_73 : decode cX5_who 73 = .ok (.ifCond .ne 7, 3) := by decide +kernel
theorem dX5_who_76 : decode cX5_who 76 = .ok (.iconst 5, 1) := by decide +kernel
theorem dX5_who_77 : decode cX5_who 77 = .ok (.goto 11, 3) := by decide +kernel
theorem dX5_who_80 : decode cX5_who 80 = .ok (.aload_n 0, 1) := by decide +kernel
theorem dX5_who_81 : decode cX5_who 81 = .ok (.getfield 19, 3) := by decide +kernel
theorem dX5_who_84 : decode cX5_who 84 = .ok (.iconst 2, 1) := by decide +kernel
theorem dX5_who_85 : decode cX5_who 85 = .ok (.iaload, 1) := by decide +kernel
theorem dX5_who_86 : decode cX5_who 86 = .ok (.iconst 1, 1) := by decide +kernel
theorem dX5_who_87 : decode cX5_who 87 = .ok (.isub, 1) := by decide +kernel
theorem dX5_who_88 : decode cX5_who 88 = .ok (.iload_n 1, 1) := by decide +kernel
theorem dX5_who_89 : decode cX5_who 89 = .ok (.bipush 40, 2) := by decide +kernel
theorem dX5_who_91 : decode cX5_who 91 = .ok (.iload_n 3, 1) := by decide +kernel
theorem dX5_who_92 : decode cX5_who 92 = .ok (.imul, 1) := by decide +kernel
theorem dX5_who_93 : decode cX5_who 93 = .ok (.iload 4, 2) := by decide +kernel
theorem dX5_who_95 : decode cX5_who 95 = .ok (.iadd, 1) := by decide +kernel
theorem dX5_who_96 : decode cX5_who 96 = .ok (.iload 5, 2) := by decide +kernel
theorem dX5_who_98 : decode cX5_who 98 = .ok (.invokevirtual 251, 3) := by decide +kernel
theorem dX5_who_101 : decode cX5_who 101 = .ok (.aload_n 0, 1) := by decide +kernel
theorem dX5_who_102 : decode cX5_who 102 = .ok (.getfield 232, 3) := by decide +kernel
theorem dX5_who_105 : decode cX5_who 105 = .ok (.ireturn, 1) := by decide +kernel
theorem dX5_fogs_0 : decode cX5_fogs 0 = .ok (.aload_n 0, 1) := by decide +kernel
theorem dX5_fogs_1 : decode cX5_fogs 1 = .ok (.iconst 0, 1) := by decide +kernel
theorem dX5_fogs_2 : decode cX5_fogs 2 = .ok (.putfield 47, 3) := by decide +kernel
theorem dX5_fogs_5 : decode cX5_fogs 5 = .ok (.aload_n 0, 1) := by decide +kernel
theorem dX5_fogs_6 : decode cX5_fogs 6 = .ok (.iload_n 1, 1) := by decide +kernel
theorem dX5_fogs_7 : decode cX5_fogs 7 = .ok (.invokevirtual 196, 3) := by decide +kernel
theorem dX5_fogs_10 : decode cX5_fogs 10 = .ok (.ifCond .eq 20, 3) := by decide +kernel
theorem dX5_fogs_13 : decode cX5_fogs 13 = .ok (.aload_n 0, 1) := by decide +kernel
theorem dX5_fogs_14 : decode cX5_fogs 14 = .ok (.iload_n 2, 1) := by decide +kernel
theorem dX5_fogs_15 : decode cX5_fogs 15 = .ok (.invokevirtual 203, 3) := by decide +kernel
theorem dX5_fogs_18 : decode cX5_fogs 18 = .ok (.ifCond .eq 12, 3) := by decide +kernel
theorem dX5_fogs_21 : decode cX5_fogs 21 = .ok (.iload_n 3, 1) := by decide +kernel
theorem dX5_fogs_22 : decode cX5_fogs 22 = .ok (.iload 5, 2) := by decide +kernel
theorem dX5_fogs_24 : decode cX5_fogs 24 = .ok (.invokestatic 245, 3) := by decide +kernel
theorem dX5_fogs_27 : decode cX5_fogs 27 = .ok (.ifCond .ne 6, 3) := by decide +kernel
theorem dX5_fogs_30 : decode cX5_fogs 30 = .ok (.ldc 67, 2) := by decide +kernel
theorem dX5_fogs_32 : decode cX5_fogs 32 = .ok (.ireturn, 1) := by decide +kernel
theorem dX5_fogs_33 : decode cX5_fogs 33 = .ok (.aload_n 0, 1) := by decide +kernel
theorem dX5_fogs_34 : decode cX5_fogs 34 = .ok (.iload_n 3, 1) := by decide +kernel
theorem dX5_fogs_35 : decode cX5_fogs 35 = .ok (.iload 4, 2) := by decide +kernel
theorem dX5_fogs_37 : decode cX5_fogs 37 = .ok (.iload 5, 2) := by decide +kernel
theorem dX5_fogs_39 : decode cX5_fogs 39 = .ok (.invokevirtual 248, 3) := by decide +kernel
theorem dX5_fogs_42 : decode cX5_fogs 42 = .ok (.istore 6, 2) := by decide +kernel
theorem dX5_fogs_44 : decode cX5_fogs 44 = .ok (.iload 6, 2) := by decide +kernel
theorem dX5_fogs_46 : decode cX5_fogs 46 = .ok (.ifCond .eq 6, 3) := by decide +kernel
theorem dX5_fogs_49 : decode cX5_fogs 49 = .ok (.iload 6, 2) := by decide +kernel
theorem dX5_fogs_51 : decode cX5_fogs 51 = .ok (.ireturn, 1) := by decide +kernel
theorem dX5_fogs_52 : decode cX5_fogs 52 = .ok (.aload_n 0, 1) := by decide +kernel
theorem dX5_fogs_53 : decode cX5_fogs 53 = .ok (.bipush 6, 2) := by decide +kernel
theorem dX5_fogs_55 : decode cX5_fogs 55 = .ok (.iload_n 1, 1) := by decide +kernel
theorem dX5_fogs_56 : decode cX5_fogs 56 = .ok (.iadd, 1) := by decide +kernel
theorem dX5_fogs_57 : decode cX5_fogs 57 = .ok (.iconst 0, 1) := by decide +kernel
theorem dX5_fogs_58 : decode cX5_fogs 58 = .ok (.bipush 9, 2) := by decide +kernel
theorem dX5_fogs_60 : decode cX5_fogs 60 = .ok (.iload_n 2, 1) := by decide +kernel
theorem dX5_fogs_61 : decode cX5_fogs 61 = .ok (.bipush 40, 2) := by decide +kernel
theorem dX5_fogs_63 : decode cX5_fogs 63 = .ok (.iload_n 3, 1) := by decide +kernel
theorem dX5_fogs_64 : decode cX5_fogs 64 = .ok (.imul, 1) := by decide +kernel
theorem dX5_fogs_65 : decode cX5_fogs 65 = .ok (.iload 4, 2) := by decide +kernel
theorem dX5_fogs_67 : decode cX5_fogs 67 = .ok (.iadd, 1) := by decide +kernel
theorem dX5_fogs_68 : decode cX5_fogs 68 = .ok (.iload 5, 2) := by decide +kernel
theorem dX5_fogs_70 : decode cX5_fogs 70 = .ok (.invokevirtual 251, 3) := by decide +kernel
theorem dX5_fogs_73 : decode cX5_fogs 73 = .ok (.aload_n 0, 1) := by decide +kernel
theorem dX5_fogs_74 : decode cX5_fogs 74 = .ok (.getfield 232, 3) := by decide +kernel
theorem dX5_fogs_77 : decode cX5_fogs 77 = .ok (.ireturn, 1) := by decide +kernel
theorem dX5_sights_0 : decode cX5_sights 0 = .ok (.aload_n 0, 1) := by decide +kernel
theorem dX5_sights_1 : decode cX5_sights 1 = .ok (.iconst 0, 1) := by decide +kernel
theorem dX5_sights_2 : decode cX5_sights 2 = .ok (.putfield 47, 3) := by decide +kernel
theorem dX5_sights_5 : decode cX5_sights 5 = .ok (.aload_n 0, 1) := by decide +kernel
theorem dX5_sights_6 : decode cX5_sights 6 = .ok (.iload_n 1, 1) := by decide +kernel
theorem dX5_sights_7 : decode cX5_sights 7 = .ok (.invokevirtual 203, 3) := by decide +kernel
theorem dX5_sights_10 : decode cX5_sights 10 = .ok (.ifCond .eq 24, 3) := by decide +kernel
theorem dX5_sights_13 : decode cX5_sights 13 = .ok (.iload_n 2, 1) := by decide +kernel
theorem dX5_sights_14 : decode cX5_sights 14 = .ok (.i2l, 1) := by decide +kernel
theorem dX5_sights_15 : decode cX5_sights 15 = .ok (.lconst 0, 1) := by decide +kernel
theorem dX5_sights_16 : decode cX5_sights 16 = .ok (.ldc2_w 65, 3) := by decide +kernel
theorem dX5_sights_19 : decode cX5_sights 19 = .ok (.invokestatic 57, 3) := by decide +kernel
theorem dX5_sights_22 : decode cX5_sights 22 = .ok (.ifCond .eq 12, 3) := by decide +kernel
theorem dX5_sights_25 : decode cX5_sights 25 = .ok (.iload_n 3, 1) := by decide +kernel
theorem dX5_sights_26 : decode cX5_sights 26 = .ok (.iload 5, 2) := by decide +kernel
theorem dX5_sights_28 : decode cX5_sights 28 = .ok (.invokestatic 245, 3) := by decide +kernel
theorem dX5_sights_31 : decode cX5_sights 31 = .ok (.ifCond .ne 6, 3) := by decide +kernel
theorem dX5_sights_34 : decode cX5_sights 34 = .ok (.ldc 67, 2) := by decide +kernel
theorem dX5_sights_36 : decode cX5_sights 36 = .ok (.ireturn, 1) := by decide +kernel
theorem dX5_sights_37 : decode cX5_sights 37 = .ok (.aload_n 0, 1) := by decide +kernel
theorem dX5_sights_38 : decode cX5_sights 38 = .ok (.iload_n 3, 1) := by decide +kernel
theorem dX5_sights_39 : decode cX5_sights 39 = .ok (.iload 4, 2) := by decide +kernel
theorem dX5_sights_41 : decode cX5_sights 41 = .ok (.iload 5, 2) := by decide +kernel
theorem dX5_sights_43 : decode cX5_sights 43 = .ok (.invokevirtual 248, 3) := by decide +kernel
theorem dX5_sights_46 : decode cX5_sights 46 = .ok (.istore 6, 2) := by decide +kernel
theorem dX5_sights_48 : decode cX5_sights 48 = .ok (.iload 6, 2) := by decide +kernel
theorem dX5_sights_50 : decode cX5_sights 50 = .ok (.ifCond .eq 6, 3) := by decide +kernel
theorem dX5_sights_53 : decode cX5_sights 53 = .ok (.iload 6, 2) := by decide +kernel
theorem dX5_sights_55 : decode cX5_sights 55 = .ok (.ireturn, 1) := by decide +kernel
theorem dX5_sights_56 : decode cX5_sights 56 = .ok (.aload_n 0, 1) := by decide +kernel
theorem dX5_sights_57 : decode cX5_sights 57 = .ok (.iload_n 2, 1) := by decide +kernel
theorem dX5_sights_58 : decode cX5_sights 58 = .ok (.ifCond .ne 7, 3) := by decide +kernel
theorem dX5_sights_61 : decode cX5_sights 61 = .ok (.iconst 3, 1) := by decide +kernel
theorem dX5_sights_62 : decode cX5_sights 62 = .ok (.goto 4, 3) := by decide +kernel
theorem dX5_sights_65 : decode cX5_sights 65 = .ok (.iconst 4, 1) := by decide +kernel
theorem dX5_sights_66 : decode cX5_sights 66 = .ok (.iconst 0, 1) := by decide +kernel
theorem dX5_sights_67 : decode cX5_sights 67 = .ok (.iload_n 2, 1) := by decide +kernel
theorem dX5_sights_68 : decode cX5_sights 68 = .ok (.ifCond .ne 8, 3) := by decide +kernel
theorem dX5_sights_71 : decode cX5_sights 71 = .ok (.bipush 12, 2) := by decide +kernel
theorem dX5_sights_73 : decode cX5_sights 73 = .ok (.goto 5, 3) := by decide +kernel
theorem dX5_sights_76 : decode cX5_sights 76 = .ok (.bipush 60, 2) := by decide +kernel
theorem dX5_sights_78 : decode cX5_sights 78 = .ok (.iload_n 1, 1) := by decide +kernel
theorem dX5_sights_79 : decode cX5_sights 79 = .ok (.bipush 40, 2) := by decide +kernel
theorem dX5_sights_81 : decode cX5_sights 81 = .ok (.iload_n 3, 1) := by decide +kernel
theorem dX5_sights_82 : decode cX5_sights 82 = .ok (.imul, 1) := by decide +kernel
theorem dX5_sights_83 : decode cX5_sights 83 = .ok (.iload 4, 2) := by decide +kernel
theorem dX5_sights_85 : decode cX5_sights 85 = .ok (.iadd, 1) := by decide +kernel
theorem dX5_sights_86 : decode cX5_sights 86 = .ok (.iload 5, 2) := by decide +kernel
theorem dX5_sights_88 : decode cX5_sights 88 = .ok (.invokevirtual 251, 3) := by decide +kernel
theorem dX5_sights_91 : decode cX5_sights 91 = .ok (.iload_n 2, 1) := by decide +kernel
theorem dX5_sights_92 : decode cX5_sights 92 = .ok (.ifCond .ne 10, 3) := by decide +kernel
theorem dX5_sights_95 : decode cX5_sights 95 = .ok (.aload_n 0, 1) := by decide +kernel
theorem dX5_sights_96 : decode cX5_sights 96 = .ok (.getfield 232, 3) := by decide +kernel
theorem dX5_sights_99 : decode cX5_sights 99 = .ok (.goto 19, 3) := by decide +kernel
theorem dX5_sights_102 : decode cX5_sights 102 = .ok (.iload_n 2, 1) := by decide +kernel
theorem dX5_sights_103 : decode cX5_sights 103 = .ok (.iconst 1, 1) := by decide +kernel
theorem dX5_sights_104 : decode cX5_sights 104 = .ok (.if_icmp .ne 10, 3) := by decide +kernel
theorem dX5_sights_107 : decode cX5_sights 107 = .ok (.aload_n 0, 1) := by decide +kernel
theorem dX5_sights_108 : decode cX5_sights 108 = .ok (.getfield 235, 3) := by decide +kernel
theorem dX5_sights_111 : decode cX5_sights 111 = .ok (.goto 7, 3) := by decide +kernel
theorem dX5_sights_114 : decode cX5_sights 114 = .ok (.aload_n 0, 1) := by decide +kernel
theorem dX5_sights_115 : decode cX5_sights 115 = .ok (.getfield 238, 3) := by decide +kernel
theorem dX5_sights_118 : decode cX5_sights 118 = .ok (.ireturn, 1) := by decide +kernel
theorem dX5_fair_0 : decode cX5_fair 0 = .ok (.aload_n 0, 1) := by decide +kernel
theorem dX5_fair_1 : decode cX5_fair 1 = .ok (.iconst 0, 1) := by decide +kernel
theorem dX5_fair_2 : decode cX5_fair 2 = .ok (.putfield 47, 3) := by decide +kernel
theorem dX5_fair_5 : decode cX5_fair 5 = .ok (.aload_n 0, 1) := by decide +kernel
theorem dX5_fair_6 : decode cX5_fair 6 = .ok (.invokevirtual 177, 3) := by decide +kernel
theorem dX5_fair_9 : decode cX5_fair 9 = .ok (.ifCond .ne 7, 3) := by decide +kernel
theorem dX5_fair_12 : decode cX5_fair 12 = .ok (.ldc2_w 255, 3) := by decide +kernel
theorem dX5_fair_15 : decode cX5_fair 15 = .ok (.lreturn, 1) := by decide +kernel
theorem dX5_fair_16 : decode cX5_fair 16 = .ok (.iload_n 1, 1) := by decide +kernel
theorem dX5_fair_17 : decode cX5_fair 17 = .ok (.i2l, 1) := by decide +kernel
theorem dX5_fair_18 : decode cX5_fair 18 = .ok (.lconst 0, 1) := by decide +kernel
theorem dX5_fair_19 : decode cX5_fair 19 = .ok (.ldc2_w 190, 3) := by decide +kernel
theorem dX5_fair_22 : decode cX5_fair 22 = .ok (.invokestatic 57, 3) := by decide +kernel
theorem dX5_fair_25 : decode cX5_fair 25 = .ok (.ifCond .eq 25, 3) := by decide +kernel
theorem dX5_fair_28 : decode cX5_fair 28 = .ok (.iload_n 2, 1) := by decide +kernel
theorem dX5_fair_29 : decode cX5_fair 29 = .ok (.i2l, 1) := by decide +kernel
theorem dX5_fair_30 : decode cX5_fair 30 = .ok (.lconst 0, 1) := by decide +kernel
theorem dX5_fair_31 : decode cX5_fair 31 = .ok (.ldc2_w 257, 3) := by decide +kernel
theorem dX5_fair_34 : decode cX5_fair 34 = .ok (.invokestatic 57, 3) := by decide +kernel
theorem dX5_fair_37 : decode cX5_fair 37 = .ok (.ifCond .eq 13, 3) := by decide +kernel
theorem dX5_fair_40 : decode cX5_fair 40 = .ok (.iload_n 3, 1) := by decide +kernel
theorem dX5_fair_41 : decode cX5_fair 41 = .ok (.i2l, 1) := by decide +kernel
theorem dX5_fair_42 : decode cX5_fair 42 = .ok (.lconst 0, 1) := by decide +kernel
theorem dX5_fair_43 : decode cX5_fair 43 = .ok (.lconst 1, 1) := by decide +kernel
theorem dX5_fair_44 : decode cX5_fair 44 = .ok (.invokestatic 57, 3) := by decide +kernel
theorem dX5_fair_47 : decode cX5_fair 47 = .ok (.ifCond .ne 7, 3) := by decide +kernel
theorem dX5_fair_50 : decode cX5_fair 50 = .ok (.ldc2_w 259, 3) := by decide +kernel
theorem dX5_fair_53 : decode cX5_fair 53 = .ok (.lreturn, 1) := by decide +kernel
theorem dX5_fair_54 : decode cX5_fair 54 = .ok (.lconst 0, 1) := by decide +kernel
theorem dX5_fair_55 : decode cX5_fair 55 = .ok (.lstore 4, 2) := by decide +kernel
theorem dX5_fair_57 : decode cX5_fair 57 = .ok (.lconst 0, 1) := by decide +kernel
theorem dX5_fair_58 : decode cX5_fair 58 = .ok (.lstore 6, 2) := by decide +kernel
theorem dX5_fair_60 : decode cX5_fair 60 = .ok (.iconst 0, 1) := by decide +kernel
theorem dX5_fair_61 : decode cX5_fair 61 = .ok (.istore 8, 2) := by decide +kernel
theorem dX5_fair_63 : decode cX5_fair 63 = .ok (.iload 8, 2) := by decide +kernel
theorem dX5_fair_65 : decode cX5_fair 65 = .ok (.iconst 1, 1) := by decide +kernel
theorem dX5_fair_66 : decode cX5_fair 66 = .ok (.aload_n 0, 1) := by decide +kernel
theorem dX5_fair_67 : decode cX5_fair 67 = .ok (.getfield 19, 3) := by decide +kernel
theorem dX5_fair_70 : decode cX5_fair 70 = .ok (.iconst 1, 1) := by decide +kernel
theorem dX5_fair_71 : decode cX5_fair 71 = .ok (.iaload, 1) := by decide +kernel
theorem dX5_fair_72 : decode cX5_fair 72 = .ok (.ishl, 1) := by decide +kernel
theorem dX5_fair_73 : decode cX5_fair 73 = .ok (.if_icmp .ge 132, 3) := by decide +kernel
theorem dX5_fair_76 : decode cX5_fair 76 = .ok (.lconst 1, 1) := by decide +kernel
theorem dX5_fair_77 : decode cX5_fair 77 = .ok (.lstore 9, 2) := by decide +kernel
theorem dX5_fair_79 : decode cX5_fair 79 = .ok (.aload_n 0, 1) := by decide +kernel
theorem dX5_fair_80 : decode cX5_fair 80 = .ok (.invokevirtual 209, 3) := by decide +kernel
theorem dX5_fair_83 : decode cX5_fair 83 = .ok (.iconst 0, 1) := by decide +kernel
theorem dX5_fair_84 : decode cX5_fair 84 = .ok (.istore 11, 2) := by decide +kernel
theorem dX5_fair_86 : decode cX5_fair 86 = .ok (.iload 11, 2) := by decide +kernel
theorem dX5_fair_88 : decode cX5_fair 88 = .ok (.aload_n 0, 1) := by decide +kernel
theorem dX5_fair_89 : decode cX5_fair 89 = .ok (.getfield 19, 3) := by decide +kernel
theorem dX5_fair_92 : decode cX5_fair 92 = .ok (.iconst 1, 1) := by decide +kernel
theorem dX5_fair_93 : decode cX5_fair 93 = .ok (.iaload, 1) := by decide +kernel
theorem dX5_fair_94 : decode cX5_fair 94 = .ok (.if_icmp .ge 69, 3) := by decide +kernel
theorem dX5_fair_97 : decode cX5_fair 97 = .ok (.lload 9, 2) := by decide +kernel
theorem dX5_fair_99 : decode cX5_fair 99 = .ok (.iload 8, 2) := by decide +kernel
theorem dX5_fair_101 : decode cX5_fair 101 = .ok (.iload 11, 2) := by decide +kernel
theorem dX5_fair_103 : decode cX5_fair 103 = .ok (.invokestatic 163, 3) := by decide +kernel
theorem dX5_fair_106 : decode cX5_fair 106 = .ok (.ifCond .eq 8, 3) := by decide +kernel
theorem dX5_fair_109 : decode cX5_fair 109 = .ok (.iload_n 2, 1) := by decide +kernel
theorem dX5_fair_110 : decode cX5_fair 110 = .ok (.i2l, 1) := by decide +kernel
theorem dX5_fair_111 : decode cX5_fair 111 = .ok (.goto 9, 3) := by decide +kernel
theorem dX5_fair_114 : decode cX5_fair 114 = .ok (.ldc2_w 257, 3) := by decide +kernel
theorem dX5_fair_117 : decode cX5_fair 117 = .ok (.iload_n 2, 1) := by decide +kernel
theorem dX5_fair_118 : decode cX5_fair 118 = .ok (.i2l, 1) := by decide +kernel
theorem dX5_fair_119 : decode cX5_fair 119 = .ok (.lsub, 1) := by decide +kernel
theorem dX5_fair_120 : decode cX5_fair 120 = .ok (.lmul, 1) := by decide +kernel
theorem dX5_fair_121 : decode cX5_fair 121 = .ok (.lstore 9, 2) := by decide +kernel
theorem dX5_fair_123 : decode cX5_fair 123 = .ok (.aload_n 0, 1) := by decide +kernel
theorem dX5_fair_124 : decode cX5_fair 124 = .ok (.getfield 25, 3) := by decide +kernel
theorem dX5_fair_127 : decode cX5_fair 127 = .ok (.bipush 6, 2) := by decide +kernel
theorem dX5_fair_129 : decode cX5_fair 129 = .ok (.iload 11, 2) := by decide +kernel
theorem dX5_fair_131 : decode cX5_fair 131 = .ok (.iadd, 1) := by decide +kernel
theorem dX5_fair_132 : decode cX5_fair 132 = .ok (.iload 8, 2) := by decide +kernel
theorem dX5_fair_134 : decode cX5_fair 134 = .ok (.iload 11, 2) := by decide +kernel
theorem dX5_fair_136 : decode cX5_fair 136 = .ok (.invokestatic 163, 3) := by decide +kernel
theorem dX5_fair_139 : decode cX5_fair 139 = .ok (.ifCond .eq 7, 3) := by decide +kernel
theorem dX5_fair_142 : decode cX5_fair 142 = .ok (.iconst 0, 1) := by decide +kernel
theorem dX5_fair_143 : decode cX5_fair 143 = .ok (.goto 13, 3) := by decide +kernel
theorem dX5_fair_146 : decode cX5_fair 146 = .ok (.aload_n 0, 1) := by decide +kernel
theorem dX5_fair_147 : decode cX5_fair 147 = .ok (.getfield 19, 3) := by decide +kernel
theorem dX5_fair_150 : decode cX5_fair 150 = .ok (.bipush 6, 2) := by decide +kernel
theorem dX5_fair_152 : decode cX5_fair 152 = .ok (.iload 11, 2) := by decide +kernel
theorem dX5_fair_154 : decode cX5_fair 154 = .ok (.iadd, 1) := by decide +kernel
theorem dX5_fair_155 : decode cX5_fair 155 = .ok (.iaload, 1) := by decide +kernel
theorem dX5_fair_156 : decode cX5_fair 156 = .ok (.iastore, 1) := by decide +kernel
theorem dX5_fair_157 : decode cX5_fair 157 = .ok (.iinc 11 1, 3) := by decide +kernel
theorem dX5_fair_160 : decode cX5_fair 160 = .ok (.goto (-74), 3) := by decide +kernel
theorem dX5_fair_163 : decode cX5_fair 163 = .ok (.aload_n 0, 1) := by decide +kernel
theorem dX5_fair_164 : decode cX5_fair 164 = .ok (.getfield 25, 3) := by decide +kernel
theorem dX5_fair_167 : decode cX5_fair 167 = .ok (.iload_n 1, 1) := by decide +kernel
theorem dX5_fair_168 : decode cX5_fair 168 = .ok (.invokestatic 212, 3) := by decide +kernel
theorem dX5_fair_171 : decode cX5_fair 171 = .ok (.lload 6, 2) := by decide +kernel
theorem dX5_fair_173 : decode cX5_fair 173 = .ok (.lload 9, 2) := by decide +kernel
theorem dX5_fair_175 : decode cX5_fair 175 = .ok (.ladd, 1) := by decide +kernel
theorem dX5_fair_176 : decode cX5_fair 176 = .ok (.lstore 6, 2) := by decide +kernel
theorem dX5_fair_178 : decode cX5_fair 178 = .ok (.lload 4, 2) := by decide +kernel
theorem dX5_fair_180 : decode cX5_fair 180 = .ok (.aload_n 0, 1) := by decide +kernel
theorem dX5_fair_181 : decode cX5_fair 181 = .ok (.getfield 25, 3) := by decide +kernel
theorem dX5_fair_184 : decode cX5_fair 184 = .ok (.invokestatic 186, 3) := by decide +kernel
theorem dX5_fair_187 : decode cX5_fair 187 = .ok (.ifCond .ne 8, 3) := by decide +kernel
theorem dX5_fair_190 : decode cX5_fair 190 = .ok (.lload 9, 2) := by decide +kernel
theorem dX5_fair_192 : decode cX5_fair 192 = .ok (.goto 4, 3) := by decide +kernel
theorem dX5_fair_195 : decode cX5_fair 195 = .ok (.lconst 0, 1) := by decide +kernel
theorem dX5_fair_196 : decode cX5_fair 196 = .ok (.ladd, 1) := by decide +kernel
theorem dX5_fair_197 : decode cX5_fair 197 = .ok (.lstore 4, 2) := by decide +kernel
theorem dX5_fair_199 : decode cX5_fair 199 = .ok (.iinc 8 1, 3) := by decide +kernel
theorem dX5_fair_202 : decode cX5_fair 202 = .ok (.goto (-139), 3) := by decide +kernel
theorem dX5_fair_205 : decode cX5_fair 205 = .ok (.lload 4, 2) := by decide +kernel
theorem dX5_fair_207 : decode cX5_fair 207 = .ok (.lstore 8, 2) := by decide +kernel
theorem dX5_fair_209 : decode cX5_fair 209 = .ok (.lload 6, 2) := by decide +kernel
theorem dX5_fair_211 : decode cX5_fair 211 = .ok (.lstore 10, 2) := by decide +kernel
theorem dX5_fair_213 : decode cX5_fair 213 = .ok (.lload 10, 2) := by decide +kernel
theorem dX5_fair_215 : decode cX5_fair 215 = .ok (.lconst 0, 1) := by decide +kernel
theorem dX5_fair_216 : decode cX5_fair 216 = .ok (.lcmp, 1) := by decide +kernel
theorem dX5_fair_217 : decode cX5_fair 217 = .ok (.ifCond .eq 21, 3) := by decide +kernel
theorem dX5_fair_220 : decode cX5_fair 220 = .ok (.lload 8, 2) := by decide +kernel
theorem dX5_fair_222 : decode cX5_fair 222 = .ok (.lload 10, 2) := by decide +kernel
theorem dX5_fair_224 : decode cX5_fair 224 = .ok (.lrem, 1) := by decide +kernel
theorem dX5_fair_225 : decode cX5_fair 225 = .ok (.lstore 12, 2) := by decide +kernel
theorem dX5_fair_227 : decode cX5_fair 227 = .ok (.lload 10, 2) := by decide +kernel
theorem dX5_fair_229 : decode cX5_fair 229 = .ok (.lstore 8, 2) := by decide +kernel
theorem dX5_fair_231 : decode cX5_fair 231 = .ok (.lload 12, 2) := by decide +kernel
theorem dX5_fair_233 : decode cX5_fair 233 = .ok (.lstore 10, 2) := by decide +kernel
theorem dX5_fair_235 : decode cX5_fair 235 = .ok (.goto (-22), 3) := by decide +kernel
theorem dX5_fair_238 : decode cX5_fair 238 = .ok (.iload_n 3, 1) := by decide +kernel
theorem dX5_fair_239 : decode cX5_fair 239 = .ok (.ifCond .ne 8, 3) := by decide +kernel
theorem dX5_fair_242 : decode cX5_fair 242 = .ok (.lload 4, 2) := by decide +kernel
theorem dX5_fair_244 : decode cX5_fair 244 = .ok (.goto 5, 3) := by decide +kernel
theorem dX5_fair_247 : decode cX5_fair 247 = .ok (.lload 6, 2) := by decide +kernel
theorem dX5_fair_249 : decode cX5_fair 249 = .ok (.lload 8, 2) := by decide +kernel
theorem dX5_fair_251 : decode cX5_fair 251 = .ok (.ldiv, 1) := by decide +kernel
theorem dX5_fair_252 : decode cX5_fair 252 = .ok (.lreturn, 1) := by decide +kernel
theorem dX5_drawn_0 : decode cX5_drawn 0 = .ok (.aload_n 0, 1) := by decide +kernel
theorem dX5_drawn_1 : decode cX5_drawn 1 = .ok (.iconst 0, 1) := by decide +kernel
theorem dX5_drawn_2 : decode cX5_drawn 2 = .ok (.putfield 47, 3) := by decide +kernel
theorem dX5_drawn_5 : decode cX5_drawn 5 = .ok (.aload_n 0, 1) := by decide +kernel
theorem dX5_drawn_6 : decode cX5_drawn 6 = .ok (.invokevirtual 177, 3) := by decide +kernel
theorem dX5_drawn_9 : decode cX5_drawn 9 = .ok (.ifCond .ne 6, 3) := by decide +kernel
theorem dX5_drawn_12 : decode cX5_drawn 12 = .ok (.ldc 180, 2) := by decide +kernel
theorem dX5_drawn_14 : decode cX5_drawn 14 = .ok (.ireturn, 1) := by decide +kernel
theorem dX5_drawn_15 : decode cX5_drawn 15 = .ok (.iload_n 1, 1) := by decide +kernel
theorem dX5_drawn_16 : decode cX5_drawn 16 = .ok (.i2l, 1) := by decide +kernel
theorem dX5_drawn_17 : decode cX5_drawn 17 = .ok (.lconst 0, 1) := by decide +kernel
theorem dX5_drawn_18 : decode cX5_drawn 18 = .ok (.ldc2_w 190, 3) := by decide +kernel
theorem dX5_drawn_21 : decode cX5_drawn 21 = .ok (.invokestatic 57, 3) := by decide +kernel
theorem dX5_drawn_24 : decode cX5_drawn 24 = .ok (.ifCond .eq 25, 3) := by decide +kernel
theorem dX5_drawn_27 : decode cX5_drawn 27 = .ok (.iload_n 2, 1) := by decide +kernel
theorem dX5_drawn_28 : decode cX5_drawn 28 = .ok (.i2l, 1) := by decide +kernel
theorem dX5_drawn_29 : decode cX5_drawn 29 = .ok (.lconst 1, 1) := by decide +kernel
theorem dX5_drawn_30 : decode cX5_drawn 30 = .ok (.ldc2_w 261, 3) := by decide +kernel
theorem dX5_drawn_33 : decode cX5_drawn 33 = .ok (.invokestatic 57, 3) := by decide +kernel
theorem dX5_drawn_36 : decode cX5_drawn 36 = .ok (.ifCond .eq 13, 3) := by decide +kernel
theorem dX5_drawn_39 : decode cX5_drawn 39 = .ok (.iload_n 3, 1) := by decide +kernel
theorem dX5_drawn_40 : decode cX5_drawn 40 = .ok (.i2l, 1) := by decide +kernel
theorem dX5_drawn_41 : decode cX5_drawn 41 = .ok (.lconst 0, 1) := by decide +kernel
theorem dX5_drawn_42 : decode cX5_drawn 42 = .ok (.lconst 1, 1) := by decide +kernel
theorem dX5_drawn_43 : decode cX5_drawn 43 = .ok (.invokestatic 57, 3) := by decide +kernel
theorem dX5_drawn_46 : decode cX5_drawn 46 = .ok (.ifCond .ne 6, 3) := by decide +kernel
theorem dX5_drawn_49 : decode cX5_drawn 49 = .ok (.ldc 67, 2) := by decide +kernel
theorem dX5_drawn_51 : decode cX5_drawn 51 = .ok (.ireturn, 1) := by decide +kernel
theorem dX5_drawn_52 : decode cX5_drawn 52 = .ok (.aload_n 0, 1) := by decide +kernel
theorem dX5_drawn_53 : decode cX5_drawn 53 = .ok (.invokevirtual 209, 3) := by decide +kernel
theorem dX5_drawn_56 : decode cX5_drawn 56 = .ok (.iload_n 2, 1) := by decide +kernel
theorem dX5_drawn_57 : decode cX5_drawn 57 = .ok (.i2l, 1) := by decide +kernel
theorem dX5_drawn_58 : decode cX5_drawn 58 = .ok (.lstore 4, 2) := by decide +kernel
theorem dX5_drawn_60 : decode cX5_drawn 60 = .ok (.iconst 0, 1) := by decide +kernel
theorem dX5_drawn_61 : decode cX5_drawn 61 = .ok (.istore 6, 2) := by decide +kernel
theorem dX5_drawn_63 : decode cX5_drawn 63 = .ok (.iconst 0, 1) := by decide +kernel
theorem dX5_drawn_64 : decode cX5_drawn 64 = .ok (.istore 7, 2) := by decide +kernel
theorem dX5_drawn_66 : decode cX5_drawn 66 = .ok (.iload 7, 2) := by decide +kernel
theorem dX5_drawn_68 : decode cX5_drawn 68 = .ok (.iload_n 1, 1) := by decide +kernel
theorem dX5_drawn_69 : decode cX5_drawn 69 = .ok (.if_icmp .ge 146, 3) := by decide +kernel
theorem dX5_drawn_72 : decode cX5_drawn 72 = .ok (.lload 4, 2) := by decide +kernel
theorem dX5_drawn_74 : decode cX5_drawn 74 = .ok (.ldc2_w 263, 3) := by decide +kernel
theorem dX5_drawn_77 : decode cX5_drawn 77 = .ok (.lmul, 1) := by decide +kernel
theorem dX5_drawn_78 : decode cX5_drawn 78 = .ok (.ldc2_w 265, 3) := by decide +kernel
theorem dX5_drawn_81 : decode cX5_drawn 81 = .ok (.lrem, 1) := by decide +kernel
theorem dX5_drawn_82 : decode cX5_drawn 82 = .ok (.lstore 4, 2) := by decide +kernel
theorem dX5_drawn_84 : decode cX5_drawn 84 = .ok (.lload 4, 2) := by decide +kernel
theorem dX5_drawn_86 : decode cX5_drawn 86 = .ok (.ldc2_w 215, 3) := by decide +kernel
theorem dX5_drawn_89 : decode cX5_drawn 89 = .ok (.lrem, 1) := by decide +kernel
theorem dX5_drawn_90 : decode cX5_drawn 90 = .ok (.lconst 0, 1) := by decide +kernel
theorem dX5_drawn_91 : decode cX5_drawn 91 = .ok (.lcmp, 1) := by decide +kernel
theorem dX5_drawn_92 : decode cX5_drawn 92 = .ok (.ifCond .ne 29, 3) := by decide +kernel
theorem dX5_drawn_95 : decode cX5_drawn 95 = .ok (.aload_n 0, 1) := by decide +kernel
theorem dX5_drawn_96 : decode cX5_drawn 96 = .ok (.getfield 25, 3) := by decide +kernel
theorem dX5_drawn_99 : decode cX5_drawn 99 = .ok (.bipush 6, 2) := by decide +kernel
theorem dX5_drawn_101 : decode cX5_drawn 101 = .ok (.lload 4, 2) := by decide +kernel
theorem dX5_drawn_103 : decode cX5_drawn 103 = .ok (.aload_n 0, 1) := by decide +kernel
theorem dX5_drawn_104 : decode cX5_drawn 104 = .ok (.getfield 25, 3) := by decide +kernel
theorem dX5_drawn_107 : decode cX5_drawn 107 = .ok (.iconst 1, 1) := by decide +kernel
theorem dX5_drawn_108 : decode cX5_drawn 108 = .ok (.iaload, 1) := by decide +kernel
theorem dX5_drawn_109 : decode cX5_drawn 109 = .ok (.i2l, 1) := by decide +kernel
theorem dX5_drawn_110 : decode cX5_drawn 110 = .ok (.lrem, 1) := by decide +kernel
theorem dX5_drawn_111 : decode cX5_drawn 111 = .ok (.l2i, 1) := by decide +kernel
theorem dX5_drawn_112 : decode cX5_drawn 112 = .ok (.iadd, 1) := by decide +kernel
theorem dX5_drawn_113 : decode cX5_drawn 113 = .ok (.lload 4, 2) := by decide +kernel
theorem dX5_drawn_115 : decode cX5_drawn 115 = .ok (.ldc2_w 257, 3) := by decide +kernel
theorem dX5_drawn_118 : decode cX5_drawn 118 = .ok (.lrem, 1) := by decide +kernel
theorem dX5_drawn_119 : decode cX5_drawn 119 = .ok (.l2i, 1) := by decide +kernel
theorem dX5_drawn_120 : decode cX5_drawn 120 = .ok (.iastore, 1) := by decide +kernel
theorem dX5_drawn_121 : decode cX5_drawn 121 = .ok (.lload 4, 2) := by decide +kernel
theorem dX5_drawn_123 : decode cX5_drawn 123 = .ok (.aload_n 0, 1) := by decide +kernel
theorem dX5_drawn_124 : decode cX5_drawn 124 = .ok (.getfield 25, 3) := by decide +kernel
theorem dX5_drawn_127 : decode cX5_drawn 127 = .ok (.iconst 0, 1) := by decide +kernel
theorem dX5_drawn_128 : decode cX5_drawn 128 = .ok (.iaload, 1) := by decide +kernel
theorem dX5_drawn_129 : decode cX5_drawn 129 = .ok (.i2l, 1) := by decide +kernel
theorem dX5_drawn_130 : decode cX5_drawn 130 = .ok (.lrem, 1) := by decide +kernel
theorem dX5_drawn_131 : decode cX5_drawn 131 = .ok (.l2i, 1) := by decide +kernel
theorem dX5_drawn_132 : decode cX5_drawn 132 = .ok (.istore 8, 2) := by decide +kernel
theorem dX5_drawn_134 : decode cX5_drawn 134 = .ok (.aload_n 0, 1) := by decide +kernel
theorem dX5_drawn_135 : decode cX5_drawn 135 = .ok (.getfield 25, 3) := by decide +kernel
theorem dX5_drawn_138 : decode cX5_drawn 138 = .ok (.iload 8, 2) := by decide +kernel
theorem dX5_drawn_140 : decode cX5_drawn 140 = .ok (.iconst 1, 1) := by decide +kernel
theorem dX5_drawn_141 : decode cX5_drawn 141 = .ok (.invokestatic 152, 3) := by decide +kernel
theorem dX5_drawn_144 : decode cX5_drawn 144 = .ok (.ifCond .ne 25, 3) := by decide +kernel
theorem dX5_drawn_147 : decode cX5_drawn 147 = .ok (.aload_n 0, 1) := by decide +kernel
theorem dX5_drawn_148 : decode cX5_drawn 148 = .ok (.getfield 25, 3) := by decide +kernel
theorem dX5_drawn_151 : decode cX5_drawn 151 = .ok (.bipush 12, 2) := by decide +kernel
theorem dX5_drawn_153 : decode cX5_drawn 153 = .ok (.iconst 2, 1) := by decide +kernel
theorem dX5_drawn_154 : decode cX5_drawn 154 = .ok (.iload 8, 2) := by decide +kernel
theorem dX5_drawn_156 : decode cX5_drawn 156 = .ok (.imul, 1) := by decide +kernel
theorem dX5_drawn_157 : decode cX5_drawn 157 = .ok (.iadd, 1) := by decide +kernel
theorem dX5_drawn_158 : decode cX5_drawn 158 = .ok (.iconst 1, 1) := by decide +kernel
theorem dX5_drawn_159 : decode cX5_drawn 159 = .ok (.iadd, 1) := by decide +kernel
theorem dX5_drawn_160 : decode cX5_drawn 160 = .ok (.aload_n 0, 1) := by decide +kernel
theorem dX5_drawn_161 : decode cX5_drawn 161 = .ok (.getfield 25, 3) := by decide +kernel
theorem dX5_drawn_164 : decode cX5_drawn 164 = .ok (.iconst 2, 1) := by decide +kernel
theorem dX5_drawn_165 : decode cX5_drawn 165 = .ok (.iaload, 1) := by decide +kernel
theorem dX5_drawn_166 : decode cX5_drawn 166 = .ok (.iconst 1, 1) := by decide +kernel
theorem dX5_drawn_167 : decode cX5_drawn 167 = .ok (.isub, 1) := by decide +kernel
theorem dX5_drawn_168 : decode cX5_drawn 168 = .ok (.iastore, 1) := by decide +kernel
theorem dX5_drawn_169 : decode cX5_drawn 169 = .ok (.aload_n 0, 1) := by decide +kernel
theorem dX5_drawn_170 : decode cX5_drawn 170 = .ok (.getfield 25, 3) := by decide +kernel
theorem dX5_drawn_173 : decode cX5_drawn 173 = .ok (.iconst 4, 1) := by decide +kernel
theorem dX5_drawn_174 : decode cX5_drawn 174 = .ok (.iaload, 1) := by decide +kernel
theorem dX5_drawn_175 : decode cX5_drawn 175 = .ok (.ifCond .ne 12, 3) := by decide +kernel
theorem dX5_drawn_178 : decode cX5_drawn 178 = .ok (.aload_n 0, 1) := by decide +kernel
theorem dX5_drawn_179 : decode cX5_drawn 179 = .ok (.getfield 25, 3) := by decide +kernel
theorem dX5_drawn_182 : decode cX5_drawn 182 = .ok (.bipush 9, 2) := by decide +kernel
theorem dX5_drawn_184 : decode cX5_drawn 184 = .ok (.invokestatic 192, 3) := by decide +kernel
theorem dX5_drawn_187 : decode cX5_drawn 187 = .ok (.aload_n 0, 1) := by decide +kernel
theorem dX5_drawn_188 : decode cX5_drawn 188 = .ok (.getfield 25, 3) := by decide +kernel
theorem dX5_drawn_191 : decode cX5_drawn 191 = .ok (.invokestatic 173, 3) := by decide +kernel
theorem dX5_drawn_194 : decode cX5_drawn 194 = .ok (.iload 6, 2) := by decide +kernel
theorem dX5_drawn_196 : decode cX5_drawn 196 = .ok (.aload_n 0, 1) := by decide +kernel
theorem dX5_drawn_197 : decode cX5_drawn 197 = .ok (.getfield 25, 3) := by decide +kernel
theorem dX5_drawn_200 : decode cX5_drawn 200 = .ok (.invokestatic 186, 3) := by decide +kernel
theorem dX5_drawn_203 : decode cX5_drawn 203 = .ok (.invokestatic 219, 3) := by decide +kernel
theorem dX5_drawn_206 : decode cX5_drawn 206 = .ok (.iadd, 1) := by decide +kernel
theorem dX5_drawn_207 : decode cX5_drawn 207 = .ok (.istore 6, 2) := by decide +kernel
theorem dX5_drawn_209 : decode cX5_drawn 209 = .ok (.iinc 7 1, 3) := by decide +kernel
theorem dX5_drawn_212 : decode cX5_drawn 212 = .ok (.goto (-146), 3) := by decide +kernel
theorem dX5_drawn_215 : decode cX5_drawn 215 = .ok (.iload_n 3, 1) := by decide +kernel
theorem dX5_drawn_216 : decode cX5_drawn 216 = .ok (.ifCond .ne 8, 3) := by decide +kernel
theorem dX5_drawn_219 : decode cX5_drawn 219 = .ok (.iload 6, 2) := by decide +kernel
theorem dX5_drawn_221 : decode cX5_drawn 221 = .ok (.goto 9, 3) := by decide +kernel
theorem dX5_drawn_224 : decode cX5_drawn 224 = .ok (.aload_n 0, 1) := by decide +kernel
theorem dX5_drawn_225 : decode cX5_drawn 225 = .ok (.getfield 25, 3) := by decide +kernel
theorem dX5_drawn_228 : decode cX5_drawn 228 = .ok (.iconst 4, 1) := by decide +kernel
theorem dX5_drawn_229 : decode cX5_drawn 229 = .ok (.iaload, 1) := by decide +kernel
theorem dX5_drawn_230 : decode cX5_drawn 230 = .ok (.ireturn, 1) := by decide +kernel
theorem dX5_image_0 : decode cX5_image 0 = .ok (.aload_n 0, 1) := by decide +kernel
theorem dX5_image_1 : decode cX5_image 1 = .ok (.iconst 0, 1) := by decide +kernel
theorem dX5_image_2 : decode cX5_image 2 = .ok (.putfield 47, 3) := by decide +kernel
theorem dX5_image_5 : decode cX5_image 5 = .ok (.iload_n 1, 1) := by decide +kernel
theorem dX5_image_6 : decode cX5_image 6 = .ok (.i2l, 1) := by decide +kernel
theorem dX5_image_7 : decode cX5_image 7 = .ok (.lconst 0, 1) := by decide +kernel
theorem dX5_image_8 : decode cX5_image 8 = .ok (.lconst 1, 1) := by decide +kernel
theorem dX5_image_9 : decode cX5_image 9 = .ok (.invokestatic 57, 3) := by decide +kernel
theorem dX5_image_12 : decode cX5_image 12 = .ok (.ifCond .ne 6, 3) := by decide +kernel
theorem dX5_image_15 : decode cX5_image 15 = .ok (.ldc 67, 2) := by decide +kernel
theorem dX5_image_17 : decode cX5_image 17 = .ok (.ireturn, 1) := by decide +kernel
theorem dX5_image_18 : decode cX5_image 18 = .ok (.aload_n 0, 1) := by decide +kernel
theorem dX5_image_19 : decode cX5_image 19 = .ok (.invokevirtual 177, 3) := by decide +kernel
theorem dX5_image_22 : decode cX5_image 22 = .ok (.ifCond .ne 6, 3) := by decide +kernel
theorem dX5_image_25 : decode cX5_image 25 = .ok (.ldc 180, 2) := by decide +kernel
theorem dX5_image_27 : decode cX5_image 27 = .ok (.ireturn, 1) := by decide +kernel
theorem dX5_image_28 : decode cX5_image 28 = .ok (.iconst 0, 1) := by decide +kernel
theorem dX5_image_29 : decode cX5_image 29 = .ok (.istore_n 2, 1) := by decide +kernel
theorem dX5_image_30 : decode cX5_image 30 = .ok (.iload_n 2, 1) := by decide +kernel
theorem dX5_image_31 : decode cX5_image 31 = .ok (.bipush 24, 2) := by decide +kernel
theorem dX5_image_33 : decode cX5_image 33 = .ok (.if_icmp .ge 26, 3) := by decide +kernel
theorem dX5_image_36 : decode cX5_image 36 = .ok (.aload_n 0, 1) := by decide +kernel
theorem dX5_image_37 : decode cX5_image 37 = .ok (.getfield 41, 3) := by decide +kernel
theorem dX5_image_40 : decode cX5_image 40 = .ok (.bipush 24, 2) := by decide +kernel
theorem dX5_image_42 : decode cX5_image 42 = .ok (.iload_n 1, 1) := by decide +kernel
theorem dX5_image_43 : decode cX5_image 43 = .ok (.imul, 1) := by decide +kernel
theorem dX5_image_44 : decode cX5_image 44 = .ok (.iload_n 2, 1) := by decide +kernel
theorem dX5_image_45 : decode cX5_image 45 = .ok (.iadd, 1) := by decide +kernel
theorem dX5_image_46 : decode cX5_image 46 = .ok (.aload_n 0, 1) := by decide +kernel
theorem dX5_image_47 : decode cX5_image 47 = .ok (.getfield 19, 3) := by decide +kernel
theorem dX5_image_50 : decode cX5_image 50 = .ok (.iload_n 2, 1) := by decide +kernel
theorem dX5_image_51 : decode cX5_image 51 = .ok (.iaload, 1) := by decide +kernel
theorem dX5_image_52 : decode cX5_image 52 = .ok (.iastore, 1) := by decide +kernel
theorem dX5_image_53 : decode cX5_image 53 = .ok (.iinc 2 1, 3) := by decide +kernel
theorem dX5_image_56 : decode cX5_image 56 = .ok (.goto (-26), 3) := by decide +kernel
theorem dX5_image_59 : decode cX5_image 59 = .ok (.aload_n 0, 1) := by decide +kernel
theorem dX5_image_60 : decode cX5_image 60 = .ok (.getfield 37, 3) := by decide +kernel
theorem dX5_image_63 : decode cX5_image 63 = .ok (.iload_n 1, 1) := by decide +kernel
theorem dX5_image_64 : decode cX5_image 64 = .ok (.iconst 1, 1) := by decide +kernel
theorem dX5_image_65 : decode cX5_image 65 = .ok (.bastore, 1) := by decide +kernel
theorem dX5_image_66 : decode cX5_image 66 = .ok (.iconst 1, 1) := by decide +kernel
theorem dX5_image_67 : decode cX5_image 67 = .ok (.ireturn, 1) := by decide +kernel
theorem dX5_restore_0 : decode cX5_restore 0 = .ok (.aload_n 0, 1) := by decide +kernel
theorem dX5_restore_1 : decode cX5_restore 1 = .ok (.iconst 0, 1) := by decide +kernel
theorem dX5_restore_2 : decode cX5_restore 2 = .ok (.putfield 47, 3) := by decide +kernel
theorem dX5_restore_5 : decode cX5_restore 5 = .ok (.iload_n 1, 1) := by decide +kernel
theorem dX5_restore_6 : decode cX5_restore 6 = .ok (.i2l, 1) := by decide +kernel
theorem dX5_restore_7 : decode cX5_restore 7 = .ok (.lconst 0, 1) := by decide +kernel
theorem dX5_restore_8 : decode cX5_restore 8 = .ok (.lconst 1, 1) := by decide +kernel
theorem dX5_restore_9 : decode cX5_restore 9 = .ok (.invokestatic 57, 3) := by decide +kernel
theorem dX5_restore_12 : decode cX5_restore 12 = .ok (.ifCond .ne 6, 3) := by decide +kernel
theorem dX5_restore_15 : decode cX5_restore 15 = .ok (.ldc 67, 2) := by decide +kernel
theorem dX5_restore_17 : decode cX5_restore 17 = .ok (.ireturn, 1) := by decide +kernel
theorem dX5_restore_18 : decode cX5_restore 18 = .ok (.aload_n 0, 1) := by decide +kernel
theorem dX5_restore_19 : decode cX5_restore 19 = .ok (.getfield 37, 3) := by decide +kernel
theorem dX5_restore_22 : decode cX5_restore 22 = .ok (.iload_n 1, 1) := by decide +kernel
theorem dX5_restore_23 : decode cX5_restore 23 = .ok (.baload, 1) := by decide +kernel
theorem dX5_restore_24 : decode cX5_restore 24 = .ok (.ifCond .ne 6, 3) := by decide +kernel
theorem dX5_restore_27 : decode cX5_restore 27 = .ok (.ldc 180, 2) := by decide +kernel
theorem dX5_restore_29 : decode cX5_restore 29 = .ok (.ireturn, 1) := by decide +kernel
theorem dX5_restore_30 : decode cX5_restore 30 = .ok (.iconst 0, 1) := by decide +kernel
theorem dX5_restore_31 : decode cX5_restore 31 = .ok (.istore_n 2, 1) := by decide +kernel
theorem dX5_restore_32 : decode cX5_restore 32 = .ok (.iload_n 2, 1) := by decide +kernel
theorem dX5_restore_33 : decode cX5_restore 33 = .ok (.bipush 24, 2) := by decide +kernel
theorem dX5_restore_35 : decode cX5_restore 35 = .ok (.if_icmp .ge 26, 3) := by decide +kernel
theorem dX5_restore_38 : decode cX5_restore 38 = .ok (.aload_n 0, 1) := by decide +kernel
theorem dX5_restore_39 : decode cX5_restore 39 = .ok (.getfield 19, 3) := by decide +kernel
theorem dX5_restore_42 : decode cX5_restore 42 = .ok (.iload_n 2, 1) := by decide +kernel
theorem dX5_restore_43 : decode cX5_restore 43 = .ok (.aload_n 0, 1) := by decide +kernel
theorem dX5_restore_44 : decode cX5_restore 44 = .ok (.getfield 41, 3) := by decide +kernel
theorem dX5_restore_47 : decode cX5_restore 47 = .ok (.bipush 24, 2) := by decide +kernel
theorem dX5_restore_49 : decode cX5_restore 49 = .ok (.iload_n 1, 1) := by decide +kernel
theorem dX5_restore_50 : decode cX5_restore 50 = .ok (.imul, 1) := by decide +kernel
theorem dX5_restore_51 : decode cX5_restore 51 = .ok (.iload_n 2, 1) := by decide +kernel
theorem dX5_restore_52 : decode cX5_restore 52 = .ok (.iadd, 1) := by decide +kernel
theorem dX5_restore_53 : decode cX5_restore 53 = .ok (.iaload, 1) := by decide +kernel
theorem dX5_restore_54 : decode cX5_restore 54 = .ok (.iastore, 1) := by decide +kernel
theorem dX5_restore_55 : decode cX5_restore 55 = .ok (.iinc 2 1, 3) := by decide +kernel
theorem dX5_restore_58 : decode cX5_restore 58 = .ok (.goto (-26), 3) := by decide +kernel
theorem dX5_restore_61 : decode cX5_restore 61 = .ok (.aload_n 0, 1) := by decide +kernel
theorem dX5_restore_62 : decode cX5_restore 62 = .ok (.iconst 0, 1) := by decide +kernel
theorem dX5_restore_63 : decode cX5_restore 63 = .ok (.putfield 149, 3) := by decide +kernel
theorem dX5_restore_66 : decode cX5_restore 66 = .ok (.iconst 1, 1) := by decide +kernel
theorem dX5_restore_67 : decode cX5_restore 67 = .ok (.ireturn, 1) := by decide +kernel
theorem dX5_isOf_0 : decode cX5_isOf 0 = .ok (.iload_n 1, 1) := by decide +kernel
theorem dX5_isOf_1 : decode cX5_isOf 1 = .ok (.ifCond .eq 28, 3) := by decide +kernel
theorem dX5_isOf_4 : decode cX5_isOf 4 = .ok (.iload_n 0, 1) := by decide +kernel
theorem dX5_isOf_5 : decode cX5_isOf 5 = .ok (.iload_n 1, 1) := by decide +kernel
theorem dX5_isOf_6 : decode cX5_isOf 6 = .ok (.if_icmp .eq 23, 3) := by decide +kernel
theorem dX5_isOf_9 : decode cX5_isOf 9 = .ok (.iload_n 1, 1) := by decide +kernel
theorem dX5_isOf_10 : decode cX5_isOf 10 = .ok (.iconst 1, 1) := by decide +kernel
theorem dX5_isOf_11 : decode cX5_isOf 11 = .ok (.if_icmp .ne 8, 3) := by decide +kernel
theorem dX5_isOf_14 : decode cX5_isOf 14 = .ok (.iload_n 0, 1) := by decide +kernel
theorem dX5_isOf_15 : decode cX5_isOf 15 = .ok (.iconst 4, 1) := by decide +kernel
theorem dX5_isOf_16 : decode cX5_isOf 16 = .ok (.if_icmp .lt 13, 3) := by decide +kernel
theorem dX5_isOf_19 : decode cX5_isOf 19 = .ok (.iload_n 1, 1) := by decide +kernel
theorem dX5_isOf_20 : decode cX5_isOf 20 = .ok (.iconst 4, 1) := by decide +kernel
theorem dX5_isOf_21 : decode cX5_isOf 21 = .ok (.if_icmp .ne 12, 3) := by decide +kernel
theorem dX5_isOf_24 : decode cX5_isOf 24 = .ok (.iload_n 0, 1) := by decide +kernel
theorem dX5_isOf_25 : decode cX5_isOf 25 = .ok (.iconst 5, 1) := by decide +kernel
theorem dX5_isOf_26 : decode cX5_isOf 26 = .ok (.if_icmp .ne 7, 3) := by decide +kernel
theorem dX5_isOf_29 : decode cX5_isOf 29 = .ok (.iconst 1, 1) := by decide +kernel
theorem dX5_isOf_30 : decode cX5_isOf 30 = .ok (.goto 4, 3) := by decide +kernel
theorem dX5_isOf_33 : decode cX5_isOf 33 = .ok (.iconst 0, 1) := by decide +kernel
theorem dX5_isOf_34 : decode cX5_isOf 34 = .ok (.ireturn, 1) := by decide +kernel
theorem dX5_kind_0 : decode cX5_kind 0 = .ok (.aload_n 0, 1) := by decide +kernel
theorem dX5_kind_1 : decode cX5_kind 1 = .ok (.iconst 0, 1) := by decide +kernel
theorem dX5_kind_2 : decode cX5_kind 2 = .ok (.putfield 47, 3) := by decide +kernel
theorem dX5_kind_5 : decode cX5_kind 5 = .ok (.aload_n 0, 1) := by decide +kernel
theorem dX5_kind_6 : decode cX5_kind 6 = .ok (.iload_n 1, 1) := by decide +kernel
theorem dX5_kind_7 : decode cX5_kind 7 = .ok (.invokevirtual 203, 3) := by decide +kernel
theorem dX5_kind_10 : decode cX5_kind 10 = .ok (.ifCond .eq 15, 3) := by decide +kernel
theorem dX5_kind_13 : decode cX5_kind 13 = .ok (.aload_n 0, 1) := by decide +kernel
theorem dX5_kind_14 : decode cX5_kind 14 = .ok (.getfield 19, 3) := by decide +kernel
theorem dX5_kind_17 : decode cX5_kind 17 = .ok (.iload_n 1, 1) := by decide +kernel
theorem dX5_kind_18 : decode cX5_kind 18 = .ok (.iconst 0, 1) := by decide +kernel
theorem dX5_kind_19 : decode cX5_kind 19 = .ok (.invokestatic 152, 3) := by decide +kernel
theorem dX5_kind_22 : decode cX5_kind 22 = .ok (.goto 5, 3) := by decide +kernel
theorem dX5_kind_25 : decode cX5_kind 25 = .ok (.ldc 67, 2) := by decide +kernel
theorem dX5_kind_27 : decode cX5_kind 27 = .ok (.ireturn, 1) := by decide +kernel
theorem dX5_as_0 : decode cX5_as 0 = .ok (.aload_n 0, 1) := by decide +kernel
theorem dX5_as_1 : decode cX5_as 1 = .ok (.iconst 0, 1) := by decide +kernel
theorem dX5_as_2 : decode cX5_as 2 = .ok (.putfield 47, 3) := by decide +kernel
theorem dX5_as_5 : decode cX5_as 5 = .ok (.aload_n 0, 1) := by decide +kernel
theorem dX5_as_6 : decode cX5_as 6 = .ok (.iload_n 1, 1) := by decide +kernel
theorem dX5_as_7 : decode cX5_as 7 = .ok (.invokevirtual 203, 3) := by decide +kernel
theorem dX5_as_10 : decode cX5_as 10 = .ok (.ifCond .eq 15, 3) := by decide +kernel
theorem dX5_as_13 : decode cX5_as 13 = .ok (.iload_n 2, 1) := by decide +kernel
theorem dX5_as_14 : decode cX5_as 14 = .ok (.i2l, 1) := by decide +kernel
theorem dX5_as_15 : decode cX5_as 15 = .ok (.lconst 0, 1) := by decide +kernel
theorem dX5_as_16 : decode cX5_as 16 = .ok (.ldc2_w 267, 3) := by decide +kernel
theorem dX5_as_19 : decode cX5_as 19 = .ok (.invokestatic 57, 3) := by decide +kernel
theorem dX5_as_22 : decode cX5_as 22 = .ok (.ifCond .ne 6, 3) := by decide +kernel
theorem dX5_as_25 : decode cX5_as 25 = .ok (.ldc 67, 2) := by decide +kernel
theorem dX5_as_27 : decode cX5_as 27 = .ok (.ireturn, 1) := by decide +kernel
theorem dX5_as_28 : decode cX5_as 28 = .ok (.aload_n 0, 1) := by decide +kernel
theorem dX5_as_29 : decode cX5_as 29 = .ok (.iconst 0, 1) := by decide +kernel
theorem dX5_as_30 : decode cX5_as 30 = .ok (.putfield 51, 3) := by decide +kernel
theorem dX5_as_33 : decode cX5_as 33 = .ok (.aload_n 0, 1) := by decide +kernel
theorem dX5_as_34 : decode cX5_as 34 = .ok (.getfield 19, 3) := by decide +kernel
theorem dX5_as_37 : decode cX5_as 37 = .ok (.iload_n 1, 1) := by decide +kernel
theorem dX5_as_38 : decode cX5_as 38 = .ok (.iconst 0, 1) := by decide +kernel
theorem dX5_as_39 : decode cX5_as 39 = .ok (.invokestatic 152, 3) := by decide +kernel
theorem dX5_as_42 : decode cX5_as 42 = .ok (.iload_n 2, 1) := by decide +kernel
theorem dX5_as_43 : decode cX5_as 43 = .ok (.invokestatic 269, 3) := by decide +kernel
theorem dX5_as_46 : decode cX5_as 46 = .ok (.ifCond .eq 7, 3) := by decide +kernel
theorem dX5_as_49 : decode cX5_as 49 = .ok (.iload_n 1, 1) := by decide +kernel
theorem dX5_as_50 : decode cX5_as 50 = .ok (.goto 8, 3) := by decide +kernel
theorem dX5_as_53 : decode cX5_as 53 = .ok (.aload_n 0, 1) := by decide +kernel
theorem dX5_as_54 : decode cX5_as 54 = .ok (.iconst 3, 1) := by decide +kernel
theorem dX5_as_55 : decode cX5_as 55 = .ok (.invokevirtual 68, 3) := by decide +kernel
theorem dX5_as_58 : decode cX5_as 58 = .ok (.ireturn, 1) := by decide +kernel
theorem dX5_began_0 : decode cX5_began 0 = .ok (.aload_n 0, 1) := by decide +kernel
theorem dX5_began_1 : decode cX5_began 1 = .ok (.getfield 272, 3) := by decide +kernel
theorem dX5_began_4 : decode cX5_began 4 = .ok (.bipush 16, 2) := by decide +kernel
theorem dX5_began_6 : decode cX5_began 6 = .ok (.if_icmp .ge 23, 3) := by decide +kernel
theorem dX5_began_9 : decode cX5_began 9 = .ok (.aload_n 0, 1) := by decide +kernel
theorem dX5_began_10 : decode cX5_began 10 = .ok (.getfield 44, 3) := by decide +kernel
theorem dX5_began_13 : decode cX5_began 13 = .ok (.aload_n 0, 1) := by decide +kernel
theorem dX5_began_14 : decode cX5_began 14 = .ok (.getfield 272, 3) := by decide +kernel
theorem dX5_began_17 : decode cX5_began 17 = .ok (.iload_n 1, 1) := by decide +kernel
theorem dX5_began_18 : decode cX5_began 18 = .ok (.iastore, 1) := by decide +kernel
theorem dX5_began_19 : decode cX5_began 19 = .ok (.aload_n 0, 1) := by decide +kernel
theorem dX5_began_20 : decode cX5_began 20 = .ok (.dup, 1) := by decide +kernel
theorem dX5_began_21 : decode cX5_began 21 = .ok (.getfield 272, 3) := by decide +kernel
theorem dX5_began_24 : decode cX5_began 24 = .ok (.iconst 1, 1) := by decide +kernel
theorem dX5_began_25 : decode cX5_began 25 = .ok (.iadd, 1) := by decide +kernel
theorem dX5_began_26 : decode cX5_began 26 = .ok (.putfield 272, 3) := by decide +kernel
theorem dX5_began_29 : decode cX5_began 29 = .ok (.return_, 1) := by decide +kernel
theorem dX5_plainSize_0 : decode cX5_plainSize 0 = .ok (.aload_n 0, 1) := by decide +kernel
theorem dX5_plainSize_1 : decode cX5_plainSize 1 = .ok (.bipush 10, 2) := by decide +kernel
theorem dX5_plainSize_3 : decode cX5_plainSize 3 = .ok (.invokevirtual 275, 3) := by decide +kernel
theorem dX5_plainSize_6 : decode cX5_plainSize 6 = .ok (.aload_n 0, 1) := by decide +kernel
theorem dX5_plainSize_7 : decode cX5_plainSize 7 = .ok (.getfield 19, 3) := by decide +kernel
theorem dX5_plainSize_10 : decode cX5_plainSize 10 = .ok (.iload_n 1, 1) := by decide +kernel
theorem dX5_plainSize_11 : decode cX5_plainSize 11 = .ok (.iconst 1, 1) := by decide +kernel
theorem dX5_plainSize_12 : decode cX5_plainSize 12 = .ok (.invokestatic 152, 3) := by decide +kernel
theorem dX5_plainSize_15 : decode cX5_plainSize 15 = .ok (.ireturn, 1) := by decide +kernel
theorem dX5_gullSize_0 : decode cX5_gullSize 0 = .ok (.aload_n 0, 1) := by decide +kernel
theorem dX5_gullSize_1 : decode cX5_gullSize 1 = .ok (.getfield 19, 3) := by decide +kernel
theorem dX5_gullSize_4 : decode cX5_gullSize 4 = .ok (.iload_n 1, 1) := by decide +kernel
theorem dX5_gullSize_5 : decode cX5_gullSize 5 = .ok (.iconst 0, 1) := by decide +kernel
theorem dX5_gullSize_6 : decode cX5_gullSize 6 = .ok (.invokestatic 152, 3) := by decide +kernel
theorem dX5_gullSize_9 : decode cX5_gullSize 9 = .ok (.iconst 5, 1) := by decide +kernel
theorem dX5_gullSize_10 : decode cX5_gullSize 10 = .ok (.if_icmp .ne 7, 3) := by decide +kernel
theorem dX5_gullSize_13 : decode cX5_gullSize 13 = .ok (.iconst 1, 1) := by decide +kernel
theorem dX5_gullSize_14 : decode cX5_gullSize 14 = .ok (.goto 4, 3) := by decide +kernel
theorem dX5_gullSize_17 : decode cX5_gullSize 17 = .ok (.iconst 0, 1) := by decide +kernel
theorem dX5_gullSize_18 : decode cX5_gullSize 18 = .ok (.istore_n 2, 1) := by decide +kernel
theorem dX5_gullSize_19 : decode cX5_gullSize 19 = .ok (.iload_n 2, 1) := by decide +kernel
theorem dX5_gullSize_20 : decode cX5_gullSize 20 = .ok (.ifCond .eq 9, 3) := by decide +kernel
theorem dX5_gullSize_23 : decode cX5_gullSize 23 = .ok (.aload_n 0, 1) := by decide +kernel
theorem dX5_gullSize_24 : decode cX5_gullSize 24 = .ok (.bipush 14, 2) := by decide +kernel
theorem dX5_gullSize_26 : decode cX5_gullSize 26 = .ok (.invokevirtual 275, 3) := by decide +kernel
theorem dX5_gullSize_29 : decode cX5_gullSize 29 = .ok (.aload_n 0, 1) := by decide +kernel
theorem dX5_gullSize_30 : decode cX5_gullSize 30 = .ok (.bipush 13, 2) := by decide +kernel
theorem dX5_gullSize_32 : decode cX5_gullSize 32 = .ok (.invokevirtual 275, 3) := by decide +kernel
theorem dX5_gullSize_35 : decode cX5_gullSize 35 = .ok (.aload_n 0, 1) := by decide +kernel
theorem dX5_gullSize_36 : decode cX5_gullSize 36 = .ok (.iload_n 1, 1) := by decide +kernel
theorem dX5_gullSize_37 : decode cX5_gullSize 37 = .ok (.invokevirtual 278, 3) := by decide +kernel
theorem dX5_gullSize_40 : decode cX5_gullSize 40 = .ok (.bipush 100, 2) := by decide +kernel
theorem dX5_gullSize_42 : decode cX5_gullSize 42 = .ok (.isub, 1) := by decide +kernel
theorem dX5_gullSize_43 : decode cX5_gullSize 43 = .ok (.istore_n 3, 1) := by decide +kernel
theorem dX5_gullSize_44 : decode cX5_gullSize 44 = .ok (.iload_n 2, 1) := by decide +kernel
theorem dX5_gullSize_45 : decode cX5_gullSize 45 = .ok (.ifCond .eq 9, 3) := by decide +kernel
theorem dX5_gullSize_48 : decode cX5_gullSize 48 = .ok (.iconst 2, 1) := by decide +kernel
theorem dX5_gullSize_49 : decode cX5_gullSize 49 = .ok (.iload_n 3, 1) := by decide +kernel
theorem dX5_gullSize_50 : decode cX5_gullSize 50 = .ok (.imul, 1) := by decide +kernel
theorem dX5_gullSize_51 : decode cX5_gullSize 51 = .ok (.goto 4, 3) := by decide +kernel
theorem dX5_gullSize_54 : decode cX5_gullSize 54 = .ok (.iload_n 3, 1) := by decide +kernel
theorem dX5_gullSize_55 : decode cX5_gullSize 55 = .ok (.ireturn, 1) := by decide +kernel
theorem dX5_markOf_0 : decode cX5_markOf 0 = .ok (.aload_n 0, 1) := by decide +kernel
theorem dX5_markOf_1 : decode cX5_markOf 1 = .ok (.getfield 19, 3) := by decide +kernel
theorem dX5_markOf_4 : decode cX5_markOf 4 = .ok (.iload_n 1, 1) := by decide +kernel
theorem dX5_markOf_5 : decode cX5_markOf 5 = .ok (.iconst 0, 1) := by decide +kernel
theorem dX5_markOf_6 : decode cX5_markOf 6 = .ok (.invokestatic 152, 3) := by decide +kernel
theorem dX5_markOf_9 : decode cX5_markOf 9 = .ok (.istore_n 2, 1) := by decide +kernel
theorem dX5_markOf_10 : decode cX5_markOf 10 = .ok (.iload_n 2, 1) := by decide +kernel
theorem dX5_markOf_11 : decode cX5_markOf 11 = .ok (.iconst 4, 1) := by decide +kernel
theorem dX5_markOf_12 : decode cX5_markOf 12 = .ok (.if_icmp .lt 23, 3) := by decide +kernel
theorem dX5_markOf_15 : decode cX5_markOf 15 = .ok (.aload_n 0, 1) := by decide +kernel
theorem dX5_markOf_16 : decode cX5_markOf 16 = .ok (.bipush 23, 2) := by decide +kernel
theorem dX5_markOf_18 : decode cX5_markOf 18 = .ok (.invokevirtual 275, 3) := by decide +kernel
theorem dX5_markOf_21 : decode cX5_markOf 21 = .ok (.aload_n 0, 1) := by decide +kernel
theorem dX5_markOf_22 : decode cX5_markOf 22 = .ok (.bipush 20, 2) := by decide +kernel
theorem dX5_markOf_24 : decode cX5_markOf 24 = .ok (.invokevirtual 275, 3) := by decide +kernel
theorem dX5_markOf_27 : decode cX5_markOf 27 = .ok (.iload_n 1, 1) := by decide +kernel
theorem dX5_markOf_28 : decode cX5_markOf 28 = .ok (.aload_n 0, 1) := by decide +kernel
theorem dX5_markOf_29 : decode cX5_markOf 29 = .ok (.iload_n 1, 1) := by decide +kernel
theorem dX5_markOf_30 : decode cX5_markOf 30 = .ok (.invokevirtual 281, 3) := by decide +kernel
theorem dX5_markOf_33 : decode cX5_markOf 33 = .ok (.isub, 1) := by decide +kernel
theorem dX5_markOf_34 : decode cX5_markOf 34 = .ok (.ireturn, 1) := by decide +kernel
theorem dX5_markOf_35 : decode cX5_markOf 35 = .ok (.iload_n 2, 1) := by decide +kernel
theorem dX5_markOf_36 : decode cX5_markOf 36 = .ok (.iconst 1, 1) := by decide +kernel
theorem dX5_markOf_37 : decode cX5_markOf 37 = .ok (.if_icmp .eq 19, 3) := by decide +kernel
theorem dX5_markOf_40 : decode cX5_markOf 40 = .ok (.aload_n 0, 1) := by decide +kernel
theorem dX5_markOf_41 : decode cX5_markOf 41 = .ok (.iload_n 2, 1) := by decide +kernel
theorem dX5_markOf_42 : decode cX5_markOf 42 = .ok (.iconst 3, 1) := by decide +kernel
theorem dX5_markOf_43 : decode cX5_markOf 43 = .ok (.if_icmp .ne 8, 3) := by decide +kernel
theorem dX5_markOf_46 : decode cX5_markOf 46 = .ok (.bipush 22, 2) := by decide +kernel
theorem dX5_markOf_48 : decode cX5_markOf 48 = .ok (.goto 5, 3) := by decide +kernel
theorem dX5_markOf_51 : decode cX5_markOf 51 = .ok (.bipush 24, 2) := by decide +kernel
theorem dX5_markOf_53 : decode cX5_markOf 53 = .ok (.invokevirtual 275, 3) := by decide +kernel
theorem dX5_markOf_56 : decode cX5_markOf 56 = .ok (.aload_n 0, 1) := by decide +kernel
theorem dX5_markOf_57 : decode cX5_markOf 57 = .ok (.bipush 21, 2) := by decide +kernel
theorem dX5_markOf_59 : decode cX5_markOf 59 = .ok (.invokevirtual 275, 3) := by decide +kernel
theorem dX5_markOf_62 : decode cX5_markOf 62 = .ok (.aload_n 0, 1) := by decide +kernel
theorem dX5_markOf_63 : decode cX5_markOf 63 = .ok (.bipush 20, 2) := by decide +kernel
theorem dX5_markOf_65 : decode cX5_markOf 65 = .ok (.invokevirtual 275, 3) := by decide +kernel
theorem dX5_markOf_68 : decode cX5_markOf 68 = .ok (.iload_n 1, 1) := by decide +kernel
theorem dX5_markOf_69 : decode cX5_markOf 69 = .ok (.aload_n 0, 1) := by decide +kernel
theorem dX5_markOf_70 : decode cX5_markOf 70 = .ok (.getfield 19, 3) := by decide +kernel
theorem dX5_markOf_73 : decode cX5_markOf 73 = .ok (.iload_n 1, 1) := by decide +kernel
theorem dX5_markOf_74 : decode cX5_markOf 74 = .ok (.invokestatic 160, 3) := by decide +kernel
theorem dX5_markOf_77 : decode cX5_markOf 77 = .ok (.iadd, 1) := by decide +kernel
theorem dX5_markOf_78 : decode cX5_markOf 78 = .ok (.istore_n 3, 1) := by decide +kernel
theorem dX5_markOf_79 : decode cX5_markOf 79 = .ok (.iload_n 2, 1) := by decide +kernel
theorem dX5_markOf_80 : decode cX5_markOf 80 = .ok (.iconst 1, 1) := by decide +kernel
theorem dX5_markOf_81 : decode cX5_markOf 81 = .ok (.if_icmp .ne 7, 3) := by decide +kernel
theorem dX5_markOf_84 : decode cX5_markOf 84 = .ok (.iload_n 3, 1) := by decide +kernel
theorem dX5_markOf_85 : decode cX5_markOf 85 = .ok (.goto 19, 3) := by decide +kernel
theorem dX5_markOf_88 : decode cX5_markOf 88 = .ok (.iload_n 2, 1) := by decide +kernel
theorem dX5_markOf_89 : decode cX5_markOf 89 = .ok (.iconst 3, 1) := by decide +kernel
theorem dX5_markOf_90 : decode cX5_markOf 90 = .ok (.if_icmp .ne 11, 3) := by decide +kernel
theorem dX5_markOf_93 : decode cX5_markOf 93 = .ok (.iload_n 3, 1) := by decide +kernel
theorem dX5_markOf_94 : decode cX5_markOf 94 = .ok (.sipush 1000, 3) := by decide +kernel
theorem dX5_markOf_97 : decode cX5_markOf 97 = .ok (.isub, 1) := by decide +kernel
theorem dX5_markOf_98 : decode cX5_markOf 98 = .ok (.goto 6, 3) := by decide +kernel
theorem dX5_markOf_101 : decode cX5_markOf 101 = .ok (.iconst 2, 1) := by decide +kernel
theorem dX5_markOf_102 : decode cX5_markOf 102 = .ok (.iload_n 3, 1) := by decide +kernel
theorem dX5_markOf_103 : decode cX5_markOf 103 = .ok (.imul, 1) := by decide +kernel
theorem dX5_markOf_104 : decode cX5_markOf 104 = .ok (.ireturn, 1) := by decide +kernel
theorem dX5_sizeOf_0 : decode cX5_sizeOf 0 = .ok (.aload_n 0, 1) := by decide +kernel
theorem dX5_sizeOf_1 : decode cX5_sizeOf 1 = .ok (.getfield 19, 3) := by decide +kernel
theorem dX5_sizeOf_4 : decode cX5_sizeOf 4 = .ok (.iload_n 1, 1) := by decide +kernel
theorem dX5_sizeOf_5 : decode cX5_sizeOf 5 = .ok (.iconst 0, 1) := by decide +kernel
theorem dX5_sizeOf_6 : decode cX5_sizeOf 6 = .ok (.invokestatic 152, 3) := by decide +kernel
theorem dX5_sizeOf_9 : decode cX5_sizeOf 9 = .ok (.istore_n 2, 1) := by decide +kernel
theorem dX5_sizeOf_10 : decode cX5_sizeOf 10 = .ok (.iload_n 2, 1) := by decide +kernel
theorem dX5_sizeOf_11 : decode cX5_sizeOf 11 = .ok (.iconst 4, 1) := by decide +kernel
theorem dX5_sizeOf_12 : decode cX5_sizeOf 12 = .ok (.if_icmp .lt 9, 3) := by decide +kernel
theorem dX5_sizeOf_15 : decode cX5_sizeOf 15 = .ok (.aload_n 0, 1) := by decide +kernel
theorem dX5_sizeOf_16 : decode cX5_sizeOf 16 = .ok (.iload_n 1, 1) := by decide +kernel
theorem dX5_sizeOf_17 : decode cX5_sizeOf 17 = .ok (.invokevirtual 281, 3) := by decide +kernel
theorem dX5_sizeOf_20 : decode cX5_sizeOf 20 = .ok (.ireturn, 1) := by decide +kernel
theorem dX5_sizeOf_21 : decode cX5_sizeOf 21 = .ok (.iload_n 2, 1) := by decide +kernel
theorem dX5_sizeOf_22 : decode cX5_sizeOf 22 = .ok (.iconst 2, 1) := by decide +kernel
theorem dX5_sizeOf_23 : decode cX5_sizeOf 23 = .ok (.if_icmp .ne 9, 3) := by decide +kernel
theorem dX5_sizeOf_26 : decode cX5_sizeOf 26 = .ok (.aload_n 0, 1) := by decide +kernel
theorem dX5_sizeOf_27 : decode cX5_sizeOf 27 = .ok (.bipush 12, 2) := by decide +kernel
theorem dX5_sizeOf_29 : decode cX5_sizeOf 29 = .ok (.invokevirtual 275, 3) := by decide +kernel
theorem dX5_sizeOf_32 : decode cX5_sizeOf 32 = .ok (.aload_n 0, 1) := by decide +kernel
theorem dX5_sizeOf_33 : decode cX5_sizeOf 33 = .ok (.bipush 11, 2) := by decide +kernel
theorem dX5_sizeOf_35 : decode cX5_sizeOf 35 = .ok (.invokevirtual 275, 3) := by decide +kernel
theorem dX5_sizeOf_38 : decode cX5_sizeOf 38 = .ok (.aload_n 0, 1) := by decide +kernel
theorem dX5_sizeOf_39 : decode cX5_sizeOf 39 = .ok (.iload_n 1, 1) := by decide +kernel
theorem dX5_sizeOf_40 : decode cX5_sizeOf 40 = .ok (.invokevirtual 278, 3) := by decide +kernel
theorem dX5_sizeOf_43 : decode cX5_sizeOf 43 = .ok (.istore_n 3, 1) := by decide +kernel
theorem dX5_sizeOf_44 : decode cX5_sizeOf 44 = .ok (.iload_n 3, 1) := by decide +kernel
theorem dX5_sizeOf_45 : decode cX5_sizeOf 45 = .ok (.aload_n 0, 1) := by decide +kernel
theorem dX5_sizeOf_46 : decode cX5_sizeOf 46 = .ok (.iload_n 1, 1) := by decide +kernel
theorem dX5_sizeOf_47 : decode cX5_sizeOf 47 = .ok (.invokevirtual 284, 3) := by decide +kernel
theorem dX5_sizeOf_50 : decode cX5_sizeOf 50 = .ok (.iadd, 1) := by decide +kernel
theorem dX5_sizeOf_51 : decode cX5_sizeOf 51 = .ok (.istore_n 3, 1) := by decide +kernel
theorem dX5_sizeOf_52 : decode cX5_sizeOf 52 = .ok (.iload_n 2, 1) := by decide +kernel
theorem dX5_sizeOf_53 : decode cX5_sizeOf 53 = .ok (.iconst 2, 1) := by decide +kernel
theorem dX5_sizeOf_54 : decode cX5_sizeOf 54 = .ok (.if_icmp .ne 8, 3) := by decide +kernel
theorem dX5_sizeOf_57 : decode cX5_sizeOf 57 = .ok (.iload_n 3, 1) := by decide +kernel
theorem dX5_sizeOf_58 : decode cX5_sizeOf 58 = .ok (.ineg, 1) := by decide +kernel
theorem dX5_sizeOf_59 : decode cX5_sizeOf 59 = .ok (.goto 4, 3) := by decide +kernel
theorem dX5_sizeOf_62 : decode cX5_sizeOf 62 = .ok (.iload_n 3, 1) := by decide +kernel
theorem dX5_sizeOf_63 : decode cX5_sizeOf 63 = .ok (.ireturn, 1) := by decide +kernel
theorem dX5_ask_0 : decode cX5_ask 0 = .ok (.aload_n 0, 1) := by decide +kernel
theorem dX5_ask_1 : decode cX5_ask 1 = .ok (.iconst 0, 1) := by decide +kernel
theorem dX5_ask_2 : decode cX5_ask 2 = .ok (.putfield 47, 3) := by decide +kernel
theorem dX5_ask_5 : decode cX5_ask 5 = .ok (.aload_n 0, 1) := by decide +kernel
theorem dX5_ask_6 : decode cX5_ask 6 = .ok (.iload_n 1, 1) := by decide +kernel
theorem dX5_ask_7 : decode cX5_ask 7 = .ok (.invokevirtual 203, 3) := by decide +kernel
theorem dX5_ask_10 : decode cX5_ask 10 = .ok (.ifCond .eq 13, 3) := by decide +kernel
theorem dX5_ask_13 : decode cX5_ask 13 = .ok (.iload_n 2, 1) := by decide +kernel
theorem dX5_ask_14 : decode cX5_ask 14 = .ok (.i2l, 1) := by decide +kernel
theorem dX5_ask_15 : decode cX5_ask 15 = .ok (.lconst 0, 1) := by decide +kernel
theorem dX5_ask_16 : decode cX5_ask 16 = .ok (.lconst 1, 1) := by decide +kernel
theorem dX5_ask_17 : decode cX5_ask 17 = .ok (.invokestatic 57, 3) := by decide +kernel
theorem dX5_ask_20 : decode cX5_ask 20 = .ok (.ifCond .ne 6, 3) := by decide +kernel
theorem dX5_ask_23 : decode cX5_ask 23 = .ok (.ldc 67, 2) := by decide +kernel
theorem dX5_ask_25 : decode cX5_ask 25 = .ok (.ireturn, 1) := by decide +kernel
theorem dX5_ask_26 : decode cX5_ask 26 = .ok (.aload_n 0, 1) := by decide +kernel
theorem dX5_ask_27 : decode cX5_ask 27 = .ok (.iconst 0, 1) := by decide +kernel
theorem dX5_ask_28 : decode cX5_ask 28 = .ok (.putfield 272, 3) := by decide +kernel
theorem dX5_ask_31 : decode cX5_ask 31 = .ok (.iload_n 2, 1) := by decide +kernel
theorem dX5_ask_32 : decode cX5_ask 32 = .ok (.ifCond .ne 11, 3) := by decide +kernel
theorem dX5_ask_35 : decode cX5_ask 35 = .ok (.aload_n 0, 1) := by decide +kernel
theorem dX5_ask_36 : decode cX5_ask 36 = .ok (.iload_n 1, 1) := by decide +kernel
theorem dX5_ask_37 : decode cX5_ask 37 = .ok (.invokevirtual 287, 3) := by decide +kernel
theorem dX5_ask_40 : decode cX5_ask 40 = .ok (.goto 8, 3) := by decide +kernel
theorem dX5_ask_43 : decode cX5_ask 43 = .ok (.aload_n 0, 1) := by decide +kernel
theorem dX5_ask_44 : decode cX5_ask 44 = .ok (.iload_n 1, 1) := by decide +kernel
theorem dX5_ask_45 : decode cX5_ask 45 = .ok (.invokevirtual 284, 3) := by decide +kernel
theorem dX5_ask_48 : decode cX5_ask 48 = .ok (.ireturn, 1) := by decide +kernel
theorem dX5_trace_0 : decode cX5_trace 0 = .ok (.aload_n 0, 1) := by decide +kernel
theorem dX5_trace_1 : decode cX5_trace 1 = .ok (.iconst 0, 1) := by decide +kernel
theorem dX5_trace_2 : decode cX5_trace 2 = .ok (.putfield 47, 3) := by decide +kernel
theorem dX5_trace_5 : decode cX5_trace 5 = .ok (.iload_n 1, 1) := by decide +kernel
theorem dX5_trace_6 : decode cX5_trace 6 = .ok (.i2l, 1) := by decide +kernel
theorem dX5_trace_7 : decode cX5_trace 7 = .ok (.lconst 0, 1) := by decide +kernel
theorem dX5_trace_8 : decode cX5_trace 8 = .ok (.aload_n 0, 1) := by decide +kernel
theorem dX5_trace_9 : decode cX5_trace 9 = .ok (.getfield 272, 3) := by decide +kernel
theorem dX5_trace_12 : decode cX5_trace 12 = .ok (.iconst 1, 1) := by decide +kernel
theorem dX5_trace_13 : decode cX5_trace 13 = .ok (.isub, 1) := by decide +kernel
theorem dX5_trace_14 : decode cX5_trace 14 = .ok (.i2l, 1) := by decide +kernel
theorem dX5_trace_15 : decode cX5_trace 15 = .ok (.invokestatic 57, 3) := by decide +kernel
theorem dX5_trace_18 : decode cX5_trace 18 = .ok (.ifCond .eq 12, 3) := by decide +kernel
theorem dX5_trace_21 : decode cX5_trace 21 = .ok (.aload_n 0, 1) := by decide +kernel
theorem dX5_trace_22 : decode cX5_trace 22 = .ok (.getfield 44, 3) := by decide +kernel
theorem dX5_trace_25 : decode cX5_trace 25 = .ok (.iload_n 1, 1) := by decide +kernel
theorem dX5_trace_26 : decode cX5_trace 26 = .ok (.iaload, 1) := by decide +kernel
theorem dX5_trace_27 : decode cX5_trace 27 = .ok (.goto 5, 3) := by decide +kernel
theorem dX5_trace_30 : decode cX5_trace 30 = .ok (.ldc 90, 2) := by decide +kernel
theorem dX5_trace_32 : decode cX5_trace 32 = .ok (.ireturn, 1) := by decide +kernel
theorem dX5_count_0 : decode cX5_count 0 = .ok (.aload_n 0, 1) := by decide +kernel
theorem dX5_count_1 : decode cX5_count 1 = .ok (.iconst 0, 1) := by decide +kernel
theorem dX5_count_2 : decode cX5_count 2 = .ok (.putfield 47, 3) := by decide +kernel
theorem dX5_count_5 : decode cX5_count 5 = .ok (.iconst 0, 1) := by decide +kernel
theorem dX5_count_6 : decode cX5_count 6 = .ok (.istore_n 2, 1) := by decide +kernel
theorem dX5_count_7 : decode cX5_count 7 = .ok (.iload_n 1, 1) := by decide +kernel
theorem dX5_count_8 : decode cX5_count 8 = .ok (.tableswitch 159 0 7 #[48, 81, 88, 95, 102, 109, 149, 154], 48) := by decide +kernel
theorem dX5_count_56 : decode cX5_count 56 = .ok (.iconst 0, 1) := by decide +kernel
theorem dX5_count_57 : decode cX5_count 57 = .ok (.istore_n 3, 1) := by decide +kernel
theorem dX5_count_58 : decode cX5_count 58 = .ok (.iload_n 3, 1) := by decide +kernel
theorem dX5_count_59 : decode cX5_count 59 = .ok (.bipush 8, 2) := by decide +kernel
theorem dX5_count_61 : decode cX5_count 61 = .ok (.if_icmp .ge 26, 3) := by decide +kernel
theorem dX5_count_64 : decode cX5_count 64 = .ok (.iload_n 2, 1) := by decide +kernel
theorem dX5_count_65 : decode cX5_count 65 = .ok (.aload_n 0, 1) := by decide +kernel
theorem dX5_count_66 : decode cX5_count 66 = .ok (.getfield 7, 3) := by decide +kernel
theorem dX5_count_69 : decode cX5_count 69 = .ok (.iload_n 3, 1) := by decide +kernel
theorem dX5_count_70 : decode cX5_count 70 = .ok (.iaload, 1) := by decide +kernel
theorem dX5_count_71 : decode cX5_count 71 = .ok (.ifCond .lt 7, 3) := by decide +kernel
theorem dX5_count_74 : decode cX5_count 74 = .ok (.iconst 1, 1) := by decide +kernel
theorem dX5_count_75 : decode cX5_count 75 = .ok (.goto 4, 3) := by decide +kernel
theorem dX5_count_78 : decode cX5_count 78 = .ok (.iconst 0, 1) := by decide +kernel
theorem dX5_count_79 : decode cX5_count 79 = .ok (.iadd, 1) := by decide +kernel
theorem dX5_count_80 : decode cX5_count 80 = .ok (.istore_n 2, 1) := by decide +kernel
theorem dX5_count_81 : decode cX5_count 81 = .ok (.iinc 3 1, 3) := by decide +kernel
theorem dX5_count_84 : decode cX5_count 84 = .ok (.goto (-26), 3) := by decide +kernel
theorem dX5_count_87 : decode cX5_count 87 = .ok (.iload_n 2, 1) := by decide +kernel
theorem dX5_count_88 : decode cX5_count 88 = .ok (.ireturn, 1) := by decide +kernel
theorem dX5_count_89 : decode cX5_count 89 = .ok (.aload_n 0, 1) := by decide +kernel
theorem dX5_count_90 : decode cX5_count 90 = .ok (.getfield 19, 3) := by decide +kernel
theorem dX5_count_93 : decode cX5_count 93 = .ok (.iconst 0, 1) := by decide +kernel
theorem dX5_count_94 : decode cX5_count 94 = .ok (.iaload, 1) := by decide +kernel
theorem dX5_count_95 : decode cX5_count 95 = .ok (.ireturn, 1) := by decide +kernel
theorem dX5_count_96 : decode cX5_count 96 = .ok (.aload_n 0, 1) := by decide +kernel
theorem dX5_count_97 : decode cX5_count 97 = .ok (.getfield 19, 3) := by decide +kernel
theorem dX5_count_100 : decode cX5_count 100 = .ok (.iconst 1, 1) := by decide +kernel
theorem dX5_count_101 : decode cX5_count 101 = .ok (.iaload, 1) := by decide +kernel
theorem dX5_count_102 : decode cX5_count 102 = .ok (.ireturn, 1) := by decide +kernel
theorem dX5_count_103 : decode cX5_count 103 = .ok (.aload_n 0, 1) := by decide +kernel
theorem dX5_count_104 : decode cX5_count 104 = .ok (.getfield 19, 3) := by decide +kernel
theorem dX5_count_107 : decode cX5_count 107 = .ok (.iconst 5, 1) := by decide +kernel
theorem dX5_count_108 : decode cX5_count 108 = .ok (.iaload, 1) := by decide +kernel
theorem dX5_count_109 : decode cX5_count 109 = .ok (.ireturn, 1) := by decide +kernel
theorem dX5_count_110 : decode cX5_count 110 = .ok (.aload_n 0, 1) := by decide +kernel
theorem dX5_count_111 : decode cX5_count 111 = .ok (.getfield 19, 3) := by decide +kernel
theorem dX5_count_114 : decode cX5_count 114 = .ok (.iconst 4, 1) := by decide +kernel
theorem dX5_count_115 : decode cX5_count 115 = .ok (.iaload, 1) := by decide +kernel
theorem dX5_count_116 : decode cX5_count 116 = .ok (.ireturn, 1) := by decide +kernel
theorem dX5_count_117 : decode cX5_count 117 = .ok (.iconst 0, 1) := by decide +kernel
theorem dX5_count_118 : decode cX5_count 118 = .ok (.istore_n 3, 1) := by decide +kernel
theorem dX5_count_119 : decode cX5_count 119 = .ok (.iload_n 3, 1) := by decide +kernel
theorem dX5_count_120 : decode cX5_count 120 = .ok (.aload_n 0, 1) := by decide +kernel
theorem dX5_count_121 : decode cX5_count 121 = .ok (.getfield 19, 3) := by decide +kernel
theorem dX5_count_124 : decode cX5_count 124 = .ok (.iconst 0, 1) := by decide +kernel
theorem dX5_count_125 : decode cX5_count 125 = .ok (.iaload, 1) := by decide +kernel
theorem dX5_count_126 : decode cX5_count 126 = .ok (.if_icmp .ge 29, 3) := by decide +kernel
theorem dX5_count_129 : decode cX5_count 129 = .ok (.iload_n 2, 1) := by decide +kernel
theorem dX5_count_130 : decode cX5_count 130 = .ok (.aload_n 0, 1) := by decide +kernel
theorem dX5_count_131 : decode cX5_count 131 = .ok (.getfield 19, 3) := by decide +kernel
theorem dX5_count_134 : decode cX5_count 134 = .ok (.iload_n 3, 1) := by decide +kernel
theorem dX5_count_135 : decode cX5_count 135 = .ok (.iconst 1, 1) := by decide +kernel
theorem dX5_count_136 : decode cX5_count 136 = .ok (.invokestatic 152, 3) := by decide +kernel
theorem dX5_count_139 : decode cX5_count 139 = .ok (.ifCond .ne 7, 3) := by decide +kernel
theorem dX5_count_142 : decode cX5_count 142 = .ok (.iconst 1, 1) := by decide +kernel
theorem dX5_count_143 : decode cX5_count 143 = .ok (.goto 4, 3) := by decide +kernel
theorem dX5_count_146 : decode cX5_count 146 = .ok (.iconst 0, 1) := by decide +kernel
theorem dX5_count_147 : decode cX5_count 147 = .ok (.iadd, 1) := by decide +kernel
theorem dX5_count_148 : decode cX5_count 148 = .ok (.istore_n 2, 1) := by decide +kernel
theorem dX5_count_149 : decode cX5_count 149 = .ok (.iinc 3 1, 3) := by decide +kernel
theorem dX5_count_152 : decode cX5_count 152 = .ok (.goto (-33), 3) := by decide +kernel
theorem dX5_count_155 : decode cX5_count 155 = .ok (.iload_n 2, 1) := by decide +kernel
theorem dX5_count_156 : decode cX5_count 156 = .ok (.ireturn, 1) := by decide +kernel
theorem dX5_count_157 : decode cX5_count 157 = .ok (.aload_n 0, 1) := by decide +kernel
theorem dX5_count_158 : decode cX5_count 158 = .ok (.getfield 149, 3) := by decide +kernel
theorem dX5_count_161 : decode cX5_count 161 = .ok (.ireturn, 1) := by decide +kernel
theorem dX5_count_162 : decode cX5_count 162 = .ok (.aload_n 0, 1) := by decide +kernel
theorem dX5_count_163 : decode cX5_count 163 = .ok (.getfield 74, 3) := by decide +kernel
theorem dX5_count_166 : decode cX5_count 166 = .ok (.ireturn, 1) := by decide +kernel
theorem dX5_count_167 : decode cX5_count 167 = .ok (.ldc 67, 2) := by decide +kernel
theorem dX5_count_169 : decode cX5_count 169 = .ok (.ireturn, 1) := by decide +kernel
theorem dX5_status_0 : decode cX5_status 0 = .ok (.aload_n 0, 1) := by decide +kernel
theorem dX5_status_1 : decode cX5_status 1 = .ok (.iconst 0, 1) := by decide +kernel
theorem dX5_status_2 : decode cX5_status 2 = .ok (.putfield 47, 3) := by decide +kernel
theorem dX5_status_5 : decode cX5_status 5 = .ok (.aload_n 0, 1) := by decide +kernel
theorem dX5_status_6 : decode cX5_status 6 = .ok (.getfield 51, 3) := by decide +kernel
theorem dX5_status_9 : decode cX5_status 9 = .ok (.ireturn, 1) := by decide +kernel
theorem dJ6_numberOfTrailingZeros_0f7a4_0 : decode cJ6_numberOfTrailingZeros_0f7a4 0 = .ok (.iload_n 0, 1) := by decide +kernel
theorem dJ6_numberOfTrailingZeros_0f7a4_1 : decode cJ6_numberOfTrailingZeros_0f7a4 1 = .ok (.iconst (-1), 1) := by decide +kernel
theorem dJ6_numberOfTrailingZeros_0f7a4_2 : decode cJ6_numberOfTrailingZeros_0f7a4 2 = .ok (.ixor, 1) := by decide +kernel
theorem dJ6_numberOfTrailingZeros_0f7a4_3 : decode cJ6_numberOfTrailingZeros_0f7a4 3 = .ok (.iload_n 0, 1) := by decide +kernel
theorem dJ6_numberOfTrailingZeros_0f7a4_4 : decode cJ6_numberOfTrailingZeros_0f7a4 4 = .ok (.iconst 1, 1) := by decide +kernel
theorem dJ6_numberOfTrailingZeros_0f7a4_5 : decode cJ6_numberOfTrailingZeros_0f7a4 5 = .ok (.isub, 1) := by decide +kernel
theorem dJ6_numberOfTrailingZeros_0f7a4_6 : decode cJ6_numberOfTrailingZeros_0f7a4 6 = .ok (.iand, 1) := by decide +kernel
theorem dJ6_numberOfTrailingZeros_0f7a4_7 : decode cJ6_numberOfTrailingZeros_0f7a4 7 = .ok (.istore_n 0, 1) := by decide +kernel
theorem dJ6_numberOfTrailingZeros_0f7a4_8 : decode cJ6_numberOfTrailingZeros_0f7a4 8 = .ok (.iload_n 0, 1) := by decide +kernel
theorem dJ6_numberOfTrailingZeros_0f7a4_9 : decode cJ6_numberOfTrailingZeros_0f7a4 9 = .ok (.ifCond .gt 8, 3) := by decide +kernel
theorem dJ6_numberOfTrailingZeros_0f7a4_12 : decode cJ6_numberOfTrailingZeros_0f7a4 12 = .ok (.iload_n 0, 1) := by decide +kernel
theorem dJ6_numberOfTrailingZeros_0f7a4_13 : decode cJ6_numberOfTrailingZeros_0f7a4 13 = .ok (.bipush 32, 2) := by decide +kernel
theorem dJ6_numberOfTrailingZeros_0f7a4_15 : decode cJ6_numberOfTrailingZeros_0f7a4 15 = .ok (.iand, 1) := by decide +kernel
theorem dJ6_numberOfTrailingZeros_0f7a4_16 : decode cJ6_numberOfTrailingZeros_0f7a4 16 = .ok (.ireturn, 1) := by decide +kernel
theorem dJ6_numberOfTrailingZeros_0f7a4_17 : decode cJ6_numberOfTrailingZeros_0f7a4 17 = .ok (.iconst 1, 1) := by decide +kernel
theorem dJ6_numberOfTrailingZeros_0f7a4_18 : decode cJ6_numberOfTrailingZeros_0f7a4 18 = .ok (.istore_n 1, 1) := by decide +kernel
theorem dJ6_numberOfTrailingZeros_0f7a4_19 : decode cJ6_numberOfTrailingZeros_0f7a4 19 = .ok (.iload_n 0, 1) := by decide +kernel
theorem dJ6_numberOfTrailingZeros_0f7a4_20 : decode cJ6_numberOfTrailingZeros_0f7a4 20 = .ok (.ldc_w 264, 3) := by decide +kernel
theorem dJ6_numberOfTrailingZeros_0f7a4_23 : decode cJ6_numberOfTrailingZeros_0f7a4 23 = .ok (.if_icmp .le 11, 3) := by decide +kernel
theorem dJ6_numberOfTrailingZeros_0f7a4_26 : decode cJ6_numberOfTrailingZeros_0f7a4 26 = .ok (.iinc 1 16, 3) := by decide +kernel
theorem dJ6_numberOfTrailingZeros_0f7a4_29 : decode cJ6_numberOfTrailingZeros_0f7a4 29 = .ok (.iload_n 0, 1) := by decide +kernel
theorem dJ6_numberOfTrailingZeros_0f7a4_30 : decode cJ6_numberOfTrailingZeros_0f7a4 30 = .ok (.bipush 16, 2) := by decide +kernel
theorem dJ6_numberOfTrailingZeros_0f7a4_32 : decode cJ6_numberOfTrailingZeros_0f7a4 32 = .ok (.iushr, 1) := by decide +kernel
theorem dJ6_numberOfTrailingZeros_0f7a4_33 : decode cJ6_numberOfTrailingZeros_0f7a4 33 = .ok (.istore_n 0, 1) := by decide +kernel
theorem dJ6_numberOfTrailingZeros_0f7a4_34 : decode cJ6_numberOfTrailingZeros_0f7a4 34 = .ok (.iload_n 0, 1) := by decide +kernel
theorem dJ6_numberOfTrailingZeros_0f7a4_35 : decode cJ6_numberOfTrailingZeros_0f7a4 35 = .ok (.sipush 256, 3) := by decide +kernel
theorem dJ6_numberOfTrailingZeros_0f7a4_38 : decode cJ6_numberOfTrailingZeros_0f7a4 38 = .ok (.if_icmp .le 11, 3) := by decide +kernel
theorem dJ6_numberOfTrailingZeros_0f7a4_41 : decode cJ6_numberOfTrailingZeros_0f7a4 41 = .ok (.iinc 1 8, 3) := by decide +kernel
theorem dJ6_numberOfTrailingZeros_0f7a4_44 : decode cJ6_numberOfTrailingZeros_0f7a4 44 = .ok (.iload_n 0, 1) := by decide +kernel
theorem dJ6_numberOfTrailingZeros_0f7a4_45 : decode cJ6_numberOfTrailingZeros_0f7a4 45 = .ok (.bipush 8, 2) := by decide +kernel
theorem dJ6_numberOfTrailingZeros_0f7a4_47 : decode cJ6_numberOfTrailingZeros_0f7a4 47 = .ok (.iushr, 1) := by decide +kernel
theorem dJ6_numberOfTrailingZeros_0f7a4_48 : decode cJ6_numberOfTrailingZeros_0f7a4 48 = .ok (.istore_n 0, 1) := by decide +kernel
theorem dJ6_numberOfTrailingZeros_0f7a4_49 : decode cJ6_numberOfTrailingZeros_0f7a4 49 = .ok (.iload_n 0, 1) := by decide +kernel
theorem dJ6_numberOfTrailingZeros_0f7a4_50 : decode cJ6_numberOfTrailingZeros_0f7a4 50 = .ok (.bipush 16, 2) := by decide +kernel
theorem dJ6_numberOfTrailingZeros_0f7a4_52 : decode cJ6_numberOfTrailingZeros_0f7a4 52 = .ok (.if_icmp .le 10, 3) := by decide +kernel
theorem dJ6_numberOfTrailingZeros_0f7a4_55 : decode cJ6_numberOfTrailingZeros_0f7a4 55 = .ok (.iinc 1 4, 3) := by decide +kernel
theorem dJ6_numberOfTrailingZeros_0f7a4_58 : decode cJ6_numberOfTrailingZeros_0f7a4 58 = .ok (.iload_n 0, 1) := by decide +kernel
theorem dJ6_numberOfTrailingZeros_0f7a4_59 : decode cJ6_numberOfTrailingZeros_0f7a4 59 = .ok (.iconst 4, 1) := by decide +kernel
theorem dJ6_numberOfTrailingZeros_0f7a4_60 : decode cJ6_numberOfTrailingZeros_0f7a4 60 = .ok (.iushr, 1) := by decide +kernel
theorem dJ6_numberOfTrailingZeros_0f7a4_61 : decode cJ6_numberOfTrailingZeros_0f7a4 61 = .ok (.istore_n 0, 1) := by decide +kernel
theorem dJ6_numberOfTrailingZeros_0f7a4_62 : decode cJ6_numberOfTrailingZeros_0f7a4 62 = .ok (.iload_n 0, 1) := by decide +kernel
theorem dJ6_numberOfTrailingZeros_0f7a4_63 : decode cJ6_numberOfTrailingZeros_0f7a4 63 = .ok (.iconst 4, 1) := by decide +kernel
theorem dJ6_numberOfTrailingZeros_0f7a4_64 : decode cJ6_numberOfTrailingZeros_0f7a4 64 = .ok (.if_icmp .le 10, 3) := by decide +kernel
theorem dJ6_numberOfTrailingZeros_0f7a4_67 : decode cJ6_numberOfTrailingZeros_0f7a4 67 = .ok (.iinc 1 2, 3) := by decide +kernel
theorem dJ6_numberOfTrailingZeros_0f7a4_70 : decode cJ6_numberOfTrailingZeros_0f7a4 70 = .ok (.iload_n 0, 1) := by decide +kernel
theorem dJ6_numberOfTrailingZeros_0f7a4_71 : decode cJ6_numberOfTrailingZeros_0f7a4 71 = .ok (.iconst 2, 1) := by decide +kernel
theorem dJ6_numberOfTrailingZeros_0f7a4_72 : decode cJ6_numberOfTrailingZeros_0f7a4 72 = .ok (.iushr, 1) := by decide +kernel
theorem dJ6_numberOfTrailingZeros_0f7a4_73 : decode cJ6_numberOfTrailingZeros_0f7a4 73 = .ok (.istore_n 0, 1) := by decide +kernel
theorem dJ6_numberOfTrailingZeros_0f7a4_74 : decode cJ6_numberOfTrailingZeros_0f7a4 74 = .ok (.iload_n 1, 1) := by decide +kernel
theorem dJ6_numberOfTrailingZeros_0f7a4_75 : decode cJ6_numberOfTrailingZeros_0f7a4 75 = .ok (.iload_n 0, 1) := by decide +kernel
theorem dJ6_numberOfTrailingZeros_0f7a4_76 : decode cJ6_numberOfTrailingZeros_0f7a4 76 = .ok (.iconst 1, 1) := by decide +kernel
theorem dJ6_numberOfTrailingZeros_0f7a4_77 : decode cJ6_numberOfTrailingZeros_0f7a4 77 = .ok (.iushr, 1) := by decide +kernel
theorem dJ6_numberOfTrailingZeros_0f7a4_78 : decode cJ6_numberOfTrailingZeros_0f7a4 78 = .ok (.iadd, 1) := by decide +kernel
theorem dJ6_numberOfTrailingZeros_0f7a4_79 : decode cJ6_numberOfTrailingZeros_0f7a4 79 = .ok (.ireturn, 1) := by decide +kernel
theorem dJ6_bitCount_0f7a4_0 : decode cJ6_bitCount_0f7a4 0 = .ok (.iload_n 0, 1) := by decide +kernel
theorem dJ6_bitCount_0f7a4_1 : decode cJ6_bitCount_0f7a4 1 = .ok (.iload_n 0, 1) := by decide +kernel
theorem dJ6_bitCount_0f7a4_2 : decode cJ6_bitCount_0f7a4 2 = .ok (.iconst 1, 1) := by decide +kernel
theorem dJ6_bitCount_0f7a4_3 : decode cJ6_bitCount_0f7a4 3 = .ok (.iushr, 1) := by decide +kernel
theorem dJ6_bitCount_0f7a4_4 : decode cJ6_bitCount_0f7a4 4 = .ok (.ldc_w 265, 3) := by decide +kernel
theorem dJ6_bitCount_0f7a4_7 : decode cJ6_bitCount_0f7a4 7 = .ok (.iand, 1) := by decide +kernel
theorem dJ6_bitCount_0f7a4_8 : decode cJ6_bitCount_0f7a4 8 = .ok (.isub, 1) := by decide +kernel
theorem dJ6_bitCount_0f7a4_9 : decode cJ6_bitCount_0f7a4 9 = .ok (.istore_n 0, 1) := by decide +kernel
theorem dJ6_bitCount_0f7a4_10 : decode cJ6_bitCount_0f7a4 10 = .ok (.iload_n 0, 1) := by decide +kernel
theorem dJ6_bitCount_0f7a4_11 : decode cJ6_bitCount_0f7a4 11 = .ok (.ldc_w 266, 3) := by decide +kernel
theorem dJ6_bitCount_0f7a4_14 : decode cJ6_bitCount_0f7a4 14 = .ok (.iand, 1) := by decide +kernel
theorem dJ6_bitCount_0f7a4_15 : decode cJ6_bitCount_0f7a4 15 = .ok (.iload_n 0, 1) := by decide +kernel
theorem dJ6_bitCount_0f7a4_16 : decode cJ6_bitCount_0f7a4 16 = .ok (.iconst 2, 1) := by decide +kernel
theorem dJ6_bitCount_0f7a4_17 : decode cJ6_bitCount_0f7a4 17 = .ok (.iushr, 1) := by decide +kernel
theorem dJ6_bitCount_0f7a4_18 : decode cJ6_bitCount_0f7a4 18 = .ok (.ldc_w 266, 3) := by decide +kernel
theorem dJ6_bitCount_0f7a4_21 : decode cJ6_bitCount_0f7a4 21 = .ok (.iand, 1) := by decide +kernel
theorem dJ6_bitCount_0f7a4_22 : decode cJ6_bitCount_0f7a4 22 = .ok (.iadd, 1) := by decide +kernel
theorem dJ6_bitCount_0f7a4_23 : decode cJ6_bitCount_0f7a4 23 = .ok (.istore_n 0, 1) := by decide +kernel
theorem dJ6_bitCount_0f7a4_24 : decode cJ6_bitCount_0f7a4 24 = .ok (.iload_n 0, 1) := by decide +kernel
theorem dJ6_bitCount_0f7a4_25 : decode cJ6_bitCount_0f7a4 25 = .ok (.iload_n 0, 1) := by decide +kernel
theorem dJ6_bitCount_0f7a4_26 : decode cJ6_bitCount_0f7a4 26 = .ok (.iconst 4, 1) := by decide +kernel
theorem dJ6_bitCount_0f7a4_27 : decode cJ6_bitCount_0f7a4 27 = .ok (.iushr, 1) := by decide +kernel
theorem dJ6_bitCount_0f7a4_28 : decode cJ6_bitCount_0f7a4 28 = .ok (.iadd, 1) := by decide +kernel
theorem dJ6_bitCount_0f7a4_29 : decode cJ6_bitCount_0f7a4 29 = .ok (.ldc_w 267, 3) := by decide +kernel
theorem dJ6_bitCount_0f7a4_32 : decode cJ6_bitCount_0f7a4 32 = .ok (.iand, 1) := by decide +kernel
theorem dJ6_bitCount_0f7a4_33 : decode cJ6_bitCount_0f7a4 33 = .ok (.istore_n 0, 1) := by decide +kernel
theorem dJ6_bitCount_0f7a4_34 : decode cJ6_bitCount_0f7a4 34 = .ok (.iload_n 0, 1) := by decide +kernel
theorem dJ6_bitCount_0f7a4_35 : decode cJ6_bitCount_0f7a4 35 = .ok (.iload_n 0, 1) := by decide +kernel
theorem dJ6_bitCount_0f7a4_36 : decode cJ6_bitCount_0f7a4 36 = .ok (.bipush 8, 2) := by decide +kernel
theorem dJ6_bitCount_0f7a4_38 : decode cJ6_bitCount_0f7a4 38 = .ok (.iushr, 1) := by decide +kernel
theorem dJ6_bitCount_0f7a4_39 : decode cJ6_bitCount_0f7a4 39 = .ok (.iadd, 1) := by decide +kernel
theorem dJ6_bitCount_0f7a4_40 : decode cJ6_bitCount_0f7a4 40 = .ok (.istore_n 0, 1) := by decide +kernel
theorem dJ6_bitCount_0f7a4_41 : decode cJ6_bitCount_0f7a4 41 = .ok (.iload_n 0, 1) := by decide +kernel
theorem dJ6_bitCount_0f7a4_42 : decode cJ6_bitCount_0f7a4 42 = .ok (.iload_n 0, 1) := by decide +kernel
theorem dJ6_bitCount_0f7a4_43 : decode cJ6_bitCount_0f7a4 43 = .ok (.bipush 16, 2) := by decide +kernel
theorem dJ6_bitCount_0f7a4_45 : decode cJ6_bitCount_0f7a4 45 = .ok (.iushr, 1) := by decide +kernel
theorem dJ6_bitCount_0f7a4_46 : decode cJ6_bitCount_0f7a4 46 = .ok (.iadd, 1) := by decide +kernel
theorem dJ6_bitCount_0f7a4_47 : decode cJ6_bitCount_0f7a4 47 = .ok (.istore_n 0, 1) := by decide +kernel
theorem dJ6_bitCount_0f7a4_48 : decode cJ6_bitCount_0f7a4 48 = .ok (.iload_n 0, 1) := by decide +kernel
theorem dJ6_bitCount_0f7a4_49 : decode cJ6_bitCount_0f7a4 49 = .ok (.bipush 63, 2) := by decide +kernel
theorem dJ6_bitCount_0f7a4_51 : decode cJ6_bitCount_0f7a4 51 = .ok (.iand, 1) := by decide +kernel
theorem dJ6_bitCount_0f7a4_52 : decode cJ6_bitCount_0f7a4 52 = .ok (.ireturn, 1) := by decide +kernel
theorem dJ9_max_7cf53_0 : decode cJ9_max_7cf53 0 = .ok (.iload_n 0, 1) := by decide +kernel
theorem dJ9_max_7cf53_1 : decode cJ9_max_7cf53 1 = .ok (.iload_n 1, 1) := by decide +kernel
theorem dJ9_max_7cf53_2 : decode cJ9_max_7cf53 2 = .ok (.if_icmp .lt 7, 3) := by decide +kernel
theorem dJ9_max_7cf53_5 : decode cJ9_max_7cf53 5 = .ok (.iload_n 0, 1) := by decide +kernel
theorem dJ9_max_7cf53_6 : decode cJ9_max_7cf53 6 = .ok (.goto 4, 3) := by decide +kernel
theorem dJ9_max_7cf53_9 : decode cJ9_max_7cf53 9 = .ok (.iload_n 1, 1) := by decide +kernel
theorem dJ9_max_7cf53_10 : decode cJ9_max_7cf53 10 = .ok (.ireturn, 1) := by decide +kernel
theorem dJ9_max_f86c9_0 : decode cJ9_max_f86c9 0 = .ok (.lload_n 0, 1) := by decide +kernel
theorem dJ9_max_f86c9_1 : decode cJ9_max_f86c9 1 = .ok (.lload_n 2, 1) := by decide +kernel
theorem dJ9_max_f86c9_2 : decode cJ9_max_f86c9 2 = .ok (.lcmp, 1) := by decide +kernel
theorem dJ9_max_f86c9_3 : decode cJ9_max_f86c9 3 = .ok (.ifCond .lt 7, 3) := by decide +kernel
theorem dJ9_max_f86c9_6 : decode cJ9_max_f86c9 6 = .ok (.lload_n 0, 1) := by decide +kernel
theorem dJ9_max_f86c9_7 : decode cJ9_max_f86c9 7 = .ok (.goto 4, 3) := by decide +kernel
theorem dJ9_max_f86c9_10 : decode cJ9_max_f86c9 10 = .ok (.lload_n 2, 1) := by decide +kernel
theorem dJ9_max_f86c9_11 : decode cJ9_max_f86c9 11 = .ok (.lreturn, 1) := by decide +kernel
theorem dJ9_min_7cf53_0 : decode cJ9_min_7cf53 0 = .ok (.iload_n 0, 1) := by decide +kernel
theorem dJ9_min_7cf53_1 : decode cJ9_min_7cf53 1 = .ok (.iload_n 1, 1) := by decide +kernel
theorem dJ9_min_7cf53_2 : decode cJ9_min_7cf53 2 = .ok (.if_icmp .gt 7, 3) := by decide +kernel
theorem dJ9_min_7cf53_5 : decode cJ9_min_7cf53 5 = .ok (.iload_n 0, 1) := by decide +kernel
theorem dJ9_min_7cf53_6 : decode cJ9_min_7cf53 6 = .ok (.goto 4, 3) := by decide +kernel
theorem dJ9_min_7cf53_9 : decode cJ9_min_7cf53 9 = .ok (.iload_n 1, 1) := by decide +kernel
theorem dJ9_min_7cf53_10 : decode cJ9_min_7cf53 10 = .ok (.ireturn, 1) := by decide +kernel
abbrev vwCl : List vw_C := [(RX0, TX0, 3), (RX1, TX1, 9), (RX2, TX2, 4), (RX3, TX3, 5), (RX4, TX4, 11), (RX5, TX5, 27)]
end
section
/-- the words of the tables that a call may hand on -/
def lw_u : List Cond := lw_tbl.filter goodWord
theorem lw_m0 {w : Cond} (h : w ∈ k2_sels lw_privs) (g : goodWord w = true) : w ∈ lw_u := List.mem_filter.mpr ⟨List.mem_append_left _ h, g⟩
theorem lw_m1 {w : Cond} (h : w ∈ tables_1_1) (g : goodWord w = true) : w ∈ lw_u := List.mem_filter.mpr ⟨List.mem_append_right _ (List.mem_append_left _ h), g⟩
theorem lw_m2 {w : Cond} (h : w ∈ tables_1_2) (g : goodWord w = true) : w ∈ lw_u := List.mem_filter.mpr ⟨List.mem_append_right _ (List.mem_append_right _ (List.mem_append_left _ h)), g⟩
theorem lw_m3 {w : Cond} (h : w ∈ tables_1_3) (g : goodWord w = true) : w ∈ lw_u := List.mem_filter.mpr ⟨List.mem_append_right _ (List.mem_append_right _ (List.mem_append_right _ (List.mem_append_left _ h))), g⟩
theorem lw_m4 {w : Cond} (h : w ∈ tables_1_4) (g : goodWord w = true) : w ∈ lw_u := List.mem_filter.mpr ⟨List.mem_append_right _ (List.mem_append_right _ (List.mem_append_right _ (List.mem_append_right _ (List.mem_append_left _ h)))), g⟩
theorem lw_m5 {w : Cond} (h : w ∈ tables_1_5) (g : goodWord w = true) : w ∈ lw_u := List.mem_filter.mpr ⟨List.mem_append_right _ (List.mem_append_right _ (List.mem_append_right _ (List.mem_append_right _ (List.mem_append_right _ h)))), g⟩
theorem lw_t {w : Cond} (h : w ∈ tables_1) (g : goodWord w = true) : w ∈ lw_u := List.mem_filter.mpr ⟨List.mem_append_right _ h, g⟩
theorem lw_good : GoodIn lw_u lw_u := fun _ h => ⟨h, good_of_word (List.mem_filter.mp h).2⟩
theorem lw_G {w : Cond} (h : w ∈ lw_u) : GoodIn lw_u (w :: lw_u) := fun x hx => (List.mem_cons.mp hx).elim (fun e => e ▸ lw_good w h) (lw_good x)
theorem lw_in_X0 : ∀ w ∈ u_ws RX0 TX0 3, w ∈ lw_u := by
  have h : ∀ w ∈ u_ws RX0 TX0 3, w ∈ tables_1 ∧ goodWord w = true := by decide +kernel
  exact fun w hw => lw_t (h w hw).1 (h w hw).2
theorem lw_in_X1 : ∀ w ∈ u_ws RX1 TX1 9, w ∈ lw_u := by
  have h : ∀ w ∈ u_ws RX1 TX1 9, w ∈ tables_1 ∧ goodWord w = true := by decide +kernel
  exact fun w hw => lw_t (h w hw).1 (h w hw).2
theorem lw_in_X2 : ∀ w ∈ u_ws RX2 TX2 4, w ∈ lw_u := by
  have h : ∀ w ∈ u_ws RX2 TX2 4, w ∈ tables_1 ∧ goodWord w = true := by decide +kernel
  exact fun w hw => lw_t (h w hw).1 (h w hw).2
theorem lw_in_X3 : ∀ w ∈ u_ws RX3 TX3 5, w ∈ lw_u := by
  have h : ∀ w ∈ u_ws RX3 TX3 5, w ∈ tables_1 ∧ goodWord w = true := by decide +kernel
  exact fun w hw => lw_t (h w hw).1 (h w hw).2
theorem lw_in_X4 : ∀ w ∈ u_ws RX4 TX4 11, w ∈ lw_u := by
  have h : ∀ w ∈ u_ws RX4 TX4 11, w ∈ tables_1 ∧ goodWord w = true := by decide +kernel
  exact fun w hw => lw_t (h w hw).1 (h w hw).2
theorem lw_in_X5 : ∀ w ∈ u_ws RX5 TX5 27, w ∈ lw_u := by
  have h : ∀ w ∈ u_ws RX5 TX5 27, w ∈ tables_1 ∧ goodWord w = true := by decide +kernel
  exact fun w hw => lw_t (h w hw).1 (h w hw).2
theorem uw_0 : Cond.initialized RL ∈ lw_u := lw_m1 (List.mem_of_getElem? (i := 0) (by decide +kernel)) rfl
theorem uw_1 : Cond.initialized RX4 ∈ lw_u := lw_m1 (List.mem_of_getElem? (i := 1) (by decide +kernel)) rfl
theorem uw_2 : Cond.initialized RX3 ∈ lw_u := lw_m1 (List.mem_of_getElem? (i := 2) (by decide +kernel)) rfl
theorem uw_3 : Cond.initialized RX1 ∈ lw_u := lw_m1 (List.mem_of_getElem? (i := 3) (by decide +kernel)) rfl
theorem uw_4 : Cond.initialized RX0 ∈ lw_u := lw_m1 (List.mem_of_getElem? (i := 4) (by decide +kernel)) rfl
theorem uw_5 : Cond.initialized RX2 ∈ lw_u := lw_m1 (List.mem_of_getElem? (i := 5) (by decide +kernel)) rfl
theorem uw_6 : Cond.initialized RX5 ∈ lw_u := lw_m1 (List.mem_of_getElem? (i := 6) (by decide +kernel)) rfl
theorem uw_7 : Cond.initialized RJ10 ∈ lw_u := lw_m1 (List.mem_of_getElem? (i := 7) (by decide +kernel)) rfl
theorem uw_8 : Cond.initialized RJ9 ∈ lw_u := lw_m1 (List.mem_of_getElem? (i := 8) (by decide +kernel)) rfl
theorem uw_9 : Cond.initialized RJ6 ∈ lw_u := lw_m1 (List.mem_of_getElem? (i := 9) (by decide +kernel)) rfl
theorem uw_10 : Cond.classLink RL 7 RX4 ∈ lw_u := lw_m1 (List.mem_of_getElem? (i := 10) (by decide +kernel)) rfl
theorem uw_11 : Cond.instantiable RX4 11 ∈ lw_u := lw_m1 (List.mem_of_getElem? (i := 11) (by decide +kernel)) rfl
theorem uw_12 : Cond.methodLink RL 9 yX4_init ∈ lw_u := lw_m1 (List.mem_of_getElem? (i := 12) (by decide +kernel)) rfl
theorem uw_13 : Cond.instanceMethod yX4_init ∈ lw_u := lw_m1 (List.mem_of_getElem? (i := 13) (by decide +kernel)) rfl
theorem uw_14 : Cond.code yX4_init cX4_init 2 none ∈ lw_u := lw_m1 (List.mem_of_getElem? (i := 14) rfl) rfl
theorem uw_15 : Cond.methodLink RX4 1 objectInit ∈ lw_u := lw_m1 (List.mem_of_getElem? (i := 15) (by decide +kernel)) rfl
theorem uw_16 : Cond.instanceMethod objectInit ∈ lw_u := lw_m1 (List.mem_of_getElem? (i := 16) (by decide +kernel)) rfl
theorem uw_17 : Cond.code objectInit ⟨#[0xb1]⟩ 1 none ∈ lw_u := lw_m1 (List.mem_of_getElem? (i := 17) rfl) rfl
theorem uw_18 : Cond.classLink RX4 9 RX2 ∈ lw_u := lw_m1 (List.mem_of_getElem? (i := 18) (by decide +kernel)) rfl
theorem uw_19 : Cond.classLink RX4 15 RX3 ∈ lw_u := lw_m1 (List.mem_of_getElem? (i := 20) (by decide +kernel)) rfl
theorem uw_20 : Cond.instantiable RX3 5 ∈ lw_u := lw_m1 (List.mem_of_getElem? (i := 21) (by decide +kernel)) rfl
theorem uw_21 : Cond.instanceMethod yX3_init ∈ lw_u := lw_m1 (List.mem_of_getElem? (i := 23) (by decide +kernel)) rfl
theorem uw_22 : Cond.code yX3_init cX3_init 1 none ∈ lw_u := lw_m1 (List.mem_of_getElem? (i := 24) rfl) rfl
theorem uw_23 : Cond.methodLink RX3 3 objectInit ∈ lw_u := lw_m1 (List.mem_of_getElem? (i := 25) (by decide +kernel)) rfl
theorem uw_24 : Cond.fieldLink RX3 9 "LampLogs$Tape" "bytes" "[I" ∈ lw_u := lw_m1 (List.mem_of_getElem? (i := 26) (by decide +kernel)) rfl
theorem uw_25 : Cond.fieldLink RX3 15 "LampLogs$Tape" "length" "I" ∈ lw_u := lw_m1 (List.mem_of_getElem? (i := 27) (by decide +kernel)) rfl
theorem uw_26 : Cond.fieldLink RX4 97 "LampLogs$Tape" "length" "I" ∈ lw_u := lw_m1 (List.mem_of_getElem? (i := 28) (by decide +kernel)) rfl
theorem uw_27 : Cond.fieldLink RX3 19 "LampLogs$Tape" "at" "I" ∈ lw_u := lw_m1 (List.mem_of_getElem? (i := 29) (by decide +kernel)) rfl
theorem uw_28 : Cond.fieldLink RX3 40 "LampLogs$Tape" "faultNumber" "I" ∈ lw_u := lw_m1 (List.mem_of_getElem? (i := 30) (by decide +kernel)) rfl
theorem uw_29 : Cond.fieldLink RX4 106 "LampLogs$Tape" "faultNumber" "I" ∈ lw_u := lw_m1 (List.mem_of_getElem? (i := 31) (by decide +kernel)) rfl
theorem uw_30 : Cond.fieldLink RX3 37 "LampLogs$Tape" "faultPlace" "I" ∈ lw_u := lw_m1 (List.mem_of_getElem? (i := 32) (by decide +kernel)) rfl
theorem uw_31 : Cond.fieldLink RX4 113 "LampLogs$Tape" "faultPlace" "I" ∈ lw_u := lw_m1 (List.mem_of_getElem? (i := 33) (by decide +kernel)) rfl
theorem uw_32 : Cond.arrayClass .int ∈ lw_u := lw_m1 (List.mem_of_getElem? (i := 45) (by decide +kernel)) rfl
theorem uw_33 : Cond.classLink RX4 22 RX1 ∈ lw_u := lw_m1 (List.mem_of_getElem? (i := 46) (by decide +kernel)) rfl
theorem uw_34 : Cond.instantiable RX1 9 ∈ lw_u := lw_m1 (List.mem_of_getElem? (i := 47) (by decide +kernel)) rfl
theorem uw_35 : Cond.instanceMethod yX1_init ∈ lw_u := lw_m1 (List.mem_of_getElem? (i := 49) (by decide +kernel)) rfl
theorem uw_36 : Cond.code yX1_init cX1_init 1 none ∈ lw_u := lw_m1 (List.mem_of_getElem? (i := 50) rfl) rfl
theorem uw_37 : Cond.methodLink RX1 3 objectInit ∈ lw_u := lw_m1 (List.mem_of_getElem? (i := 51) (by decide +kernel)) rfl
theorem uw_38 : Cond.fieldLink RX1 9 "LampLogs$Light" "thicks" "[I" ∈ lw_u := lw_m1 (List.mem_of_getElem? (i := 52) (by decide +kernel)) rfl
theorem uw_39 : Cond.fieldLink RX3 72 "LampLogs$Light" "thicks" "[I" ∈ lw_u := lw_m1 (List.mem_of_getElem? (i := 53) (by decide +kernel)) rfl
theorem uw_40 : Cond.fieldLink RX4 164 "LampLogs$Light" "thicks" "[I" ∈ lw_u := lw_m1 (List.mem_of_getElem? (i := 54) (by decide +kernel)) rfl
theorem uw_41 : Cond.fieldLink RX1 15 "LampLogs$Light" "kinds" "[I" ∈ lw_u := lw_m1 (List.mem_of_getElem? (i := 55) (by decide +kernel)) rfl
theorem uw_42 : Cond.fieldLink RX3 82 "LampLogs$Light" "kinds" "[I" ∈ lw_u := lw_m1 (List.mem_of_getElem? (i := 56) (by decide +kernel)) rfl
theorem uw_43 : Cond.fieldLink RX4 275 "LampLogs$Light" "kinds" "[I" ∈ lw_u := lw_m1 (List.mem_of_getElem? (i := 57) (by decide +kernel)) rfl
theorem uw_44 : Cond.fieldLink RX1 18 "LampLogs$Light" "places" "[I" ∈ lw_u := lw_m1 (List.mem_of_getElem? (i := 58) (by decide +kernel)) rfl
theorem uw_45 : Cond.fieldLink RX3 85 "LampLogs$Light" "places" "[I" ∈ lw_u := lw_m1 (List.mem_of_getElem? (i := 59) (by decide +kernel)) rfl
theorem uw_46 : Cond.fieldLink RX4 173 "LampLogs$Light" "places" "[I" ∈ lw_u := lw_m1 (List.mem_of_getElem? (i := 60) (by decide +kernel)) rfl
theorem uw_47 : Cond.fieldLink RX1 25 "LampLogs$Light" "cellCount" "I" ∈ lw_u := lw_m1 (List.mem_of_getElem? (i := 61) (by decide +kernel)) rfl
theorem uw_48 : Cond.fieldLink RX3 63 "LampLogs$Light" "cellCount" "I" ∈ lw_u := lw_m1 (List.mem_of_getElem? (i := 62) (by decide +kernel)) rfl
theorem uw_49 : Cond.fieldLink RX4 170 "LampLogs$Light" "cellCount" "I" ∈ lw_u := lw_m1 (List.mem_of_getElem? (i := 63) (by decide +kernel)) rfl
theorem uw_50 : Cond.fieldLink RX1 28 "LampLogs$Light" "eyesight" "I" ∈ lw_u := lw_m1 (List.mem_of_getElem? (i := 64) (by decide +kernel)) rfl
theorem uw_51 : Cond.fieldLink RX3 66 "LampLogs$Light" "eyesight" "I" ∈ lw_u := lw_m1 (List.mem_of_getElem? (i := 65) (by decide +kernel)) rfl
theorem uw_52 : Cond.fieldLink RX4 167 "LampLogs$Light" "eyesight" "I" ∈ lw_u := lw_m1 (List.mem_of_getElem? (i := 66) (by decide +kernel)) rfl
theorem uw_53 : Cond.fieldLink RX1 31 "LampLogs$Light" "oil" "I" ∈ lw_u := lw_m1 (List.mem_of_getElem? (i := 67) (by decide +kernel)) rfl
theorem uw_54 : Cond.fieldLink RX3 69 "LampLogs$Light" "oil" "I" ∈ lw_u := lw_m1 (List.mem_of_getElem? (i := 68) (by decide +kernel)) rfl
theorem uw_55 : Cond.fieldLink RX4 158 "LampLogs$Light" "oil" "I" ∈ lw_u := lw_m1 (List.mem_of_getElem? (i := 69) (by decide +kernel)) rfl
theorem uw_56 : Cond.fieldLink RX1 34 "LampLogs$Light" "watch" "I" ∈ lw_u := lw_m1 (List.mem_of_getElem? (i := 70) (by decide +kernel)) rfl
theorem uw_57 : Cond.fieldLink RX4 142 "LampLogs$Light" "watch" "I" ∈ lw_u := lw_m1 (List.mem_of_getElem? (i := 71) (by decide +kernel)) rfl
theorem uw_58 : Cond.fieldLink RX1 21 "LampLogs$Light" "fogCount" "I" ∈ lw_u := lw_m1 (List.mem_of_getElem? (i := 72) (by decide +kernel)) rfl
theorem uw_59 : Cond.fieldLink RX3 75 "LampLogs$Light" "fogCount" "I" ∈ lw_u := lw_m1 (List.mem_of_getElem? (i := 73) (by decide +kernel)) rfl
theorem uw_60 : Cond.fieldLink RX4 161 "LampLogs$Light" "fogCount" "I" ∈ lw_u := lw_m1 (List.mem_of_getElem? (i := 74) (by decide +kernel)) rfl
theorem uw_61 : Cond.fieldLink RX1 37 "LampLogs$Light" "shipCount" "I" ∈ lw_u := lw_m1 (List.mem_of_getElem? (i := 75) (by decide +kernel)) rfl
theorem uw_62 : Cond.fieldLink RX4 123 "LampLogs$Light" "shipCount" "I" ∈ lw_u := lw_m1 (List.mem_of_getElem? (i := 76) (by decide +kernel)) rfl
theorem uw_63 : Cond.fieldLink RX3 88 "LampLogs$Light" "shipCount" "I" ∈ lw_u := lw_m1 (List.mem_of_getElem? (i := 77) (by decide +kernel)) rfl
theorem uw_64 : Cond.classLink RX4 35 RX0 ∈ lw_u := lw_m1 (List.mem_of_getElem? (i := 97) (by decide +kernel)) rfl
theorem uw_65 : Cond.instantiable RX0 3 ∈ lw_u := lw_m1 (List.mem_of_getElem? (i := 98) (by decide +kernel)) rfl
theorem uw_66 : Cond.methodLink RX4 37 yX0_init ∈ lw_u := lw_m1 (List.mem_of_getElem? (i := 99) (by decide +kernel)) rfl
theorem uw_67 : Cond.instanceMethod yX0_init ∈ lw_u := lw_m1 (List.mem_of_getElem? (i := 100) (by decide +kernel)) rfl
theorem uw_68 : Cond.code yX0_init cX0_init 2 none ∈ lw_u := lw_m1 (List.mem_of_getElem? (i := 101) rfl) rfl
theorem uw_69 : Cond.methodLink RX0 3 objectInit ∈ lw_u := lw_m1 (List.mem_of_getElem? (i := 102) (by decide +kernel)) rfl
theorem uw_70 : Cond.classLink RX0 9 RX1 ∈ lw_u := lw_m1 (List.mem_of_getElem? (i := 103) (by decide +kernel)) rfl
theorem uw_71 : Cond.fieldLink RX0 11 "LampLogs$Acts" "ring" "[LLampLogs$Light;" ∈ lw_u := lw_m1 (List.mem_of_getElem? (i := 106) (by decide +kernel)) rfl
theorem uw_72 : Cond.fieldLink RX0 22 "LampLogs$Acts" "next" "I" ∈ lw_u := lw_m1 (List.mem_of_getElem? (i := 107) (by decide +kernel)) rfl
theorem uw_73 : Cond.fieldLink RX0 18 "LampLogs$Acts" "kept" "I" ∈ lw_u := lw_m1 (List.mem_of_getElem? (i := 108) (by decide +kernel)) rfl
theorem uw_74 : Cond.fieldLink RX4 126 "LampLogs$Acts" "kept" "I" ∈ lw_u := lw_m1 (List.mem_of_getElem? (i := 109) (by decide +kernel)) rfl
theorem uw_75 : Cond.instantiable RX2 4 ∈ lw_u := lw_m1 (List.mem_of_getElem? (i := 117) (by decide +kernel)) rfl
theorem uw_76 : Cond.instanceMethod yX2_init ∈ lw_u := lw_m1 (List.mem_of_getElem? (i := 119) (by decide +kernel)) rfl
theorem uw_77 : Cond.code yX2_init cX2_init 1 none ∈ lw_u := lw_m1 (List.mem_of_getElem? (i := 120) rfl) rfl
theorem uw_78 : Cond.methodLink RX2 3 objectInit ∈ lw_u := lw_m1 (List.mem_of_getElem? (i := 121) (by decide +kernel)) rfl
theorem uw_79 : Cond.fieldLink RX2 9 "LampLogs$Row" "items" "[I" ∈ lw_u := lw_m1 (List.mem_of_getElem? (i := 122) (by decide +kernel)) rfl
theorem uw_80 : Cond.fieldLink RX4 85 "LampLogs$Row" "items" "[I" ∈ lw_u := lw_m1 (List.mem_of_getElem? (i := 123) (by decide +kernel)) rfl
theorem uw_81 : Cond.fieldLink RX2 15 "LampLogs$Row" "missing" "Z" ∈ lw_u := lw_m1 (List.mem_of_getElem? (i := 124) (by decide +kernel)) rfl
theorem uw_82 : Cond.fieldLink RX4 74 "LampLogs$Row" "missing" "Z" ∈ lw_u := lw_m1 (List.mem_of_getElem? (i := 125) (by decide +kernel)) rfl
theorem uw_83 : Cond.fieldLink RX2 19 "LampLogs$Row" "lane" "I" ∈ lw_u := lw_m1 (List.mem_of_getElem? (i := 126) (by decide +kernel)) rfl
theorem uw_84 : Cond.fieldLink RX4 78 "LampLogs$Row" "lane" "I" ∈ lw_u := lw_m1 (List.mem_of_getElem? (i := 127) (by decide +kernel)) rfl
theorem uw_85 : Cond.fieldLink RX2 23 "LampLogs$Row" "length" "I" ∈ lw_u := lw_m1 (List.mem_of_getElem? (i := 128) (by decide +kernel)) rfl
theorem uw_86 : Cond.fieldLink RX4 94 "LampLogs$Row" "length" "I" ∈ lw_u := lw_m1 (List.mem_of_getElem? (i := 129) (by decide +kernel)) rfl
theorem uw_87 : Cond.fieldLink RX4 11 "LampLogs" "rows" "[LLampLogs$Row;" ∈ lw_u := lw_m1 (List.mem_of_getElem? (i := 139) (by decide +kernel)) rfl
theorem uw_88 : Cond.fieldLink RX4 18 "LampLogs" "tape" "LLampLogs$Tape;" ∈ lw_u := lw_m1 (List.mem_of_getElem? (i := 140) (by decide +kernel)) rfl
theorem uw_89 : Cond.fieldLink RX4 25 "LampLogs" "now" "LLampLogs$Light;" ∈ lw_u := lw_m1 (List.mem_of_getElem? (i := 141) (by decide +kernel)) rfl
theorem uw_90 : Cond.fieldLink RX4 29 "LampLogs" "probe" "LLampLogs$Light;" ∈ lw_u := lw_m1 (List.mem_of_getElem? (i := 142) (by decide +kernel)) rfl
theorem uw_91 : Cond.fieldLink RX4 32 "LampLogs" "later" "LLampLogs$Light;" ∈ lw_u := lw_m1 (List.mem_of_getElem? (i := 143) (by decide +kernel)) rfl
theorem uw_92 : Cond.fieldLink RX4 38 "LampLogs" "acts" "LLampLogs$Acts;" ∈ lw_u := lw_m1 (List.mem_of_getElem? (i := 144) (by decide +kernel)) rfl
theorem uw_93 : Cond.fieldLink RX4 42 "LampLogs" "images" "[LLampLogs$Light;" ∈ lw_u := lw_m1 (List.mem_of_getElem? (i := 145) (by decide +kernel)) rfl
theorem uw_94 : Cond.fieldLink RX4 46 "LampLogs" "steps" "[I" ∈ lw_u := lw_m1 (List.mem_of_getElem? (i := 146) (by decide +kernel)) rfl
theorem uw_95 : Cond.fieldLink RX4 281 "LampLogs" "stepCount" "I" ∈ lw_u := lw_m1 (List.mem_of_getElem? (i := 147) (by decide +kernel)) rfl
theorem uw_96 : Cond.fieldLink RX4 109 "LampLogs" "latestFault" "I" ∈ lw_u := lw_m1 (List.mem_of_getElem? (i := 148) (by decide +kernel)) rfl
theorem uw_97 : Cond.fieldLink RX4 294 "LampLogs" "latestFinding" "I" ∈ lw_u := lw_m1 (List.mem_of_getElem? (i := 149) (by decide +kernel)) rfl
theorem uw_98 : Cond.methodLink RL 13 yX4_row ∈ lw_u := lw_m1 (List.mem_of_getElem? (i := 173) (by decide +kernel)) rfl
theorem uw_99 : Cond.instanceMethod yX4_row ∈ lw_u := lw_m1 (List.mem_of_getElem? (i := 174) (by decide +kernel)) rfl
theorem uw_100 : Cond.selects RX4 yX4_row yX4_row ∈ lw_u := lw_m1 (List.mem_of_getElem? (i := 175) (by decide +kernel)) rfl
theorem uw_101 : Cond.code yX4_row cX4_row 4 (some .int) ∈ lw_u := lw_m1 (List.mem_of_getElem? (i := 176) rfl) rfl
theorem uw_102 : Cond.methodLink RX4 51 yX4_isBelow ∈ lw_u := lw_m1 (List.mem_of_getElem? (i := 177) (by decide +kernel)) rfl
theorem uw_103 : Cond.static yX4_isBelow ∈ lw_u := lw_m1 (List.mem_of_getElem? (i := 178) (by decide +kernel)) rfl
theorem uw_104 : Cond.code yX4_isBelow cX4_isBelow 2 (some .boolean) ∈ lw_u := lw_m1 (List.mem_of_getElem? (i := 179) rfl) rfl
theorem uw_105 : Cond.constant RX4 55 (-1000001) ∈ lw_u := lw_m1 (List.mem_of_getElem? (i := 180) (by decide +kernel)) rfl
theorem uw_106 : Cond.methodLink RX4 56 yX4_found ∈ lw_u := lw_m1 (List.mem_of_getElem? (i := 181) (by decide +kernel)) rfl
theorem uw_107 : Cond.instanceMethod yX4_found ∈ lw_u := lw_m1 (List.mem_of_getElem? (i := 183) (by decide +kernel)) rfl
theorem uw_108 : Cond.code yX4_found cX4_found 2 (some .int) ∈ lw_u := lw_m1 (List.mem_of_getElem? (i := 184) rfl) rfl
theorem uw_109 : Cond.constant RX4 297 (-1000010) ∈ lw_u := lw_m1 (List.mem_of_getElem? (i := 185) (by decide +kernel)) rfl
theorem uw_110 : Cond.methodLink RX4 60 yX2_begin ∈ lw_u := lw_m1 (List.mem_of_getElem? (i := 186) (by decide +kernel)) rfl
theorem uw_111 : Cond.instanceMethod yX2_begin ∈ lw_u := lw_m1 (List.mem_of_getElem? (i := 187) (by decide +kernel)) rfl
theorem uw_112 : Cond.selects RX2 yX2_begin yX2_begin ∈ lw_u := lw_m1 (List.mem_of_getElem? (i := 188) (by decide +kernel)) rfl
theorem uw_113 : Cond.code yX2_begin cX2_begin 4 none ∈ lw_u := lw_m1 (List.mem_of_getElem? (i := 189) rfl) rfl
theorem uw_114 : Cond.methodLink RX4 64 yX4_unfound ∈ lw_u := lw_m1 (List.mem_of_getElem? (i := 190) (by decide +kernel)) rfl
theorem uw_115 : Cond.instanceMethod yX4_unfound ∈ lw_u := lw_m1 (List.mem_of_getElem? (i := 192) (by decide +kernel)) rfl
theorem uw_116 : Cond.code yX4_unfound cX4_unfound 2 (some .int) ∈ lw_u := lw_m1 (List.mem_of_getElem? (i := 193) rfl) rfl
theorem uw_117 : Cond.methodLink RL 18 yX4_set ∈ lw_u := lw_m1 (List.mem_of_getElem? (i := 194) (by decide +kernel)) rfl
theorem uw_118 : Cond.instanceMethod yX4_set ∈ lw_u := lw_m1 (List.mem_of_getElem? (i := 195) (by decide +kernel)) rfl
theorem uw_119 : Cond.selects RX4 yX4_set yX4_set ∈ lw_u := lw_m1 (List.mem_of_getElem? (i := 196) (by decide +kernel)) rfl
theorem uw_120 : Cond.code yX4_set cX4_set 6 (some .int) ∈ lw_u := lw_m1 (List.mem_of_getElem? (i := 197) rfl) rfl
theorem uw_121 : Cond.methodLink RX4 67 yX2_findingOf ∈ lw_u := lw_m1 (List.mem_of_getElem? (i := 198) (by decide +kernel)) rfl
theorem uw_122 : Cond.instanceMethod yX2_findingOf ∈ lw_u := lw_m1 (List.mem_of_getElem? (i := 199) (by decide +kernel)) rfl
theorem uw_123 : Cond.selects RX2 yX2_findingOf yX2_findingOf ∈ lw_u := lw_m1 (List.mem_of_getElem? (i := 200) (by decide +kernel)) rfl
theorem uw_124 : Cond.code yX2_findingOf cX2_findingOf 3 (some .int) ∈ lw_u := lw_m1 (List.mem_of_getElem? (i := 201) rfl) rfl
theorem uw_125 : Cond.methodLink RX2 26 yX2_hasSpan ∈ lw_u := lw_m1 (List.mem_of_getElem? (i := 202) (by decide +kernel)) rfl
theorem uw_126 : Cond.instanceMethod yX2_hasSpan ∈ lw_u := lw_m1 (List.mem_of_getElem? (i := 203) (by decide +kernel)) rfl
theorem uw_127 : Cond.selects RX2 yX2_hasSpan yX2_hasSpan ∈ lw_u := lw_m1 (List.mem_of_getElem? (i := 204) (by decide +kernel)) rfl
theorem uw_128 : Cond.code yX2_hasSpan cX2_hasSpan 3 (some .boolean) ∈ lw_u := lw_m1 (List.mem_of_getElem? (i := 205) rfl) rfl
theorem uw_129 : Cond.methodLink RX4 71 yX2_put ∈ lw_u := lw_m1 (List.mem_of_getElem? (i := 206) (by decide +kernel)) rfl
theorem uw_130 : Cond.instanceMethod yX2_put ∈ lw_u := lw_m1 (List.mem_of_getElem? (i := 207) (by decide +kernel)) rfl
theorem uw_131 : Cond.selects RX2 yX2_put yX2_put ∈ lw_u := lw_m1 (List.mem_of_getElem? (i := 208) (by decide +kernel)) rfl
theorem uw_132 : Cond.code yX2_put cX2_put 4 (some .int) ∈ lw_u := lw_m1 (List.mem_of_getElem? (i := 209) rfl) rfl
theorem uw_133 : Cond.methodLink RL 22 yX4_copy ∈ lw_u := lw_m1 (List.mem_of_getElem? (i := 210) (by decide +kernel)) rfl
theorem uw_134 : Cond.instanceMethod yX4_copy ∈ lw_u := lw_m1 (List.mem_of_getElem? (i := 211) (by decide +kernel)) rfl
theorem uw_135 : Cond.selects RX4 yX4_copy yX4_copy ∈ lw_u := lw_m1 (List.mem_of_getElem? (i := 212) (by decide +kernel)) rfl
theorem uw_136 : Cond.code yX4_copy cX4_copy 8 (some .int) ∈ lw_u := lw_m1 (List.mem_of_getElem? (i := 213) rfl) rfl
theorem uw_137 : Cond.methodLink RX4 82 yX2_hasSpan ∈ lw_u := lw_m1 (List.mem_of_getElem? (i := 214) (by decide +kernel)) rfl
theorem uw_138 : Cond.methodLink RX4 88 arraycopyName ∈ lw_u := lw_m1 (List.mem_of_getElem? (i := 215) (by decide +kernel)) rfl
theorem uw_139 : Cond.static arraycopyName ∈ lw_u := lw_m1 (List.mem_of_getElem? (i := 216) (by decide +kernel)) rfl
theorem uw_140 : Cond.native arraycopyName ∈ lw_u := lw_m1 (List.mem_of_getElem? (i := 217) (by decide +kernel)) rfl
theorem uw_141 : Cond.methodLink RL 27 yX4_drop ∈ lw_u := lw_m1 (List.mem_of_getElem? (i := 218) (by decide +kernel)) rfl
theorem uw_142 : Cond.instanceMethod yX4_drop ∈ lw_u := lw_m1 (List.mem_of_getElem? (i := 219) (by decide +kernel)) rfl
theorem uw_143 : Cond.selects RX4 yX4_drop yX4_drop ∈ lw_u := lw_m1 (List.mem_of_getElem? (i := 220) (by decide +kernel)) rfl
theorem uw_144 : Cond.code yX4_drop cX4_drop 3 (some .int) ∈ lw_u := lw_m1 (List.mem_of_getElem? (i := 221) rfl) rfl
theorem uw_145 : Cond.methodLink RL 32 yX4_feed ∈ lw_u := lw_m1 (List.mem_of_getElem? (i := 222) (by decide +kernel)) rfl
theorem uw_146 : Cond.instanceMethod yX4_feed ∈ lw_u := lw_m1 (List.mem_of_getElem? (i := 223) (by decide +kernel)) rfl
theorem uw_147 : Cond.selects RX4 yX4_feed yX4_feed ∈ lw_u := lw_m1 (List.mem_of_getElem? (i := 224) (by decide +kernel)) rfl
theorem uw_148 : Cond.code yX4_feed cX4_feed 2 (some .int) ∈ lw_u := lw_m1 (List.mem_of_getElem? (i := 225) rfl) rfl
theorem uw_149 : Cond.constant RX4 98 (-1000003) ∈ lw_u := lw_m1 (List.mem_of_getElem? (i := 226) (by decide +kernel)) rfl
theorem uw_150 : Cond.methodLink RX4 99 yX3_append ∈ lw_u := lw_m1 (List.mem_of_getElem? (i := 227) (by decide +kernel)) rfl
theorem uw_151 : Cond.instanceMethod yX3_append ∈ lw_u := lw_m1 (List.mem_of_getElem? (i := 228) (by decide +kernel)) rfl
theorem uw_152 : Cond.selects RX3 yX3_append yX3_append ∈ lw_u := lw_m1 (List.mem_of_getElem? (i := 229) (by decide +kernel)) rfl
theorem uw_153 : Cond.code yX3_append cX3_append 2 (some .int) ∈ lw_u := lw_m1 (List.mem_of_getElem? (i := 230) rfl) rfl
theorem uw_154 : Cond.methodLink RL 36 yX4_light ∈ lw_u := lw_m1 (List.mem_of_getElem? (i := 231) (by decide +kernel)) rfl
theorem uw_155 : Cond.instanceMethod yX4_light ∈ lw_u := lw_m1 (List.mem_of_getElem? (i := 232) (by decide +kernel)) rfl
theorem uw_156 : Cond.selects RX4 yX4_light yX4_light ∈ lw_u := lw_m1 (List.mem_of_getElem? (i := 233) (by decide +kernel)) rfl
theorem uw_157 : Cond.code yX4_light cX4_light 2 (some .int) ∈ lw_u := lw_m1 (List.mem_of_getElem? (i := 234) rfl) rfl
theorem uw_158 : Cond.methodLink RX4 102 yX3_readInto ∈ lw_u := lw_m1 (List.mem_of_getElem? (i := 235) (by decide +kernel)) rfl
theorem uw_159 : Cond.instanceMethod yX3_readInto ∈ lw_u := lw_m1 (List.mem_of_getElem? (i := 236) (by decide +kernel)) rfl
theorem uw_160 : Cond.selects RX3 yX3_readInto yX3_readInto ∈ lw_u := lw_m1 (List.mem_of_getElem? (i := 237) (by decide +kernel)) rfl
theorem uw_161 : Cond.code yX3_readInto cX3_readInto 2 (some .boolean) ∈ lw_u := lw_m1 (List.mem_of_getElem? (i := 238) rfl) rfl
theorem uw_162 : Cond.methodLink RX3 22 yX1_clear ∈ lw_u := lw_m1 (List.mem_of_getElem? (i := 239) (by decide +kernel)) rfl
theorem uw_163 : Cond.instanceMethod yX1_clear ∈ lw_u := lw_m2 (List.mem_of_getElem? (i := 0) (by decide +kernel)) rfl
theorem uw_164 : Cond.selects RX1 yX1_clear yX1_clear ∈ lw_u := lw_m2 (List.mem_of_getElem? (i := 1) (by decide +kernel)) rfl
theorem uw_165 : Cond.code yX1_clear cX1_clear 1 none ∈ lw_u := lw_m2 (List.mem_of_getElem? (i := 2) rfl) rfl
theorem uw_166 : Cond.methodLink RX3 27 yX3_readLaw ∈ lw_u := lw_m2 (List.mem_of_getElem? (i := 3) (by decide +kernel)) rfl
theorem uw_167 : Cond.instanceMethod yX3_readLaw ∈ lw_u := lw_m2 (List.mem_of_getElem? (i := 5) (by decide +kernel)) rfl
theorem uw_168 : Cond.code yX3_readLaw cX3_readLaw 2 (some .boolean) ∈ lw_u := lw_m2 (List.mem_of_getElem? (i := 6) rfl) rfl
theorem uw_169 : Cond.methodLink RX3 55 yX3_readSign ∈ lw_u := lw_m2 (List.mem_of_getElem? (i := 7) (by decide +kernel)) rfl
theorem uw_170 : Cond.instanceMethod yX3_readSign ∈ lw_u := lw_m2 (List.mem_of_getElem? (i := 9) (by decide +kernel)) rfl
theorem uw_171 : Cond.code yX3_readSign cX3_readSign 2 (some .boolean) ∈ lw_u := lw_m2 (List.mem_of_getElem? (i := 10) rfl) rfl
theorem uw_172 : Cond.methodLink RX3 43 yX3_byteHere ∈ lw_u := lw_m2 (List.mem_of_getElem? (i := 11) (by decide +kernel)) rfl
theorem uw_173 : Cond.instanceMethod yX3_byteHere ∈ lw_u := lw_m2 (List.mem_of_getElem? (i := 13) (by decide +kernel)) rfl
theorem uw_174 : Cond.code yX3_byteHere cX3_byteHere 1 (some .int) ∈ lw_u := lw_m2 (List.mem_of_getElem? (i := 14) rfl) rfl
theorem uw_175 : Cond.methodLink RX3 47 yX3_failAt ∈ lw_u := lw_m2 (List.mem_of_getElem? (i := 15) (by decide +kernel)) rfl
theorem uw_176 : Cond.instanceMethod yX3_failAt ∈ lw_u := lw_m2 (List.mem_of_getElem? (i := 17) (by decide +kernel)) rfl
theorem uw_177 : Cond.code yX3_failAt cX3_failAt 3 (some .boolean) ∈ lw_u := lw_m2 (List.mem_of_getElem? (i := 18) rfl) rfl
theorem uw_178 : Cond.methodLink RX3 59 yX3_readNumber ∈ lw_u := lw_m2 (List.mem_of_getElem? (i := 19) (by decide +kernel)) rfl
theorem uw_179 : Cond.instanceMethod yX3_readNumber ∈ lw_u := lw_m2 (List.mem_of_getElem? (i := 21) (by decide +kernel)) rfl
theorem uw_180 : Cond.code yX3_readNumber cX3_readNumber 5 (some .int) ∈ lw_u := lw_m2 (List.mem_of_getElem? (i := 22) rfl) rfl
theorem uw_181 : Cond.static yX4_isWithin ∈ lw_u := lw_m2 (List.mem_of_getElem? (i := 24) (by decide +kernel)) rfl
theorem uw_182 : Cond.code yX4_isWithin cX4_isWithin 3 (some .boolean) ∈ lw_u := lw_m2 (List.mem_of_getElem? (i := 25) rfl) rfl
theorem uw_183 : Cond.methodLink RX3 31 yX3_readFogs ∈ lw_u := lw_m2 (List.mem_of_getElem? (i := 26) (by decide +kernel)) rfl
theorem uw_184 : Cond.instanceMethod yX3_readFogs ∈ lw_u := lw_m2 (List.mem_of_getElem? (i := 28) (by decide +kernel)) rfl
theorem uw_185 : Cond.code yX3_readFogs cX3_readFogs 3 (some .boolean) ∈ lw_u := lw_m2 (List.mem_of_getElem? (i := 29) rfl) rfl
theorem uw_186 : Cond.methodLink RX3 34 yX3_readShips ∈ lw_u := lw_m2 (List.mem_of_getElem? (i := 30) (by decide +kernel)) rfl
theorem uw_187 : Cond.instanceMethod yX3_readShips ∈ lw_u := lw_m2 (List.mem_of_getElem? (i := 32) (by decide +kernel)) rfl
theorem uw_188 : Cond.code yX3_readShips cX3_readShips 4 (some .boolean) ∈ lw_u := lw_m2 (List.mem_of_getElem? (i := 33) rfl) rfl
theorem uw_189 : Cond.methodLink RX3 78 yX3_kindOfSort ∈ lw_u := lw_m2 (List.mem_of_getElem? (i := 34) (by decide +kernel)) rfl
theorem uw_190 : Cond.static yX3_kindOfSort ∈ lw_u := lw_m2 (List.mem_of_getElem? (i := 35) (by decide +kernel)) rfl
theorem uw_191 : Cond.code yX3_kindOfSort cX3_kindOfSort 1 (some .int) ∈ lw_u := lw_m2 (List.mem_of_getElem? (i := 36) rfl) rfl
theorem uw_192 : Cond.constant RX4 112 (-1000100) ∈ lw_u := lw_m2 (List.mem_of_getElem? (i := 37) (by decide +kernel)) rfl
theorem uw_193 : Cond.methodLink RX4 116 yX1_takeFrom ∈ lw_u := lw_m2 (List.mem_of_getElem? (i := 38) (by decide +kernel)) rfl
theorem uw_194 : Cond.instanceMethod yX1_takeFrom ∈ lw_u := lw_m2 (List.mem_of_getElem? (i := 39) (by decide +kernel)) rfl
theorem uw_195 : Cond.selects RX1 yX1_takeFrom yX1_takeFrom ∈ lw_u := lw_m2 (List.mem_of_getElem? (i := 40) (by decide +kernel)) rfl
theorem uw_196 : Cond.code yX1_takeFrom cX1_takeFrom 2 none ∈ lw_u := lw_m2 (List.mem_of_getElem? (i := 41) rfl) rfl
theorem uw_197 : Cond.methodLink RX1 40 yX1_takeSea ∈ lw_u := lw_m2 (List.mem_of_getElem? (i := 42) (by decide +kernel)) rfl
theorem uw_198 : Cond.instanceMethod yX1_takeSea ∈ lw_u := lw_m2 (List.mem_of_getElem? (i := 44) (by decide +kernel)) rfl
theorem uw_199 : Cond.code yX1_takeSea cX1_takeSea 3 none ∈ lw_u := lw_m2 (List.mem_of_getElem? (i := 45) rfl) rfl
theorem uw_200 : Cond.methodLink RX1 44 yX1_takeShips ∈ lw_u := lw_m2 (List.mem_of_getElem? (i := 46) (by decide +kernel)) rfl
theorem uw_201 : Cond.instanceMethod yX1_takeShips ∈ lw_u := lw_m2 (List.mem_of_getElem? (i := 47) (by decide +kernel)) rfl
theorem uw_202 : Cond.selects RX1 yX1_takeShips yX1_takeShips ∈ lw_u := lw_m2 (List.mem_of_getElem? (i := 48) (by decide +kernel)) rfl
theorem uw_203 : Cond.code yX1_takeShips cX1_takeShips 3 none ∈ lw_u := lw_m2 (List.mem_of_getElem? (i := 49) rfl) rfl
theorem uw_204 : Cond.methodLink RX4 120 yX0_forget ∈ lw_u := lw_m2 (List.mem_of_getElem? (i := 50) (by decide +kernel)) rfl
theorem uw_205 : Cond.instanceMethod yX0_forget ∈ lw_u := lw_m2 (List.mem_of_getElem? (i := 51) (by decide +kernel)) rfl
theorem uw_206 : Cond.selects RX0 yX0_forget yX0_forget ∈ lw_u := lw_m2 (List.mem_of_getElem? (i := 52) (by decide +kernel)) rfl
theorem uw_207 : Cond.code yX0_forget cX0_forget 1 none ∈ lw_u := lw_m2 (List.mem_of_getElem? (i := 53) rfl) rfl
theorem uw_208 : Cond.methodLink RL 41 yX4_fault ∈ lw_u := lw_m2 (List.mem_of_getElem? (i := 54) (by decide +kernel)) rfl
theorem uw_209 : Cond.instanceMethod yX4_fault ∈ lw_u := lw_m2 (List.mem_of_getElem? (i := 55) (by decide +kernel)) rfl
theorem uw_210 : Cond.selects RX4 yX4_fault yX4_fault ∈ lw_u := lw_m2 (List.mem_of_getElem? (i := 56) (by decide +kernel)) rfl
theorem uw_211 : Cond.code yX4_fault cX4_fault 1 (some .int) ∈ lw_u := lw_m2 (List.mem_of_getElem? (i := 57) rfl) rfl
theorem uw_212 : Cond.methodLink RL 45 yX4_undo ∈ lw_u := lw_m2 (List.mem_of_getElem? (i := 58) (by decide +kernel)) rfl
theorem uw_213 : Cond.instanceMethod yX4_undo ∈ lw_u := lw_m2 (List.mem_of_getElem? (i := 59) (by decide +kernel)) rfl
theorem uw_214 : Cond.selects RX4 yX4_undo yX4_undo ∈ lw_u := lw_m2 (List.mem_of_getElem? (i := 60) (by decide +kernel)) rfl
theorem uw_215 : Cond.code yX4_undo cX4_undo 1 (some .int) ∈ lw_u := lw_m2 (List.mem_of_getElem? (i := 61) rfl) rfl
theorem uw_216 : Cond.constant RX4 129 (-1000002) ∈ lw_u := lw_m2 (List.mem_of_getElem? (i := 62) (by decide +kernel)) rfl
theorem uw_217 : Cond.methodLink RX4 130 yX0_takeBack ∈ lw_u := lw_m2 (List.mem_of_getElem? (i := 63) (by decide +kernel)) rfl
theorem uw_218 : Cond.instanceMethod yX0_takeBack ∈ lw_u := lw_m2 (List.mem_of_getElem? (i := 64) (by decide +kernel)) rfl
theorem uw_219 : Cond.selects RX0 yX0_takeBack yX0_takeBack ∈ lw_u := lw_m2 (List.mem_of_getElem? (i := 65) (by decide +kernel)) rfl
theorem uw_220 : Cond.code yX0_takeBack cX0_takeBack 2 (some .int) ∈ lw_u := lw_m2 (List.mem_of_getElem? (i := 66) rfl) rfl
theorem uw_221 : Cond.methodLink RX0 25 yX1_takeFrom ∈ lw_u := lw_m2 (List.mem_of_getElem? (i := 67) (by decide +kernel)) rfl
theorem uw_222 : Cond.methodLink RL 49 yX4_watches ∈ lw_u := lw_m2 (List.mem_of_getElem? (i := 68) (by decide +kernel)) rfl
theorem uw_223 : Cond.instanceMethod yX4_watches ∈ lw_u := lw_m2 (List.mem_of_getElem? (i := 69) (by decide +kernel)) rfl
theorem uw_224 : Cond.selects RX4 yX4_watches yX4_watches ∈ lw_u := lw_m2 (List.mem_of_getElem? (i := 70) (by decide +kernel)) rfl
theorem uw_225 : Cond.code yX4_watches cX4_watches 3 (some .int) ∈ lw_u := lw_m2 (List.mem_of_getElem? (i := 71) rfl) rfl
theorem uw_226 : Cond.methodLink RX4 134 yX1_isLit ∈ lw_u := lw_m2 (List.mem_of_getElem? (i := 72) (by decide +kernel)) rfl
theorem uw_227 : Cond.instanceMethod yX1_isLit ∈ lw_u := lw_m2 (List.mem_of_getElem? (i := 73) (by decide +kernel)) rfl
theorem uw_228 : Cond.selects RX1 yX1_isLit yX1_isLit ∈ lw_u := lw_m2 (List.mem_of_getElem? (i := 74) (by decide +kernel)) rfl
theorem uw_229 : Cond.code yX1_isLit cX1_isLit 1 (some .boolean) ∈ lw_u := lw_m2 (List.mem_of_getElem? (i := 75) rfl) rfl
theorem uw_230 : Cond.methodLink RX4 138 yX4_isWithin ∈ lw_u := lw_m2 (List.mem_of_getElem? (i := 76) (by decide +kernel)) rfl
theorem uw_231 : Cond.methodLink RX4 145 yX0_keep ∈ lw_u := lw_m2 (List.mem_of_getElem? (i := 77) (by decide +kernel)) rfl
theorem uw_232 : Cond.instanceMethod yX0_keep ∈ lw_u := lw_m2 (List.mem_of_getElem? (i := 78) (by decide +kernel)) rfl
theorem uw_233 : Cond.selects RX0 yX0_keep yX0_keep ∈ lw_u := lw_m2 (List.mem_of_getElem? (i := 79) (by decide +kernel)) rfl
theorem uw_234 : Cond.code yX0_keep cX0_keep 2 none ∈ lw_u := lw_m2 (List.mem_of_getElem? (i := 80) rfl) rfl
theorem uw_235 : Cond.methodLink RX0 29 Lib.Math.min.name ∈ lw_u := lw_m2 (List.mem_of_getElem? (i := 81) (by decide +kernel)) rfl
theorem uw_236 : Cond.static Lib.Math.min.name ∈ lw_u := lw_m2 (List.mem_of_getElem? (i := 82) (by decide +kernel)) rfl
theorem uw_237 : Cond.code Lib.Math.min.name Lib.Math.min.code 2 (some .int) ∈ lw_u := lw_m2 (List.mem_of_getElem? (i := 83) rfl) rfl
theorem uw_238 : Cond.methodLink RX4 148 yX1_passWatch ∈ lw_u := lw_m2 (List.mem_of_getElem? (i := 84) (by decide +kernel)) rfl
theorem uw_239 : Cond.instanceMethod yX1_passWatch ∈ lw_u := lw_m2 (List.mem_of_getElem? (i := 85) (by decide +kernel)) rfl
theorem uw_240 : Cond.selects RX1 yX1_passWatch yX1_passWatch ∈ lw_u := lw_m2 (List.mem_of_getElem? (i := 86) (by decide +kernel)) rfl
theorem uw_241 : Cond.code yX1_passWatch cX1_passWatch 2 none ∈ lw_u := lw_m2 (List.mem_of_getElem? (i := 87) rfl) rfl
theorem uw_242 : Cond.methodLink RX1 77 yX1_nextPlaceOf ∈ lw_u := lw_m2 (List.mem_of_getElem? (i := 88) (by decide +kernel)) rfl
theorem uw_243 : Cond.instanceMethod yX1_nextPlaceOf ∈ lw_u := lw_m2 (List.mem_of_getElem? (i := 89) (by decide +kernel)) rfl
theorem uw_244 : Cond.selects RX1 yX1_nextPlaceOf yX1_nextPlaceOf ∈ lw_u := lw_m2 (List.mem_of_getElem? (i := 90) (by decide +kernel)) rfl
theorem uw_245 : Cond.code yX1_nextPlaceOf cX1_nextPlaceOf 3 (some .int) ∈ lw_u := lw_m2 (List.mem_of_getElem? (i := 91) rfl) rfl
theorem uw_246 : Cond.methodLink RX1 62 yX1_inward ∈ lw_u := lw_m2 (List.mem_of_getElem? (i := 92) (by decide +kernel)) rfl
theorem uw_247 : Cond.static yX1_inward ∈ lw_u := lw_m2 (List.mem_of_getElem? (i := 93) (by decide +kernel)) rfl
theorem uw_248 : Cond.code yX1_inward cX1_inward 2 (some .int) ∈ lw_u := lw_m2 (List.mem_of_getElem? (i := 94) rfl) rfl
theorem uw_249 : Cond.methodLink RX1 69 Lib.Math.max.name ∈ lw_u := lw_m2 (List.mem_of_getElem? (i := 95) (by decide +kernel)) rfl
theorem uw_250 : Cond.static Lib.Math.max.name ∈ lw_u := lw_m2 (List.mem_of_getElem? (i := 96) (by decide +kernel)) rfl
theorem uw_251 : Cond.code Lib.Math.max.name Lib.Math.max.code 2 (some .int) ∈ lw_u := lw_m2 (List.mem_of_getElem? (i := 97) rfl) rfl
theorem uw_252 : Cond.methodLink RX1 66 yX1_outward ∈ lw_u := lw_m2 (List.mem_of_getElem? (i := 98) (by decide +kernel)) rfl
theorem uw_253 : Cond.instanceMethod yX1_outward ∈ lw_u := lw_m2 (List.mem_of_getElem? (i := 100) (by decide +kernel)) rfl
theorem uw_254 : Cond.code yX1_outward cX1_outward 3 (some .int) ∈ lw_u := lw_m2 (List.mem_of_getElem? (i := 101) rfl) rfl
theorem uw_255 : Cond.methodLink RX1 74 Lib.Math.min.name ∈ lw_u := lw_m2 (List.mem_of_getElem? (i := 102) (by decide +kernel)) rfl
theorem uw_256 : Cond.methodLink RX1 47 yX1_thickOf ∈ lw_u := lw_m2 (List.mem_of_getElem? (i := 103) (by decide +kernel)) rfl
theorem uw_257 : Cond.instanceMethod yX1_thickOf ∈ lw_u := lw_m2 (List.mem_of_getElem? (i := 104) (by decide +kernel)) rfl
theorem uw_258 : Cond.selects RX1 yX1_thickOf yX1_thickOf ∈ lw_u := lw_m2 (List.mem_of_getElem? (i := 105) (by decide +kernel)) rfl
theorem uw_259 : Cond.code yX1_thickOf cX1_thickOf 2 (some .int) ∈ lw_u := lw_m2 (List.mem_of_getElem? (i := 106) rfl) rfl
theorem uw_260 : Cond.methodLink RX4 151 yX1_shipsSeen ∈ lw_u := lw_m2 (List.mem_of_getElem? (i := 107) (by decide +kernel)) rfl
theorem uw_261 : Cond.instanceMethod yX1_shipsSeen ∈ lw_u := lw_m2 (List.mem_of_getElem? (i := 108) (by decide +kernel)) rfl
theorem uw_262 : Cond.selects RX1 yX1_shipsSeen yX1_shipsSeen ∈ lw_u := lw_m2 (List.mem_of_getElem? (i := 109) (by decide +kernel)) rfl
theorem uw_263 : Cond.code yX1_shipsSeen cX1_shipsSeen 4 (some .int) ∈ lw_u := lw_m2 (List.mem_of_getElem? (i := 110) rfl) rfl
theorem uw_264 : Cond.methodLink RX1 51 yX1_loggedOf ∈ lw_u := lw_m2 (List.mem_of_getElem? (i := 111) (by decide +kernel)) rfl
theorem uw_265 : Cond.instanceMethod yX1_loggedOf ∈ lw_u := lw_m2 (List.mem_of_getElem? (i := 112) (by decide +kernel)) rfl
theorem uw_266 : Cond.selects RX1 yX1_loggedOf yX1_loggedOf ∈ lw_u := lw_m2 (List.mem_of_getElem? (i := 113) (by decide +kernel)) rfl
theorem uw_267 : Cond.code yX1_loggedOf cX1_loggedOf 6 (some .int) ∈ lw_u := lw_m2 (List.mem_of_getElem? (i := 114) rfl) rfl
theorem uw_268 : Cond.static yX4_isSeenBy ∈ lw_u := lw_m2 (List.mem_of_getElem? (i := 116) (by decide +kernel)) rfl
theorem uw_269 : Cond.code yX4_isSeenBy cX4_isSeenBy 2 (some .boolean) ∈ lw_u := lw_m2 (List.mem_of_getElem? (i := 117) rfl) rfl
theorem uw_270 : Cond.static yX4_bitIf ∈ lw_u := lw_m2 (List.mem_of_getElem? (i := 119) (by decide +kernel)) rfl
theorem uw_271 : Cond.code yX4_bitIf cX4_bitIf 2 (some .int) ∈ lw_u := lw_m2 (List.mem_of_getElem? (i := 120) rfl) rfl
theorem uw_272 : Cond.methodLink RL 53 yX4_pour ∈ lw_u := lw_m2 (List.mem_of_getElem? (i := 121) (by decide +kernel)) rfl
theorem uw_273 : Cond.instanceMethod yX4_pour ∈ lw_u := lw_m2 (List.mem_of_getElem? (i := 122) (by decide +kernel)) rfl
theorem uw_274 : Cond.selects RX4 yX4_pour yX4_pour ∈ lw_u := lw_m2 (List.mem_of_getElem? (i := 123) (by decide +kernel)) rfl
theorem uw_275 : Cond.code yX4_pour cX4_pour 2 (some .int) ∈ lw_u := lw_m2 (List.mem_of_getElem? (i := 124) rfl) rfl
theorem uw_276 : Cond.methodLink RX4 154 yX1_addOil ∈ lw_u := lw_m2 (List.mem_of_getElem? (i := 125) (by decide +kernel)) rfl
theorem uw_277 : Cond.instanceMethod yX1_addOil ∈ lw_u := lw_m2 (List.mem_of_getElem? (i := 126) (by decide +kernel)) rfl
theorem uw_278 : Cond.selects RX1 yX1_addOil yX1_addOil ∈ lw_u := lw_m2 (List.mem_of_getElem? (i := 127) (by decide +kernel)) rfl
theorem uw_279 : Cond.code yX1_addOil cX1_addOil 2 none ∈ lw_u := lw_m2 (List.mem_of_getElem? (i := 128) rfl) rfl
theorem uw_280 : Cond.methodLink RL 57 yX4_fog ∈ lw_u := lw_m2 (List.mem_of_getElem? (i := 129) (by decide +kernel)) rfl
theorem uw_281 : Cond.instanceMethod yX4_fog ∈ lw_u := lw_m2 (List.mem_of_getElem? (i := 130) (by decide +kernel)) rfl
theorem uw_282 : Cond.selects RX4 yX4_fog yX4_fog ∈ lw_u := lw_m2 (List.mem_of_getElem? (i := 131) (by decide +kernel)) rfl
theorem uw_283 : Cond.code yX4_fog cX4_fog 4 (some .int) ∈ lw_u := lw_m2 (List.mem_of_getElem? (i := 132) rfl) rfl
theorem uw_284 : Cond.methodLink RL 62 yX4_eyes ∈ lw_u := lw_m2 (List.mem_of_getElem? (i := 133) (by decide +kernel)) rfl
theorem uw_285 : Cond.instanceMethod yX4_eyes ∈ lw_u := lw_m2 (List.mem_of_getElem? (i := 134) (by decide +kernel)) rfl
theorem uw_286 : Cond.selects RX4 yX4_eyes yX4_eyes ∈ lw_u := lw_m2 (List.mem_of_getElem? (i := 135) (by decide +kernel)) rfl
theorem uw_287 : Cond.code yX4_eyes cX4_eyes 3 (some .int) ∈ lw_u := lw_m2 (List.mem_of_getElem? (i := 136) rfl) rfl
theorem uw_288 : Cond.methodLink RL 66 yX4_move ∈ lw_u := lw_m2 (List.mem_of_getElem? (i := 137) (by decide +kernel)) rfl
theorem uw_289 : Cond.instanceMethod yX4_move ∈ lw_u := lw_m2 (List.mem_of_getElem? (i := 138) (by decide +kernel)) rfl
theorem uw_290 : Cond.selects RX4 yX4_move yX4_move ∈ lw_u := lw_m2 (List.mem_of_getElem? (i := 139) (by decide +kernel)) rfl
theorem uw_291 : Cond.code yX4_move cX4_move 4 (some .int) ∈ lw_u := lw_m2 (List.mem_of_getElem? (i := 140) rfl) rfl
theorem uw_292 : Cond.methodLink RL 70 yX4_ship ∈ lw_u := lw_m2 (List.mem_of_getElem? (i := 141) (by decide +kernel)) rfl
theorem uw_293 : Cond.instanceMethod yX4_ship ∈ lw_u := lw_m2 (List.mem_of_getElem? (i := 142) (by decide +kernel)) rfl
theorem uw_294 : Cond.selects RX4 yX4_ship yX4_ship ∈ lw_u := lw_m2 (List.mem_of_getElem? (i := 143) (by decide +kernel)) rfl
theorem uw_295 : Cond.code yX4_ship cX4_ship 3 (some .int) ∈ lw_u := lw_m2 (List.mem_of_getElem? (i := 144) rfl) rfl
theorem uw_296 : Cond.methodLink RX4 176 yX1_loggedOf ∈ lw_u := lw_m2 (List.mem_of_getElem? (i := 145) (by decide +kernel)) rfl
theorem uw_297 : Cond.methodLink RX4 179 yX1_nextPlaceOf ∈ lw_u := lw_m2 (List.mem_of_getElem? (i := 146) (by decide +kernel)) rfl
theorem uw_298 : Cond.methodLink RL 74 yX4_stand ∈ lw_u := lw_m2 (List.mem_of_getElem? (i := 147) (by decide +kernel)) rfl
theorem uw_299 : Cond.instanceMethod yX4_stand ∈ lw_u := lw_m2 (List.mem_of_getElem? (i := 148) (by decide +kernel)) rfl
theorem uw_300 : Cond.selects RX4 yX4_stand yX4_stand ∈ lw_u := lw_m2 (List.mem_of_getElem? (i := 149) (by decide +kernel)) rfl
theorem uw_301 : Cond.code yX4_stand cX4_stand 2 (some .int) ∈ lw_u := lw_m2 (List.mem_of_getElem? (i := 150) rfl) rfl
theorem uw_302 : Cond.methodLink RX4 182 yX1_thickOf ∈ lw_u := lw_m2 (List.mem_of_getElem? (i := 151) (by decide +kernel)) rfl
theorem uw_303 : Cond.methodLink RL 78 yX4_thick ∈ lw_u := lw_m2 (List.mem_of_getElem? (i := 152) (by decide +kernel)) rfl
theorem uw_304 : Cond.instanceMethod yX4_thick ∈ lw_u := lw_m2 (List.mem_of_getElem? (i := 153) (by decide +kernel)) rfl
theorem uw_305 : Cond.selects RX4 yX4_thick yX4_thick ∈ lw_u := lw_m2 (List.mem_of_getElem? (i := 154) (by decide +kernel)) rfl
theorem uw_306 : Cond.code yX4_thick cX4_thick 2 (some .int) ∈ lw_u := lw_m2 (List.mem_of_getElem? (i := 155) rfl) rfl
theorem uw_307 : Cond.methodLink RL 82 yX4_ahead ∈ lw_u := lw_m2 (List.mem_of_getElem? (i := 156) (by decide +kernel)) rfl
theorem uw_308 : Cond.instanceMethod yX4_ahead ∈ lw_u := lw_m2 (List.mem_of_getElem? (i := 157) (by decide +kernel)) rfl
theorem uw_309 : Cond.selects RX4 yX4_ahead yX4_ahead ∈ lw_u := lw_m2 (List.mem_of_getElem? (i := 158) (by decide +kernel)) rfl
theorem uw_310 : Cond.code yX4_ahead cX4_ahead 4 (some .int) ∈ lw_u := lw_m2 (List.mem_of_getElem? (i := 159) rfl) rfl
theorem uw_311 : Cond.methodLink RX4 185 yX1_takeOneShip ∈ lw_u := lw_m2 (List.mem_of_getElem? (i := 160) (by decide +kernel)) rfl
theorem uw_312 : Cond.instanceMethod yX1_takeOneShip ∈ lw_u := lw_m2 (List.mem_of_getElem? (i := 161) (by decide +kernel)) rfl
theorem uw_313 : Cond.selects RX1 yX1_takeOneShip yX1_takeOneShip ∈ lw_u := lw_m2 (List.mem_of_getElem? (i := 162) (by decide +kernel)) rfl
theorem uw_314 : Cond.code yX1_takeOneShip cX1_takeOneShip 3 none ∈ lw_u := lw_m2 (List.mem_of_getElem? (i := 163) rfl) rfl
theorem uw_315 : Cond.methodLink RX4 189 yX1_passWatches ∈ lw_u := lw_m2 (List.mem_of_getElem? (i := 164) (by decide +kernel)) rfl
theorem uw_316 : Cond.instanceMethod yX1_passWatches ∈ lw_u := lw_m2 (List.mem_of_getElem? (i := 165) (by decide +kernel)) rfl
theorem uw_317 : Cond.selects RX1 yX1_passWatches yX1_passWatches ∈ lw_u := lw_m2 (List.mem_of_getElem? (i := 166) (by decide +kernel)) rfl
theorem uw_318 : Cond.code yX1_passWatches cX1_passWatches 3 none ∈ lw_u := lw_m2 (List.mem_of_getElem? (i := 167) rfl) rfl
theorem uw_319 : Cond.methodLink RX1 80 yX1_passWatch ∈ lw_u := lw_m2 (List.mem_of_getElem? (i := 168) (by decide +kernel)) rfl
theorem uw_320 : Cond.methodLink RL 86 yX4_written ∈ lw_u := lw_m2 (List.mem_of_getElem? (i := 169) (by decide +kernel)) rfl
theorem uw_321 : Cond.instanceMethod yX4_written ∈ lw_u := lw_m2 (List.mem_of_getElem? (i := 170) (by decide +kernel)) rfl
theorem uw_322 : Cond.selects RX4 yX4_written yX4_written ∈ lw_u := lw_m2 (List.mem_of_getElem? (i := 171) (by decide +kernel)) rfl
theorem uw_323 : Cond.code yX4_written cX4_written 3 (some .int) ∈ lw_u := lw_m2 (List.mem_of_getElem? (i := 172) rfl) rfl
theorem uw_324 : Cond.methodLink RL 90 yX4_when ∈ lw_u := lw_m2 (List.mem_of_getElem? (i := 173) (by decide +kernel)) rfl
theorem uw_325 : Cond.instanceMethod yX4_when ∈ lw_u := lw_m2 (List.mem_of_getElem? (i := 174) (by decide +kernel)) rfl
theorem uw_326 : Cond.selects RX4 yX4_when yX4_when ∈ lw_u := lw_m2 (List.mem_of_getElem? (i := 175) (by decide +kernel)) rfl
theorem uw_327 : Cond.code yX4_when cX4_when 5 (some .int) ∈ lw_u := lw_m2 (List.mem_of_getElem? (i := 176) rfl) rfl
theorem uw_328 : Cond.methodLink RX4 192 yX1_differOn ∈ lw_u := lw_m2 (List.mem_of_getElem? (i := 177) (by decide +kernel)) rfl
theorem uw_329 : Cond.instanceMethod yX1_differOn ∈ lw_u := lw_m2 (List.mem_of_getElem? (i := 178) (by decide +kernel)) rfl
theorem uw_330 : Cond.selects RX1 yX1_differOn yX1_differOn ∈ lw_u := lw_m2 (List.mem_of_getElem? (i := 179) (by decide +kernel)) rfl
theorem uw_331 : Cond.code yX1_differOn cX1_differOn 2 (some .boolean) ∈ lw_u := lw_m2 (List.mem_of_getElem? (i := 180) rfl) rfl
theorem uw_332 : Cond.constant RX4 196 (-1000000) ∈ lw_u := lw_m2 (List.mem_of_getElem? (i := 181) (by decide +kernel)) rfl
theorem uw_333 : Cond.methodLink RL 94 yX4_quarrel ∈ lw_u := lw_m2 (List.mem_of_getElem? (i := 182) (by decide +kernel)) rfl
theorem uw_334 : Cond.instanceMethod yX4_quarrel ∈ lw_u := lw_m2 (List.mem_of_getElem? (i := 183) (by decide +kernel)) rfl
theorem uw_335 : Cond.selects RX4 yX4_quarrel yX4_quarrel ∈ lw_u := lw_m2 (List.mem_of_getElem? (i := 184) (by decide +kernel)) rfl
theorem uw_336 : Cond.code yX4_quarrel cX4_quarrel 4 (some .int) ∈ lw_u := lw_m2 (List.mem_of_getElem? (i := 185) rfl) rfl
theorem uw_337 : Cond.methodLink RX4 197 yJ6_numberOfTrailingZeros_0f7a4 ∈ lw_u := lw_m2 (List.mem_of_getElem? (i := 186) (by decide +kernel)) rfl
theorem uw_338 : Cond.static yJ6_numberOfTrailingZeros_0f7a4 ∈ lw_u := lw_m2 (List.mem_of_getElem? (i := 187) (by decide +kernel)) rfl
theorem uw_339 : Cond.code yJ6_numberOfTrailingZeros_0f7a4 cJ6_numberOfTrailingZeros_0f7a4 2 (some .int) ∈ lw_u := lw_m2 (List.mem_of_getElem? (i := 188) rfl) rfl
theorem uw_340 : Cond.constant RJ6 264 (65536) ∈ lw_u := lw_m2 (List.mem_of_getElem? (i := 189) (by decide +kernel)) rfl
theorem uw_341 : Cond.methodLink RL 98 yX4_pours ∈ lw_u := lw_m2 (List.mem_of_getElem? (i := 190) (by decide +kernel)) rfl
theorem uw_342 : Cond.instanceMethod yX4_pours ∈ lw_u := lw_m2 (List.mem_of_getElem? (i := 191) (by decide +kernel)) rfl
theorem uw_343 : Cond.selects RX4 yX4_pours yX4_pours ∈ lw_u := lw_m2 (List.mem_of_getElem? (i := 192) (by decide +kernel)) rfl
theorem uw_344 : Cond.code yX4_pours cX4_pours 4 (some .int) ∈ lw_u := lw_m2 (List.mem_of_getElem? (i := 193) rfl) rfl
theorem uw_345 : Cond.methodLink RX4 202 yX4_isSeenBy ∈ lw_u := lw_m2 (List.mem_of_getElem? (i := 194) (by decide +kernel)) rfl
theorem uw_346 : Cond.methodLink RL 102 yX4_lift ∈ lw_u := lw_m2 (List.mem_of_getElem? (i := 195) (by decide +kernel)) rfl
theorem uw_347 : Cond.instanceMethod yX4_lift ∈ lw_u := lw_m2 (List.mem_of_getElem? (i := 196) (by decide +kernel)) rfl
theorem uw_348 : Cond.selects RX4 yX4_lift yX4_lift ∈ lw_u := lw_m2 (List.mem_of_getElem? (i := 197) (by decide +kernel)) rfl
theorem uw_349 : Cond.code yX4_lift cX4_lift 7 (some .int) ∈ lw_u := lw_m2 (List.mem_of_getElem? (i := 198) rfl) rfl
theorem uw_350 : Cond.methodLink RX4 205 yX4_differencesIfLifted ∈ lw_u := lw_m2 (List.mem_of_getElem? (i := 199) (by decide +kernel)) rfl
theorem uw_351 : Cond.instanceMethod yX4_differencesIfLifted ∈ lw_u := lw_m2 (List.mem_of_getElem? (i := 201) (by decide +kernel)) rfl
theorem uw_352 : Cond.code yX4_differencesIfLifted cX4_differencesIfLifted 5 (some .int) ∈ lw_u := lw_m2 (List.mem_of_getElem? (i := 202) rfl) rfl
theorem uw_353 : Cond.methodLink RX4 208 yJ6_bitCount_0f7a4 ∈ lw_u := lw_m2 (List.mem_of_getElem? (i := 203) (by decide +kernel)) rfl
theorem uw_354 : Cond.static yJ6_bitCount_0f7a4 ∈ lw_u := lw_m2 (List.mem_of_getElem? (i := 204) (by decide +kernel)) rfl
theorem uw_355 : Cond.code yJ6_bitCount_0f7a4 cJ6_bitCount_0f7a4 1 (some .int) ∈ lw_u := lw_m2 (List.mem_of_getElem? (i := 205) rfl) rfl
theorem uw_356 : Cond.constant RJ6 265 (1431655765) ∈ lw_u := lw_m2 (List.mem_of_getElem? (i := 206) (by decide +kernel)) rfl
theorem uw_357 : Cond.constant RJ6 266 (858993459) ∈ lw_u := lw_m2 (List.mem_of_getElem? (i := 207) (by decide +kernel)) rfl
theorem uw_358 : Cond.constant RJ6 267 (252645135) ∈ lw_u := lw_m2 (List.mem_of_getElem? (i := 208) (by decide +kernel)) rfl
theorem uw_359 : Cond.methodLink RL 106 yX4_sent ∈ lw_u := lw_m2 (List.mem_of_getElem? (i := 209) (by decide +kernel)) rfl
theorem uw_360 : Cond.instanceMethod yX4_sent ∈ lw_u := lw_m2 (List.mem_of_getElem? (i := 210) (by decide +kernel)) rfl
theorem uw_361 : Cond.selects RX4 yX4_sent yX4_sent ∈ lw_u := lw_m2 (List.mem_of_getElem? (i := 211) (by decide +kernel)) rfl
theorem uw_362 : Cond.code yX4_sent cX4_sent 5 (some .int) ∈ lw_u := lw_m2 (List.mem_of_getElem? (i := 212) rfl) rfl
theorem uw_363 : Cond.methodLink RL 110 yX4_share ∈ lw_u := lw_m2 (List.mem_of_getElem? (i := 213) (by decide +kernel)) rfl
theorem uw_364 : Cond.instanceMethod yX4_share ∈ lw_u := lw_m2 (List.mem_of_getElem? (i := 214) (by decide +kernel)) rfl
theorem uw_365 : Cond.selects RX4 yX4_share yX4_share ∈ lw_u := lw_m2 (List.mem_of_getElem? (i := 215) (by decide +kernel)) rfl
theorem uw_366 : Cond.code yX4_share cX4_share 7 (some .int) ∈ lw_u := lw_m2 (List.mem_of_getElem? (i := 216) rfl) rfl
theorem uw_367 : Cond.methodLink RX4 211 yX1_allThick ∈ lw_u := lw_m2 (List.mem_of_getElem? (i := 217) (by decide +kernel)) rfl
theorem uw_368 : Cond.instanceMethod yX1_allThick ∈ lw_u := lw_m2 (List.mem_of_getElem? (i := 218) (by decide +kernel)) rfl
theorem uw_369 : Cond.selects RX1 yX1_allThick yX1_allThick ∈ lw_u := lw_m2 (List.mem_of_getElem? (i := 219) (by decide +kernel)) rfl
theorem uw_370 : Cond.code yX1_allThick cX1_allThick 3 (some .int) ∈ lw_u := lw_m2 (List.mem_of_getElem? (i := 220) rfl) rfl
theorem uw_371 : Cond.methodLink RL 114 yX4_byTurns ∈ lw_u := lw_m2 (List.mem_of_getElem? (i := 221) (by decide +kernel)) rfl
theorem uw_372 : Cond.instanceMethod yX4_byTurns ∈ lw_u := lw_m2 (List.mem_of_getElem? (i := 222) (by decide +kernel)) rfl
theorem uw_373 : Cond.selects RX4 yX4_byTurns yX4_byTurns ∈ lw_u := lw_m2 (List.mem_of_getElem? (i := 223) (by decide +kernel)) rfl
theorem uw_374 : Cond.code yX4_byTurns cX4_byTurns 3 (some .int) ∈ lw_u := lw_m2 (List.mem_of_getElem? (i := 224) rfl) rfl
theorem uw_375 : Cond.methodLink RX4 215 yX4_bestTurn ∈ lw_u := lw_m2 (List.mem_of_getElem? (i := 225) (by decide +kernel)) rfl
theorem uw_376 : Cond.instanceMethod yX4_bestTurn ∈ lw_u := lw_m2 (List.mem_of_getElem? (i := 227) (by decide +kernel)) rfl
theorem uw_377 : Cond.code yX4_bestTurn cX4_bestTurn 8 (some .int) ∈ lw_u := lw_m2 (List.mem_of_getElem? (i := 228) rfl) rfl
theorem uw_378 : Cond.methodLink RX4 298 yX4_balanceBehind ∈ lw_u := lw_m2 (List.mem_of_getElem? (i := 229) (by decide +kernel)) rfl
theorem uw_379 : Cond.instanceMethod yX4_balanceBehind ∈ lw_u := lw_m2 (List.mem_of_getElem? (i := 231) (by decide +kernel)) rfl
theorem uw_380 : Cond.code yX4_balanceBehind cX4_balanceBehind 2 (some .int) ∈ lw_u := lw_m2 (List.mem_of_getElem? (i := 232) rfl) rfl
theorem uw_381 : Cond.methodLink RX4 301 Lib.Math.max.name ∈ lw_u := lw_m2 (List.mem_of_getElem? (i := 233) (by decide +kernel)) rfl
theorem uw_382 : Cond.methodLink RX4 303 Lib.Math.min.name ∈ lw_u := lw_m2 (List.mem_of_getElem? (i := 234) (by decide +kernel)) rfl
theorem uw_383 : Cond.methodLink RL 118 yX4_who ∈ lw_u := lw_m2 (List.mem_of_getElem? (i := 235) (by decide +kernel)) rfl
theorem uw_384 : Cond.instanceMethod yX4_who ∈ lw_u := lw_m2 (List.mem_of_getElem? (i := 236) (by decide +kernel)) rfl
theorem uw_385 : Cond.selects RX4 yX4_who yX4_who ∈ lw_u := lw_m2 (List.mem_of_getElem? (i := 237) (by decide +kernel)) rfl
theorem uw_386 : Cond.code yX4_who cX4_who 8 (some .int) ∈ lw_u := lw_m2 (List.mem_of_getElem? (i := 238) rfl) rfl
theorem uw_387 : Cond.methodLink RX4 219 yX4_isLog ∈ lw_u := lw_m2 (List.mem_of_getElem? (i := 239) (by decide +kernel)) rfl
theorem uw_388 : Cond.static yX4_isLog ∈ lw_u := lw_m3 (List.mem_of_getElem? (i := 0) (by decide +kernel)) rfl
theorem uw_389 : Cond.code yX4_isLog cX4_isLog 2 (some .boolean) ∈ lw_u := lw_m3 (List.mem_of_getElem? (i := 1) rfl) rfl
theorem uw_390 : Cond.methodLink RX4 222 yX4_kindsThatFit ∈ lw_u := lw_m3 (List.mem_of_getElem? (i := 2) (by decide +kernel)) rfl
theorem uw_391 : Cond.instanceMethod yX4_kindsThatFit ∈ lw_u := lw_m3 (List.mem_of_getElem? (i := 4) (by decide +kernel)) rfl
theorem uw_392 : Cond.code yX4_kindsThatFit cX4_kindsThatFit 7 (some .int) ∈ lw_u := lw_m3 (List.mem_of_getElem? (i := 5) rfl) rfl
theorem uw_393 : Cond.methodLink RX4 229 yX4_probeFits ∈ lw_u := lw_m3 (List.mem_of_getElem? (i := 6) (by decide +kernel)) rfl
theorem uw_394 : Cond.instanceMethod yX4_probeFits ∈ lw_u := lw_m3 (List.mem_of_getElem? (i := 8) (by decide +kernel)) rfl
theorem uw_395 : Cond.code yX4_probeFits cX4_probeFits 5 (some .boolean) ∈ lw_u := lw_m3 (List.mem_of_getElem? (i := 9) rfl) rfl
theorem uw_396 : Cond.methodLink RX4 233 yX4_bitIf ∈ lw_u := lw_m3 (List.mem_of_getElem? (i := 10) (by decide +kernel)) rfl
theorem uw_397 : Cond.methodLink RX4 226 yX4_cellsThatFit ∈ lw_u := lw_m3 (List.mem_of_getElem? (i := 11) (by decide +kernel)) rfl
theorem uw_398 : Cond.instanceMethod yX4_cellsThatFit ∈ lw_u := lw_m3 (List.mem_of_getElem? (i := 13) (by decide +kernel)) rfl
theorem uw_399 : Cond.code yX4_cellsThatFit cX4_cellsThatFit 7 (some .int) ∈ lw_u := lw_m3 (List.mem_of_getElem? (i := 14) rfl) rfl
theorem uw_400 : Cond.methodLink RL 122 yX4_fogs ∈ lw_u := lw_m3 (List.mem_of_getElem? (i := 15) (by decide +kernel)) rfl
theorem uw_401 : Cond.instanceMethod yX4_fogs ∈ lw_u := lw_m3 (List.mem_of_getElem? (i := 16) (by decide +kernel)) rfl
theorem uw_402 : Cond.selects RX4 yX4_fogs yX4_fogs ∈ lw_u := lw_m3 (List.mem_of_getElem? (i := 17) (by decide +kernel)) rfl
theorem uw_403 : Cond.code yX4_fogs cX4_fogs 10 (some .int) ∈ lw_u := lw_m3 (List.mem_of_getElem? (i := 18) rfl) rfl
theorem uw_404 : Cond.methodLink RL 126 yX4_sights ∈ lw_u := lw_m3 (List.mem_of_getElem? (i := 19) (by decide +kernel)) rfl
theorem uw_405 : Cond.instanceMethod yX4_sights ∈ lw_u := lw_m3 (List.mem_of_getElem? (i := 20) (by decide +kernel)) rfl
theorem uw_406 : Cond.selects RX4 yX4_sights yX4_sights ∈ lw_u := lw_m3 (List.mem_of_getElem? (i := 21) (by decide +kernel)) rfl
theorem uw_407 : Cond.code yX4_sights cX4_sights 8 (some .int) ∈ lw_u := lw_m3 (List.mem_of_getElem? (i := 22) rfl) rfl
theorem uw_408 : Cond.methodLink RX4 237 yX4_eyesThatFit ∈ lw_u := lw_m3 (List.mem_of_getElem? (i := 23) (by decide +kernel)) rfl
theorem uw_409 : Cond.instanceMethod yX4_eyesThatFit ∈ lw_u := lw_m3 (List.mem_of_getElem? (i := 25) (by decide +kernel)) rfl
theorem uw_410 : Cond.code yX4_eyesThatFit cX4_eyesThatFit 7 (some .int) ∈ lw_u := lw_m3 (List.mem_of_getElem? (i := 26) rfl) rfl
theorem uw_411 : Cond.methodLink RX4 240 yX4_oilsThatFit ∈ lw_u := lw_m3 (List.mem_of_getElem? (i := 27) (by decide +kernel)) rfl
theorem uw_412 : Cond.instanceMethod yX4_oilsThatFit ∈ lw_u := lw_m3 (List.mem_of_getElem? (i := 29) (by decide +kernel)) rfl
theorem uw_413 : Cond.code yX4_oilsThatFit cX4_oilsThatFit 9 (some .int) ∈ lw_u := lw_m3 (List.mem_of_getElem? (i := 30) rfl) rfl
theorem uw_414 : Cond.methodLink RL 130 yX4_fair ∈ lw_u := lw_m3 (List.mem_of_getElem? (i := 31) (by decide +kernel)) rfl
theorem uw_415 : Cond.instanceMethod yX4_fair ∈ lw_u := lw_m3 (List.mem_of_getElem? (i := 32) (by decide +kernel)) rfl
theorem uw_416 : Cond.selects RX4 yX4_fair yX4_fair ∈ lw_u := lw_m3 (List.mem_of_getElem? (i := 33) (by decide +kernel)) rfl
theorem uw_417 : Cond.code yX4_fair cX4_fair 10 (some .long) ∈ lw_u := lw_m3 (List.mem_of_getElem? (i := 34) rfl) rfl
theorem uw_418 : Cond.constantLong RX4 244 (-1000002) ∈ lw_u := lw_m3 (List.mem_of_getElem? (i := 35) (by decide +kernel)) rfl
theorem uw_419 : Cond.constantLong RX4 246 (-1000001) ∈ lw_u := lw_m3 (List.mem_of_getElem? (i := 36) (by decide +kernel)) rfl
theorem uw_420 : Cond.methodLink RX4 248 yX4_isSameIfLifted ∈ lw_u := lw_m3 (List.mem_of_getElem? (i := 37) (by decide +kernel)) rfl
theorem uw_421 : Cond.instanceMethod yX4_isSameIfLifted ∈ lw_u := lw_m3 (List.mem_of_getElem? (i := 39) (by decide +kernel)) rfl
theorem uw_422 : Cond.code yX4_isSameIfLifted cX4_isSameIfLifted 4 (some .boolean) ∈ lw_u := lw_m3 (List.mem_of_getElem? (i := 40) rfl) rfl
theorem uw_423 : Cond.methodLink RX4 306 yX1_takeShips ∈ lw_u := lw_m3 (List.mem_of_getElem? (i := 41) (by decide +kernel)) rfl
theorem uw_424 : Cond.methodLink RX4 251 yX4_casesOf ∈ lw_u := lw_m3 (List.mem_of_getElem? (i := 42) (by decide +kernel)) rfl
theorem uw_425 : Cond.instanceMethod yX4_casesOf ∈ lw_u := lw_m3 (List.mem_of_getElem? (i := 44) (by decide +kernel)) rfl
theorem uw_426 : Cond.code yX4_casesOf cX4_casesOf 6 (some .long) ∈ lw_u := lw_m3 (List.mem_of_getElem? (i := 45) rfl) rfl
theorem uw_427 : Cond.constantLong RX4 255 (10) ∈ lw_u := lw_m3 (List.mem_of_getElem? (i := 46) (by decide +kernel)) rfl
theorem uw_428 : Cond.methodLink RX4 257 yX4_commonDivisor ∈ lw_u := lw_m3 (List.mem_of_getElem? (i := 47) (by decide +kernel)) rfl
theorem uw_429 : Cond.static yX4_commonDivisor ∈ lw_u := lw_m3 (List.mem_of_getElem? (i := 48) (by decide +kernel)) rfl
theorem uw_430 : Cond.code yX4_commonDivisor cX4_commonDivisor 11 (some .long) ∈ lw_u := lw_m3 (List.mem_of_getElem? (i := 49) rfl) rfl
theorem uw_431 : Cond.methodLink RX4 261 Lib.MathLoose.max_long.x ∈ lw_u := lw_m3 (List.mem_of_getElem? (i := 50) (by decide +kernel)) rfl
theorem uw_432 : Cond.static Lib.MathLoose.max_long.x ∈ lw_u := lw_m3 (List.mem_of_getElem? (i := 51) (by decide +kernel)) rfl
theorem uw_433 : Cond.code Lib.MathLoose.max_long.x Lib.MathLoose.max_long.code 4 (some .long) ∈ lw_u := lw_m3 (List.mem_of_getElem? (i := 52) rfl) rfl
theorem uw_434 : Cond.methodLink RL 135 yX4_drawn ∈ lw_u := lw_m3 (List.mem_of_getElem? (i := 53) (by decide +kernel)) rfl
theorem uw_435 : Cond.instanceMethod yX4_drawn ∈ lw_u := lw_m3 (List.mem_of_getElem? (i := 54) (by decide +kernel)) rfl
theorem uw_436 : Cond.selects RX4 yX4_drawn yX4_drawn ∈ lw_u := lw_m3 (List.mem_of_getElem? (i := 55) (by decide +kernel)) rfl
theorem uw_437 : Cond.code yX4_drawn cX4_drawn 8 (some .int) ∈ lw_u := lw_m3 (List.mem_of_getElem? (i := 56) rfl) rfl
theorem uw_438 : Cond.constant RX4 266 (999999) ∈ lw_u := lw_m3 (List.mem_of_getElem? (i := 57) (by decide +kernel)) rfl
theorem uw_439 : Cond.constantLong RX4 267 (16807) ∈ lw_u := lw_m3 (List.mem_of_getElem? (i := 58) (by decide +kernel)) rfl
theorem uw_440 : Cond.constantLong RX4 269 (2147483647) ∈ lw_u := lw_m3 (List.mem_of_getElem? (i := 59) (by decide +kernel)) rfl
theorem uw_441 : Cond.methodLink RX4 271 yX1_befall ∈ lw_u := lw_m3 (List.mem_of_getElem? (i := 60) (by decide +kernel)) rfl
theorem uw_442 : Cond.instanceMethod yX1_befall ∈ lw_u := lw_m3 (List.mem_of_getElem? (i := 61) (by decide +kernel)) rfl
theorem uw_443 : Cond.selects RX1 yX1_befall yX1_befall ∈ lw_u := lw_m3 (List.mem_of_getElem? (i := 62) (by decide +kernel)) rfl
theorem uw_444 : Cond.code yX1_befall cX1_befall 4 none ∈ lw_u := lw_m3 (List.mem_of_getElem? (i := 63) rfl) rfl
theorem uw_445 : Cond.constantLong RX1 83 (3) ∈ lw_u := lw_m3 (List.mem_of_getElem? (i := 64) (by decide +kernel)) rfl
theorem uw_446 : Cond.constantLong RX1 85 (10) ∈ lw_u := lw_m3 (List.mem_of_getElem? (i := 65) (by decide +kernel)) rfl
theorem uw_447 : Cond.methodLink RX1 87 yX1_addOil ∈ lw_u := lw_m3 (List.mem_of_getElem? (i := 66) (by decide +kernel)) rfl
theorem uw_448 : Cond.methodLink RL 139 yX4_image ∈ lw_u := lw_m3 (List.mem_of_getElem? (i := 67) (by decide +kernel)) rfl
theorem uw_449 : Cond.instanceMethod yX4_image ∈ lw_u := lw_m3 (List.mem_of_getElem? (i := 68) (by decide +kernel)) rfl
theorem uw_450 : Cond.selects RX4 yX4_image yX4_image ∈ lw_u := lw_m3 (List.mem_of_getElem? (i := 69) (by decide +kernel)) rfl
theorem uw_451 : Cond.code yX4_image cX4_image 2 (some .int) ∈ lw_u := lw_m3 (List.mem_of_getElem? (i := 70) rfl) rfl
theorem uw_452 : Cond.methodLink RL 143 yX4_restore ∈ lw_u := lw_m3 (List.mem_of_getElem? (i := 71) (by decide +kernel)) rfl
theorem uw_453 : Cond.instanceMethod yX4_restore ∈ lw_u := lw_m3 (List.mem_of_getElem? (i := 72) (by decide +kernel)) rfl
theorem uw_454 : Cond.selects RX4 yX4_restore yX4_restore ∈ lw_u := lw_m3 (List.mem_of_getElem? (i := 73) (by decide +kernel)) rfl
theorem uw_455 : Cond.code yX4_restore cX4_restore 2 (some .int) ∈ lw_u := lw_m3 (List.mem_of_getElem? (i := 74) rfl) rfl
theorem uw_456 : Cond.methodLink RL 147 yX4_kind ∈ lw_u := lw_m3 (List.mem_of_getElem? (i := 75) (by decide +kernel)) rfl
theorem uw_457 : Cond.instanceMethod yX4_kind ∈ lw_u := lw_m3 (List.mem_of_getElem? (i := 76) (by decide +kernel)) rfl
theorem uw_458 : Cond.selects RX4 yX4_kind yX4_kind ∈ lw_u := lw_m3 (List.mem_of_getElem? (i := 77) (by decide +kernel)) rfl
theorem uw_459 : Cond.code yX4_kind cX4_kind 2 (some .int) ∈ lw_u := lw_m3 (List.mem_of_getElem? (i := 78) rfl) rfl
theorem uw_460 : Cond.methodLink RL 151 yX4_as ∈ lw_u := lw_m3 (List.mem_of_getElem? (i := 79) (by decide +kernel)) rfl
theorem uw_461 : Cond.instanceMethod yX4_as ∈ lw_u := lw_m3 (List.mem_of_getElem? (i := 80) (by decide +kernel)) rfl
theorem uw_462 : Cond.selects RX4 yX4_as yX4_as ∈ lw_u := lw_m3 (List.mem_of_getElem? (i := 81) (by decide +kernel)) rfl
theorem uw_463 : Cond.code yX4_as cX4_as 3 (some .int) ∈ lw_u := lw_m3 (List.mem_of_getElem? (i := 82) rfl) rfl
theorem uw_464 : Cond.methodLink RX4 278 yX4_isOfKind ∈ lw_u := lw_m3 (List.mem_of_getElem? (i := 83) (by decide +kernel)) rfl
theorem uw_465 : Cond.static yX4_isOfKind ∈ lw_u := lw_m3 (List.mem_of_getElem? (i := 84) (by decide +kernel)) rfl
theorem uw_466 : Cond.code yX4_isOfKind cX4_isOfKind 4 (some .boolean) ∈ lw_u := lw_m3 (List.mem_of_getElem? (i := 85) rfl) rfl
theorem uw_467 : Cond.fieldLink RX4 309 "LampLogs" "PARENT" "[I" ∈ lw_u := lw_m3 (List.mem_of_getElem? (i := 86) (by decide +kernel)) rfl
theorem uw_468 : Cond.methodLink RL 155 yX4_ask ∈ lw_u := lw_m3 (List.mem_of_getElem? (i := 88) (by decide +kernel)) rfl
theorem uw_469 : Cond.instanceMethod yX4_ask ∈ lw_u := lw_m3 (List.mem_of_getElem? (i := 89) (by decide +kernel)) rfl
theorem uw_470 : Cond.selects RX4 yX4_ask yX4_ask ∈ lw_u := lw_m3 (List.mem_of_getElem? (i := 90) (by decide +kernel)) rfl
theorem uw_471 : Cond.code yX4_ask cX4_ask 3 (some .int) ∈ lw_u := lw_m3 (List.mem_of_getElem? (i := 91) rfl) rfl
theorem uw_472 : Cond.methodLink RX4 284 yX4_asked ∈ lw_u := lw_m3 (List.mem_of_getElem? (i := 92) (by decide +kernel)) rfl
theorem uw_473 : Cond.instanceMethod yX4_asked ∈ lw_u := lw_m3 (List.mem_of_getElem? (i := 94) (by decide +kernel)) rfl
theorem uw_474 : Cond.code yX4_asked cX4_asked 5 (some .int) ∈ lw_u := lw_m3 (List.mem_of_getElem? (i := 95) rfl) rfl
theorem uw_475 : Cond.fieldLink RX4 312 "LampLogs" "SIZE_BODY" "[I" ∈ lw_u := lw_m3 (List.mem_of_getElem? (i := 96) (by decide +kernel)) rfl
theorem uw_476 : Cond.fieldLink RX4 315 "LampLogs" "MARK_BODY" "[I" ∈ lw_u := lw_m3 (List.mem_of_getElem? (i := 98) (by decide +kernel)) rfl
theorem uw_477 : Cond.methodLink RX4 318 yX4_begun ∈ lw_u := lw_m3 (List.mem_of_getElem? (i := 100) (by decide +kernel)) rfl
theorem uw_478 : Cond.instanceMethod yX4_begun ∈ lw_u := lw_m3 (List.mem_of_getElem? (i := 102) (by decide +kernel)) rfl
theorem uw_479 : Cond.code yX4_begun cX4_begun 5 (some .int) ∈ lw_u := lw_m3 (List.mem_of_getElem? (i := 103) rfl) rfl
theorem uw_480 : Cond.methodLink RX4 321 yX4_leave ∈ lw_u := lw_m3 (List.mem_of_getElem? (i := 104) (by decide +kernel)) rfl
theorem uw_481 : Cond.instanceMethod yX4_leave ∈ lw_u := lw_m3 (List.mem_of_getElem? (i := 106) (by decide +kernel)) rfl
theorem uw_482 : Cond.code yX4_leave cX4_leave 2 none ∈ lw_u := lw_m3 (List.mem_of_getElem? (i := 107) rfl) rfl
theorem uw_483 : Cond.methodLink RL 159 yX4_trace ∈ lw_u := lw_m3 (List.mem_of_getElem? (i := 108) (by decide +kernel)) rfl
theorem uw_484 : Cond.instanceMethod yX4_trace ∈ lw_u := lw_m3 (List.mem_of_getElem? (i := 109) (by decide +kernel)) rfl
theorem uw_485 : Cond.selects RX4 yX4_trace yX4_trace ∈ lw_u := lw_m3 (List.mem_of_getElem? (i := 110) (by decide +kernel)) rfl
theorem uw_486 : Cond.code yX4_trace cX4_trace 2 (some .int) ∈ lw_u := lw_m3 (List.mem_of_getElem? (i := 111) rfl) rfl
theorem uw_487 : Cond.methodLink RL 163 yX4_count ∈ lw_u := lw_m3 (List.mem_of_getElem? (i := 112) (by decide +kernel)) rfl
theorem uw_488 : Cond.instanceMethod yX4_count ∈ lw_u := lw_m3 (List.mem_of_getElem? (i := 113) (by decide +kernel)) rfl
theorem uw_489 : Cond.selects RX4 yX4_count yX4_count ∈ lw_u := lw_m3 (List.mem_of_getElem? (i := 114) (by decide +kernel)) rfl
theorem uw_490 : Cond.code yX4_count cX4_count 2 (some .int) ∈ lw_u := lw_m3 (List.mem_of_getElem? (i := 115) rfl) rfl
theorem uw_491 : Cond.methodLink RX4 288 yX4_rowsThere ∈ lw_u := lw_m3 (List.mem_of_getElem? (i := 116) (by decide +kernel)) rfl
theorem uw_492 : Cond.instanceMethod yX4_rowsThere ∈ lw_u := lw_m3 (List.mem_of_getElem? (i := 118) (by decide +kernel)) rfl
theorem uw_493 : Cond.code yX4_rowsThere cX4_rowsThere 3 (some .int) ∈ lw_u := lw_m3 (List.mem_of_getElem? (i := 119) rfl) rfl
theorem uw_494 : Cond.methodLink RX4 291 yX1_shipsAshore ∈ lw_u := lw_m3 (List.mem_of_getElem? (i := 120) (by decide +kernel)) rfl
theorem uw_495 : Cond.instanceMethod yX1_shipsAshore ∈ lw_u := lw_m3 (List.mem_of_getElem? (i := 121) (by decide +kernel)) rfl
theorem uw_496 : Cond.selects RX1 yX1_shipsAshore yX1_shipsAshore ∈ lw_u := lw_m3 (List.mem_of_getElem? (i := 122) (by decide +kernel)) rfl
theorem uw_497 : Cond.code yX1_shipsAshore cX1_shipsAshore 3 (some .int) ∈ lw_u := lw_m3 (List.mem_of_getElem? (i := 123) rfl) rfl
theorem uw_498 : Cond.methodLink RL 167 yX4_status ∈ lw_u := lw_m3 (List.mem_of_getElem? (i := 124) (by decide +kernel)) rfl
theorem uw_499 : Cond.instanceMethod yX4_status ∈ lw_u := lw_m3 (List.mem_of_getElem? (i := 125) (by decide +kernel)) rfl
theorem uw_500 : Cond.selects RX4 yX4_status yX4_status ∈ lw_u := lw_m3 (List.mem_of_getElem? (i := 126) (by decide +kernel)) rfl
theorem uw_501 : Cond.code yX4_status cX4_status 1 (some .int) ∈ lw_u := lw_m3 (List.mem_of_getElem? (i := 127) rfl) rfl
theorem uw_502 : Cond.classLink RL 10 RX5 ∈ lw_u := lw_m3 (List.mem_of_getElem? (i := 128) (by decide +kernel)) rfl
theorem uw_503 : Cond.instantiable RX5 27 ∈ lw_u := lw_m3 (List.mem_of_getElem? (i := 129) (by decide +kernel)) rfl
theorem uw_504 : Cond.methodLink RL 12 yX5_init ∈ lw_u := lw_m3 (List.mem_of_getElem? (i := 130) (by decide +kernel)) rfl
theorem uw_505 : Cond.instanceMethod yX5_init ∈ lw_u := lw_m3 (List.mem_of_getElem? (i := 131) (by decide +kernel)) rfl
theorem uw_506 : Cond.code yX5_init cX5_init 1 none ∈ lw_u := lw_m3 (List.mem_of_getElem? (i := 132) rfl) rfl
theorem uw_507 : Cond.methodLink RX5 1 objectInit ∈ lw_u := lw_m3 (List.mem_of_getElem? (i := 133) (by decide +kernel)) rfl
theorem uw_508 : Cond.fieldLink RX5 47 "LampLogsModel" "thrown" "I" ∈ lw_u := lw_m3 (List.mem_of_getElem? (i := 134) (by decide +kernel)) rfl
theorem uw_509 : Cond.fieldLink RX5 51 "LampLogsModel" "status" "I" ∈ lw_u := lw_m3 (List.mem_of_getElem? (i := 135) (by decide +kernel)) rfl
theorem uw_510 : Cond.fieldLink RX5 7 "LampLogsModel" "lane" "[I" ∈ lw_u := lw_m3 (List.mem_of_getElem? (i := 136) (by decide +kernel)) rfl
theorem uw_511 : Cond.fieldLink RX5 13 "LampLogsModel" "many" "[I" ∈ lw_u := lw_m3 (List.mem_of_getElem? (i := 137) (by decide +kernel)) rfl
theorem uw_512 : Cond.fieldLink RX5 16 "LampLogsModel" "item" "[I" ∈ lw_u := lw_m3 (List.mem_of_getElem? (i := 138) (by decide +kernel)) rfl
theorem uw_513 : Cond.fieldLink RX5 19 "LampLogsModel" "light" "[I" ∈ lw_u := lw_m3 (List.mem_of_getElem? (i := 139) (by decide +kernel)) rfl
theorem uw_514 : Cond.fieldLink RX5 22 "LampLogsModel" "fresh" "[I" ∈ lw_u := lw_m3 (List.mem_of_getElem? (i := 140) (by decide +kernel)) rfl
theorem uw_515 : Cond.fieldLink RX5 25 "LampLogsModel" "then" "[I" ∈ lw_u := lw_m3 (List.mem_of_getElem? (i := 141) (by decide +kernel)) rfl
theorem uw_516 : Cond.fieldLink RX5 28 "LampLogsModel" "was" "[I" ∈ lw_u := lw_m3 (List.mem_of_getElem? (i := 142) (by decide +kernel)) rfl
theorem uw_517 : Cond.fieldLink RX5 149 "LampLogsModel" "acts" "I" ∈ lw_u := lw_m3 (List.mem_of_getElem? (i := 143) (by decide +kernel)) rfl
theorem uw_518 : Cond.fieldLink RX5 31 "LampLogsModel" "tape" "[I" ∈ lw_u := lw_m3 (List.mem_of_getElem? (i := 144) (by decide +kernel)) rfl
theorem uw_519 : Cond.fieldLink RX5 74 "LampLogsModel" "taped" "I" ∈ lw_u := lw_m3 (List.mem_of_getElem? (i := 145) (by decide +kernel)) rfl
theorem uw_520 : Cond.fieldLink RX5 87 "LampLogsModel" "cursor" "I" ∈ lw_u := lw_m3 (List.mem_of_getElem? (i := 146) (by decide +kernel)) rfl
theorem uw_521 : Cond.fieldLink RX5 81 "LampLogsModel" "start" "I" ∈ lw_u := lw_m3 (List.mem_of_getElem? (i := 147) (by decide +kernel)) rfl
theorem uw_522 : Cond.fieldLink RX5 102 "LampLogsModel" "token" "I" ∈ lw_u := lw_m3 (List.mem_of_getElem? (i := 148) (by decide +kernel)) rfl
theorem uw_523 : Cond.fieldLink RX5 91 "LampLogsModel" "value" "I" ∈ lw_u := lw_m3 (List.mem_of_getElem? (i := 149) (by decide +kernel)) rfl
theorem uw_524 : Cond.fieldLink RX5 78 "LampLogsModel" "fault" "I" ∈ lw_u := lw_m3 (List.mem_of_getElem? (i := 150) (by decide +kernel)) rfl
theorem uw_525 : Cond.fieldLink RX5 84 "LampLogsModel" "faultAt" "I" ∈ lw_u := lw_m3 (List.mem_of_getElem? (i := 151) (by decide +kernel)) rfl
theorem uw_526 : Cond.fieldLink RX5 116 "LampLogsModel" "latest" "I" ∈ lw_u := lw_m3 (List.mem_of_getElem? (i := 152) (by decide +kernel)) rfl
theorem uw_527 : Cond.fieldLink RX5 34 "LampLogsModel" "worth" "[I" ∈ lw_u := lw_m3 (List.mem_of_getElem? (i := 153) (by decide +kernel)) rfl
theorem uw_528 : Cond.fieldLink RX5 232 "LampLogsModel" "setSo" "I" ∈ lw_u := lw_m3 (List.mem_of_getElem? (i := 154) (by decide +kernel)) rfl
theorem uw_529 : Cond.fieldLink RX5 235 "LampLogsModel" "muchSo" "I" ∈ lw_u := lw_m3 (List.mem_of_getElem? (i := 155) (by decide +kernel)) rfl
theorem uw_530 : Cond.fieldLink RX5 238 "LampLogsModel" "leastSo" "I" ∈ lw_u := lw_m3 (List.mem_of_getElem? (i := 156) (by decide +kernel)) rfl
theorem uw_531 : Cond.fieldLink RX5 37 "LampLogsModel" "isKept" "[Z" ∈ lw_u := lw_m3 (List.mem_of_getElem? (i := 157) (by decide +kernel)) rfl
theorem uw_532 : Cond.fieldLink RX5 41 "LampLogsModel" "kept" "[I" ∈ lw_u := lw_m3 (List.mem_of_getElem? (i := 158) (by decide +kernel)) rfl
theorem uw_533 : Cond.fieldLink RX5 44 "LampLogsModel" "trace" "[I" ∈ lw_u := lw_m3 (List.mem_of_getElem? (i := 159) (by decide +kernel)) rfl
theorem uw_534 : Cond.fieldLink RX5 272 "LampLogsModel" "traced" "I" ∈ lw_u := lw_m3 (List.mem_of_getElem? (i := 160) (by decide +kernel)) rfl
theorem uw_535 : Cond.arrayClass .boolean ∈ lw_u := lw_m3 (List.mem_of_getElem? (i := 216) (by decide +kernel)) rfl
theorem uw_536 : Cond.methodLink RL 17 yX5_row ∈ lw_u := lw_m3 (List.mem_of_getElem? (i := 217) (by decide +kernel)) rfl
theorem uw_537 : Cond.instanceMethod yX5_row ∈ lw_u := lw_m3 (List.mem_of_getElem? (i := 218) (by decide +kernel)) rfl
theorem uw_538 : Cond.selects RX5 yX5_row yX5_row ∈ lw_u := lw_m3 (List.mem_of_getElem? (i := 219) (by decide +kernel)) rfl
theorem uw_539 : Cond.code yX5_row cX5_row 5 (some .int) ∈ lw_u := lw_m3 (List.mem_of_getElem? (i := 220) rfl) rfl
theorem uw_540 : Cond.methodLink RX5 61 yX5_isRow ∈ lw_u := lw_m3 (List.mem_of_getElem? (i := 221) (by decide +kernel)) rfl
theorem uw_541 : Cond.static yX5_isRow ∈ lw_u := lw_m3 (List.mem_of_getElem? (i := 222) (by decide +kernel)) rfl
theorem uw_542 : Cond.code yX5_isRow cX5_isRow 1 (some .boolean) ∈ lw_u := lw_m3 (List.mem_of_getElem? (i := 223) rfl) rfl
theorem uw_543 : Cond.constantLong RX5 55 (7) ∈ lw_u := lw_m3 (List.mem_of_getElem? (i := 224) (by decide +kernel)) rfl
theorem uw_544 : Cond.methodLink RX5 57 yX5_in ∈ lw_u := lw_m3 (List.mem_of_getElem? (i := 225) (by decide +kernel)) rfl
theorem uw_545 : Cond.static yX5_in ∈ lw_u := lw_m3 (List.mem_of_getElem? (i := 226) (by decide +kernel)) rfl
theorem uw_546 : Cond.code yX5_in cX5_in 6 (some .boolean) ∈ lw_u := lw_m3 (List.mem_of_getElem? (i := 227) rfl) rfl
theorem uw_547 : Cond.constantLong RX5 65 (2) ∈ lw_u := lw_m3 (List.mem_of_getElem? (i := 228) (by decide +kernel)) rfl
theorem uw_548 : Cond.constant RX5 67 (-1000001) ∈ lw_u := lw_m3 (List.mem_of_getElem? (i := 229) (by decide +kernel)) rfl
theorem uw_549 : Cond.methodLink RX5 68 yX5_finding ∈ lw_u := lw_m3 (List.mem_of_getElem? (i := 230) (by decide +kernel)) rfl
theorem uw_550 : Cond.instanceMethod yX5_finding ∈ lw_u := lw_m3 (List.mem_of_getElem? (i := 232) (by decide +kernel)) rfl
theorem uw_551 : Cond.code yX5_finding cX5_finding 2 (some .int) ∈ lw_u := lw_m3 (List.mem_of_getElem? (i := 233) rfl) rfl
theorem uw_552 : Cond.constant RX5 54 (-1000010) ∈ lw_u := lw_m3 (List.mem_of_getElem? (i := 234) (by decide +kernel)) rfl
theorem uw_553 : Cond.methodLink RL 21 yX5_set ∈ lw_u := lw_m3 (List.mem_of_getElem? (i := 235) (by decide +kernel)) rfl
theorem uw_554 : Cond.instanceMethod yX5_set ∈ lw_u := lw_m3 (List.mem_of_getElem? (i := 236) (by decide +kernel)) rfl
theorem uw_555 : Cond.selects RX5 yX5_set yX5_set ∈ lw_u := lw_m3 (List.mem_of_getElem? (i := 237) (by decide +kernel)) rfl
theorem uw_556 : Cond.code yX5_set cX5_set 4 (some .int) ∈ lw_u := lw_m3 (List.mem_of_getElem? (i := 238) rfl) rfl
theorem uw_557 : Cond.methodLink RL 26 yX5_copy ∈ lw_u := lw_m3 (List.mem_of_getElem? (i := 239) (by decide +kernel)) rfl
theorem uw_558 : Cond.instanceMethod yX5_copy ∈ lw_u := lw_m4 (List.mem_of_getElem? (i := 0) (by decide +kernel)) rfl
theorem uw_559 : Cond.selects RX5 yX5_copy yX5_copy ∈ lw_u := lw_m4 (List.mem_of_getElem? (i := 1) (by decide +kernel)) rfl
theorem uw_560 : Cond.code yX5_copy cX5_copy 9 (some .int) ∈ lw_u := lw_m4 (List.mem_of_getElem? (i := 2) rfl) rfl
theorem uw_561 : Cond.methodLink RL 31 yX5_drop ∈ lw_u := lw_m4 (List.mem_of_getElem? (i := 3) (by decide +kernel)) rfl
theorem uw_562 : Cond.instanceMethod yX5_drop ∈ lw_u := lw_m4 (List.mem_of_getElem? (i := 4) (by decide +kernel)) rfl
theorem uw_563 : Cond.selects RX5 yX5_drop yX5_drop ∈ lw_u := lw_m4 (List.mem_of_getElem? (i := 5) (by decide +kernel)) rfl
theorem uw_564 : Cond.code yX5_drop cX5_drop 2 (some .int) ∈ lw_u := lw_m4 (List.mem_of_getElem? (i := 6) rfl) rfl
theorem uw_565 : Cond.methodLink RL 35 yX5_feed ∈ lw_u := lw_m4 (List.mem_of_getElem? (i := 7) (by decide +kernel)) rfl
theorem uw_566 : Cond.instanceMethod yX5_feed ∈ lw_u := lw_m4 (List.mem_of_getElem? (i := 8) (by decide +kernel)) rfl
theorem uw_567 : Cond.selects RX5 yX5_feed yX5_feed ∈ lw_u := lw_m4 (List.mem_of_getElem? (i := 9) (by decide +kernel)) rfl
theorem uw_568 : Cond.code yX5_feed cX5_feed 2 (some .int) ∈ lw_u := lw_m4 (List.mem_of_getElem? (i := 10) rfl) rfl
theorem uw_569 : Cond.constantLong RX5 72 (255) ∈ lw_u := lw_m4 (List.mem_of_getElem? (i := 11) (by decide +kernel)) rfl
theorem uw_570 : Cond.constant RX5 77 (-1000003) ∈ lw_u := lw_m4 (List.mem_of_getElem? (i := 12) (by decide +kernel)) rfl
theorem uw_571 : Cond.methodLink RL 44 yX5_fault ∈ lw_u := lw_m4 (List.mem_of_getElem? (i := 13) (by decide +kernel)) rfl
theorem uw_572 : Cond.instanceMethod yX5_fault ∈ lw_u := lw_m4 (List.mem_of_getElem? (i := 14) (by decide +kernel)) rfl
theorem uw_573 : Cond.selects RX5 yX5_fault yX5_fault ∈ lw_u := lw_m4 (List.mem_of_getElem? (i := 15) (by decide +kernel)) rfl
theorem uw_574 : Cond.code yX5_fault cX5_fault 1 (some .int) ∈ lw_u := lw_m4 (List.mem_of_getElem? (i := 16) rfl) rfl
theorem uw_575 : Cond.methodLink RL 40 yX5_light ∈ lw_u := lw_m4 (List.mem_of_getElem? (i := 17) (by decide +kernel)) rfl
theorem uw_576 : Cond.instanceMethod yX5_light ∈ lw_u := lw_m4 (List.mem_of_getElem? (i := 18) (by decide +kernel)) rfl
theorem uw_577 : Cond.selects RX5 yX5_light yX5_light ∈ lw_u := lw_m4 (List.mem_of_getElem? (i := 19) (by decide +kernel)) rfl
theorem uw_578 : Cond.code yX5_light cX5_light 2 (some .int) ∈ lw_u := lw_m4 (List.mem_of_getElem? (i := 20) rfl) rfl
theorem uw_579 : Cond.methodLink RX5 132 yX5_begin ∈ lw_u := lw_m4 (List.mem_of_getElem? (i := 21) (by decide +kernel)) rfl
theorem uw_580 : Cond.instanceMethod yX5_begin ∈ lw_u := lw_m4 (List.mem_of_getElem? (i := 23) (by decide +kernel)) rfl
theorem uw_581 : Cond.code yX5_begin cX5_begin 1 none ∈ lw_u := lw_m4 (List.mem_of_getElem? (i := 24) rfl) rfl
theorem uw_582 : Cond.methodLink RX5 109 yX5_nextToken ∈ lw_u := lw_m4 (List.mem_of_getElem? (i := 25) (by decide +kernel)) rfl
theorem uw_583 : Cond.instanceMethod yX5_nextToken ∈ lw_u := lw_m4 (List.mem_of_getElem? (i := 27) (by decide +kernel)) rfl
theorem uw_584 : Cond.code yX5_nextToken cX5_nextToken 1 none ∈ lw_u := lw_m4 (List.mem_of_getElem? (i := 28) rfl) rfl
theorem uw_585 : Cond.constant RX5 90 (-1000000) ∈ lw_u := lw_m4 (List.mem_of_getElem? (i := 29) (by decide +kernel)) rfl
theorem uw_586 : Cond.constantLong RX5 94 (97) ∈ lw_u := lw_m4 (List.mem_of_getElem? (i := 30) (by decide +kernel)) rfl
theorem uw_587 : Cond.constantLong RX5 96 (122) ∈ lw_u := lw_m4 (List.mem_of_getElem? (i := 31) (by decide +kernel)) rfl
theorem uw_588 : Cond.constantLong RX5 98 (48) ∈ lw_u := lw_m4 (List.mem_of_getElem? (i := 32) (by decide +kernel)) rfl
theorem uw_589 : Cond.constantLong RX5 100 (57) ∈ lw_u := lw_m4 (List.mem_of_getElem? (i := 33) (by decide +kernel)) rfl
theorem uw_590 : Cond.methodLink RX5 122 yX5_isLetter ∈ lw_u := lw_m4 (List.mem_of_getElem? (i := 34) (by decide +kernel)) rfl
theorem uw_591 : Cond.instanceMethod yX5_isLetter ∈ lw_u := lw_m4 (List.mem_of_getElem? (i := 36) (by decide +kernel)) rfl
theorem uw_592 : Cond.code yX5_isLetter cX5_isLetter 2 (some .boolean) ∈ lw_u := lw_m4 (List.mem_of_getElem? (i := 37) rfl) rfl
theorem uw_593 : Cond.methodLink RX5 112 yX5_must ∈ lw_u := lw_m4 (List.mem_of_getElem? (i := 38) (by decide +kernel)) rfl
theorem uw_594 : Cond.instanceMethod yX5_must ∈ lw_u := lw_m4 (List.mem_of_getElem? (i := 40) (by decide +kernel)) rfl
theorem uw_595 : Cond.code yX5_must cX5_must 2 none ∈ lw_u := lw_m4 (List.mem_of_getElem? (i := 41) rfl) rfl
theorem uw_596 : Cond.methodLink RX5 105 yX5_bad ∈ lw_u := lw_m4 (List.mem_of_getElem? (i := 42) (by decide +kernel)) rfl
theorem uw_597 : Cond.instanceMethod yX5_bad ∈ lw_u := lw_m4 (List.mem_of_getElem? (i := 44) (by decide +kernel)) rfl
theorem uw_598 : Cond.code yX5_bad cX5_bad 2 none ∈ lw_u := lw_m4 (List.mem_of_getElem? (i := 45) rfl) rfl
theorem uw_599 : Cond.methodLink RX5 125 yX5_number ∈ lw_u := lw_m4 (List.mem_of_getElem? (i := 46) (by decide +kernel)) rfl
theorem uw_600 : Cond.instanceMethod yX5_number ∈ lw_u := lw_m4 (List.mem_of_getElem? (i := 48) (by decide +kernel)) rfl
theorem uw_601 : Cond.code yX5_number cX5_number 4 (some .int) ∈ lw_u := lw_m4 (List.mem_of_getElem? (i := 49) rfl) rfl
theorem uw_602 : Cond.methodLink RX5 129 yX5_mustSign ∈ lw_u := lw_m4 (List.mem_of_getElem? (i := 50) (by decide +kernel)) rfl
theorem uw_603 : Cond.instanceMethod yX5_mustSign ∈ lw_u := lw_m4 (List.mem_of_getElem? (i := 52) (by decide +kernel)) rfl
theorem uw_604 : Cond.code yX5_mustSign cX5_mustSign 2 none ∈ lw_u := lw_m4 (List.mem_of_getElem? (i := 53) rfl) rfl
theorem uw_605 : Cond.methodLink RX5 135 yX5_readFog ∈ lw_u := lw_m4 (List.mem_of_getElem? (i := 54) (by decide +kernel)) rfl
theorem uw_606 : Cond.instanceMethod yX5_readFog ∈ lw_u := lw_m4 (List.mem_of_getElem? (i := 56) (by decide +kernel)) rfl
theorem uw_607 : Cond.code yX5_readFog cX5_readFog 2 none ∈ lw_u := lw_m4 (List.mem_of_getElem? (i := 57) rfl) rfl
theorem uw_608 : Cond.methodLink RX5 138 yX5_isSort ∈ lw_u := lw_m4 (List.mem_of_getElem? (i := 58) (by decide +kernel)) rfl
theorem uw_609 : Cond.instanceMethod yX5_isSort ∈ lw_u := lw_m4 (List.mem_of_getElem? (i := 60) (by decide +kernel)) rfl
theorem uw_610 : Cond.code yX5_isSort cX5_isSort 1 (some .boolean) ∈ lw_u := lw_m4 (List.mem_of_getElem? (i := 61) rfl) rfl
theorem uw_611 : Cond.methodLink RX5 119 yX5_kindBy ∈ lw_u := lw_m4 (List.mem_of_getElem? (i := 62) (by decide +kernel)) rfl
theorem uw_612 : Cond.static yX5_kindBy ∈ lw_u := lw_m4 (List.mem_of_getElem? (i := 63) (by decide +kernel)) rfl
theorem uw_613 : Cond.code yX5_kindBy cX5_kindBy 1 (some .int) ∈ lw_u := lw_m4 (List.mem_of_getElem? (i := 64) rfl) rfl
theorem uw_614 : Cond.methodLink RX5 142 yX5_readShip ∈ lw_u := lw_m4 (List.mem_of_getElem? (i := 65) (by decide +kernel)) rfl
theorem uw_615 : Cond.instanceMethod yX5_readShip ∈ lw_u := lw_m4 (List.mem_of_getElem? (i := 67) (by decide +kernel)) rfl
theorem uw_616 : Cond.code yX5_readShip cX5_readShip 3 none ∈ lw_u := lw_m4 (List.mem_of_getElem? (i := 68) rfl) rfl
theorem uw_617 : Cond.methodLink RX5 145 yX5_failed ∈ lw_u := lw_m4 (List.mem_of_getElem? (i := 69) (by decide +kernel)) rfl
theorem uw_618 : Cond.instanceMethod yX5_failed ∈ lw_u := lw_m4 (List.mem_of_getElem? (i := 71) (by decide +kernel)) rfl
theorem uw_619 : Cond.code yX5_failed cX5_failed 1 (some .boolean) ∈ lw_u := lw_m4 (List.mem_of_getElem? (i := 72) rfl) rfl
theorem uw_620 : Cond.constant RX5 148 (-1000100) ∈ lw_u := lw_m4 (List.mem_of_getElem? (i := 73) (by decide +kernel)) rfl
theorem uw_621 : Cond.methodLink RL 52 yX5_watches ∈ lw_u := lw_m4 (List.mem_of_getElem? (i := 74) (by decide +kernel)) rfl
theorem uw_622 : Cond.instanceMethod yX5_watches ∈ lw_u := lw_m4 (List.mem_of_getElem? (i := 75) (by decide +kernel)) rfl
theorem uw_623 : Cond.selects RX5 yX5_watches yX5_watches ∈ lw_u := lw_m4 (List.mem_of_getElem? (i := 76) (by decide +kernel)) rfl
theorem uw_624 : Cond.code yX5_watches cX5_watches 3 (some .int) ∈ lw_u := lw_m4 (List.mem_of_getElem? (i := 77) rfl) rfl
theorem uw_625 : Cond.methodLink RX5 177 yX5_isThere ∈ lw_u := lw_m4 (List.mem_of_getElem? (i := 78) (by decide +kernel)) rfl
theorem uw_626 : Cond.instanceMethod yX5_isThere ∈ lw_u := lw_m4 (List.mem_of_getElem? (i := 80) (by decide +kernel)) rfl
theorem uw_627 : Cond.code yX5_isThere cX5_isThere 1 (some .boolean) ∈ lw_u := lw_m4 (List.mem_of_getElem? (i := 81) rfl) rfl
theorem uw_628 : Cond.constant RX5 180 (-1000002) ∈ lw_u := lw_m4 (List.mem_of_getElem? (i := 82) (by decide +kernel)) rfl
theorem uw_629 : Cond.constantLong RX5 181 (24) ∈ lw_u := lw_m4 (List.mem_of_getElem? (i := 83) (by decide +kernel)) rfl
theorem uw_630 : Cond.methodLink RX5 183 yX5_keep ∈ lw_u := lw_m4 (List.mem_of_getElem? (i := 84) (by decide +kernel)) rfl
theorem uw_631 : Cond.instanceMethod yX5_keep ∈ lw_u := lw_m4 (List.mem_of_getElem? (i := 86) (by decide +kernel)) rfl
theorem uw_632 : Cond.code yX5_keep cX5_keep 2 none ∈ lw_u := lw_m4 (List.mem_of_getElem? (i := 87) rfl) rfl
theorem uw_633 : Cond.methodLink RX5 173 yX5_watchOf ∈ lw_u := lw_m4 (List.mem_of_getElem? (i := 88) (by decide +kernel)) rfl
theorem uw_634 : Cond.static yX5_watchOf ∈ lw_u := lw_m4 (List.mem_of_getElem? (i := 89) (by decide +kernel)) rfl
theorem uw_635 : Cond.code yX5_watchOf cX5_watchOf 2 none ∈ lw_u := lw_m4 (List.mem_of_getElem? (i := 90) rfl) rfl
theorem uw_636 : Cond.methodLink RX5 170 yX5_nextCell ∈ lw_u := lw_m4 (List.mem_of_getElem? (i := 91) (by decide +kernel)) rfl
theorem uw_637 : Cond.static yX5_nextCell ∈ lw_u := lw_m4 (List.mem_of_getElem? (i := 92) (by decide +kernel)) rfl
theorem uw_638 : Cond.code yX5_nextCell cX5_nextCell 5 (some .int) ∈ lw_u := lw_m4 (List.mem_of_getElem? (i := 93) rfl) rfl
theorem uw_639 : Cond.methodLink RX5 152 yX5_of ∈ lw_u := lw_m4 (List.mem_of_getElem? (i := 94) (by decide +kernel)) rfl
theorem uw_640 : Cond.static yX5_of ∈ lw_u := lw_m4 (List.mem_of_getElem? (i := 95) (by decide +kernel)) rfl
theorem uw_641 : Cond.code yX5_of cX5_of 3 (some .int) ∈ lw_u := lw_m4 (List.mem_of_getElem? (i := 96) rfl) rfl
theorem uw_642 : Cond.methodLink RX5 156 yX5_thickOf ∈ lw_u := lw_m4 (List.mem_of_getElem? (i := 97) (by decide +kernel)) rfl
theorem uw_643 : Cond.static yX5_thickOf ∈ lw_u := lw_m4 (List.mem_of_getElem? (i := 98) (by decide +kernel)) rfl
theorem uw_644 : Cond.code yX5_thickOf cX5_thickOf 2 (some .int) ∈ lw_u := lw_m4 (List.mem_of_getElem? (i := 99) rfl) rfl
theorem uw_645 : Cond.methodLink RX5 186 yX5_differ ∈ lw_u := lw_m4 (List.mem_of_getElem? (i := 100) (by decide +kernel)) rfl
theorem uw_646 : Cond.static yX5_differ ∈ lw_u := lw_m4 (List.mem_of_getElem? (i := 101) (by decide +kernel)) rfl
theorem uw_647 : Cond.code yX5_differ cX5_differ 1 (some .int) ∈ lw_u := lw_m4 (List.mem_of_getElem? (i := 102) rfl) rfl
theorem uw_648 : Cond.methodLink RX5 167 yX5_seenBy ∈ lw_u := lw_m4 (List.mem_of_getElem? (i := 103) (by decide +kernel)) rfl
theorem uw_649 : Cond.static yX5_seenBy ∈ lw_u := lw_m4 (List.mem_of_getElem? (i := 104) (by decide +kernel)) rfl
theorem uw_650 : Cond.code yX5_seenBy cX5_seenBy 4 (some .int) ∈ lw_u := lw_m4 (List.mem_of_getElem? (i := 105) rfl) rfl
theorem uw_651 : Cond.methodLink RX5 160 yX5_loggedOf ∈ lw_u := lw_m4 (List.mem_of_getElem? (i := 106) (by decide +kernel)) rfl
theorem uw_652 : Cond.static yX5_loggedOf ∈ lw_u := lw_m4 (List.mem_of_getElem? (i := 107) (by decide +kernel)) rfl
theorem uw_653 : Cond.code yX5_loggedOf cX5_loggedOf 6 (some .int) ∈ lw_u := lw_m4 (List.mem_of_getElem? (i := 108) rfl) rfl
theorem uw_654 : Cond.methodLink RX5 163 yX5_has ∈ lw_u := lw_m4 (List.mem_of_getElem? (i := 109) (by decide +kernel)) rfl
theorem uw_655 : Cond.static yX5_has ∈ lw_u := lw_m4 (List.mem_of_getElem? (i := 110) (by decide +kernel)) rfl
theorem uw_656 : Cond.code yX5_has cX5_has 2 (some .boolean) ∈ lw_u := lw_m4 (List.mem_of_getElem? (i := 111) rfl) rfl
theorem uw_657 : Cond.methodLink RL 56 yX5_pour ∈ lw_u := lw_m4 (List.mem_of_getElem? (i := 112) (by decide +kernel)) rfl
theorem uw_658 : Cond.instanceMethod yX5_pour ∈ lw_u := lw_m4 (List.mem_of_getElem? (i := 113) (by decide +kernel)) rfl
theorem uw_659 : Cond.selects RX5 yX5_pour yX5_pour ∈ lw_u := lw_m4 (List.mem_of_getElem? (i := 114) (by decide +kernel)) rfl
theorem uw_660 : Cond.code yX5_pour cX5_pour 2 (some .int) ∈ lw_u := lw_m4 (List.mem_of_getElem? (i := 115) rfl) rfl
theorem uw_661 : Cond.constantLong RX5 190 (60) ∈ lw_u := lw_m4 (List.mem_of_getElem? (i := 116) (by decide +kernel)) rfl
theorem uw_662 : Cond.methodLink RX5 192 yX5_pourInto ∈ lw_u := lw_m4 (List.mem_of_getElem? (i := 117) (by decide +kernel)) rfl
theorem uw_663 : Cond.static yX5_pourInto ∈ lw_u := lw_m4 (List.mem_of_getElem? (i := 118) (by decide +kernel)) rfl
theorem uw_664 : Cond.code yX5_pourInto cX5_pourInto 2 none ∈ lw_u := lw_m4 (List.mem_of_getElem? (i := 119) rfl) rfl
theorem uw_665 : Cond.methodLink RL 61 yX5_fog ∈ lw_u := lw_m4 (List.mem_of_getElem? (i := 120) (by decide +kernel)) rfl
theorem uw_666 : Cond.instanceMethod yX5_fog ∈ lw_u := lw_m4 (List.mem_of_getElem? (i := 121) (by decide +kernel)) rfl
theorem uw_667 : Cond.selects RX5 yX5_fog yX5_fog ∈ lw_u := lw_m4 (List.mem_of_getElem? (i := 122) (by decide +kernel)) rfl
theorem uw_668 : Cond.code yX5_fog cX5_fog 4 (some .int) ∈ lw_u := lw_m4 (List.mem_of_getElem? (i := 123) rfl) rfl
theorem uw_669 : Cond.methodLink RX5 196 yX5_isFog ∈ lw_u := lw_m4 (List.mem_of_getElem? (i := 124) (by decide +kernel)) rfl
theorem uw_670 : Cond.instanceMethod yX5_isFog ∈ lw_u := lw_m4 (List.mem_of_getElem? (i := 126) (by decide +kernel)) rfl
theorem uw_671 : Cond.code yX5_isFog cX5_isFog 2 (some .boolean) ∈ lw_u := lw_m4 (List.mem_of_getElem? (i := 127) rfl) rfl
theorem uw_672 : Cond.constantLong RX5 199 (9) ∈ lw_u := lw_m4 (List.mem_of_getElem? (i := 128) (by decide +kernel)) rfl
theorem uw_673 : Cond.methodLink RL 65 yX5_eyes ∈ lw_u := lw_m4 (List.mem_of_getElem? (i := 129) (by decide +kernel)) rfl
theorem uw_674 : Cond.instanceMethod yX5_eyes ∈ lw_u := lw_m4 (List.mem_of_getElem? (i := 130) (by decide +kernel)) rfl
theorem uw_675 : Cond.selects RX5 yX5_eyes yX5_eyes ∈ lw_u := lw_m4 (List.mem_of_getElem? (i := 131) (by decide +kernel)) rfl
theorem uw_676 : Cond.code yX5_eyes cX5_eyes 3 (some .int) ∈ lw_u := lw_m4 (List.mem_of_getElem? (i := 132) rfl) rfl
theorem uw_677 : Cond.constantLong RX5 201 (12) ∈ lw_u := lw_m4 (List.mem_of_getElem? (i := 133) (by decide +kernel)) rfl
theorem uw_678 : Cond.methodLink RL 69 yX5_move ∈ lw_u := lw_m4 (List.mem_of_getElem? (i := 134) (by decide +kernel)) rfl
theorem uw_679 : Cond.instanceMethod yX5_move ∈ lw_u := lw_m4 (List.mem_of_getElem? (i := 135) (by decide +kernel)) rfl
theorem uw_680 : Cond.selects RX5 yX5_move yX5_move ∈ lw_u := lw_m4 (List.mem_of_getElem? (i := 136) (by decide +kernel)) rfl
theorem uw_681 : Cond.code yX5_move cX5_move 4 (some .int) ∈ lw_u := lw_m4 (List.mem_of_getElem? (i := 137) rfl) rfl
theorem uw_682 : Cond.methodLink RX5 203 yX5_isShip ∈ lw_u := lw_m4 (List.mem_of_getElem? (i := 138) (by decide +kernel)) rfl
theorem uw_683 : Cond.instanceMethod yX5_isShip ∈ lw_u := lw_m4 (List.mem_of_getElem? (i := 140) (by decide +kernel)) rfl
theorem uw_684 : Cond.code yX5_isShip cX5_isShip 2 (some .boolean) ∈ lw_u := lw_m4 (List.mem_of_getElem? (i := 141) rfl) rfl
theorem uw_685 : Cond.methodLink RX5 206 yX5_isCell ∈ lw_u := lw_m4 (List.mem_of_getElem? (i := 142) (by decide +kernel)) rfl
theorem uw_686 : Cond.instanceMethod yX5_isCell ∈ lw_u := lw_m4 (List.mem_of_getElem? (i := 144) (by decide +kernel)) rfl
theorem uw_687 : Cond.code yX5_isCell cX5_isCell 2 (some .boolean) ∈ lw_u := lw_m4 (List.mem_of_getElem? (i := 145) rfl) rfl
theorem uw_688 : Cond.methodLink RL 48 yX5_undo ∈ lw_u := lw_m4 (List.mem_of_getElem? (i := 146) (by decide +kernel)) rfl
theorem uw_689 : Cond.instanceMethod yX5_undo ∈ lw_u := lw_m4 (List.mem_of_getElem? (i := 147) (by decide +kernel)) rfl
theorem uw_690 : Cond.selects RX5 yX5_undo yX5_undo ∈ lw_u := lw_m4 (List.mem_of_getElem? (i := 148) (by decide +kernel)) rfl
theorem uw_691 : Cond.code yX5_undo cX5_undo 2 (some .int) ∈ lw_u := lw_m4 (List.mem_of_getElem? (i := 149) rfl) rfl
theorem uw_692 : Cond.methodLink RL 73 yX5_ship ∈ lw_u := lw_m4 (List.mem_of_getElem? (i := 150) (by decide +kernel)) rfl
theorem uw_693 : Cond.instanceMethod yX5_ship ∈ lw_u := lw_m4 (List.mem_of_getElem? (i := 151) (by decide +kernel)) rfl
theorem uw_694 : Cond.selects RX5 yX5_ship yX5_ship ∈ lw_u := lw_m4 (List.mem_of_getElem? (i := 152) (by decide +kernel)) rfl
theorem uw_695 : Cond.code yX5_ship cX5_ship 3 (some .int) ∈ lw_u := lw_m4 (List.mem_of_getElem? (i := 153) rfl) rfl
theorem uw_696 : Cond.methodLink RL 77 yX5_stand ∈ lw_u := lw_m4 (List.mem_of_getElem? (i := 154) (by decide +kernel)) rfl
theorem uw_697 : Cond.instanceMethod yX5_stand ∈ lw_u := lw_m4 (List.mem_of_getElem? (i := 155) (by decide +kernel)) rfl
theorem uw_698 : Cond.selects RX5 yX5_stand yX5_stand ∈ lw_u := lw_m4 (List.mem_of_getElem? (i := 156) (by decide +kernel)) rfl
theorem uw_699 : Cond.code yX5_stand cX5_stand 2 (some .int) ∈ lw_u := lw_m4 (List.mem_of_getElem? (i := 157) rfl) rfl
theorem uw_700 : Cond.methodLink RL 81 yX5_thick ∈ lw_u := lw_m4 (List.mem_of_getElem? (i := 158) (by decide +kernel)) rfl
theorem uw_701 : Cond.instanceMethod yX5_thick ∈ lw_u := lw_m4 (List.mem_of_getElem? (i := 159) (by decide +kernel)) rfl
theorem uw_702 : Cond.selects RX5 yX5_thick yX5_thick ∈ lw_u := lw_m4 (List.mem_of_getElem? (i := 160) (by decide +kernel)) rfl
theorem uw_703 : Cond.code yX5_thick cX5_thick 2 (some .int) ∈ lw_u := lw_m4 (List.mem_of_getElem? (i := 161) rfl) rfl
theorem uw_704 : Cond.methodLink RL 85 yX5_ahead ∈ lw_u := lw_m4 (List.mem_of_getElem? (i := 162) (by decide +kernel)) rfl
theorem uw_705 : Cond.instanceMethod yX5_ahead ∈ lw_u := lw_m4 (List.mem_of_getElem? (i := 163) (by decide +kernel)) rfl
theorem uw_706 : Cond.selects RX5 yX5_ahead yX5_ahead ∈ lw_u := lw_m4 (List.mem_of_getElem? (i := 164) (by decide +kernel)) rfl
theorem uw_707 : Cond.code yX5_ahead cX5_ahead 4 (some .int) ∈ lw_u := lw_m4 (List.mem_of_getElem? (i := 165) rfl) rfl
theorem uw_708 : Cond.methodLink RX5 209 yX5_layThen ∈ lw_u := lw_m4 (List.mem_of_getElem? (i := 166) (by decide +kernel)) rfl
theorem uw_709 : Cond.instanceMethod yX5_layThen ∈ lw_u := lw_m4 (List.mem_of_getElem? (i := 168) (by decide +kernel)) rfl
theorem uw_710 : Cond.code yX5_layThen cX5_layThen 2 none ∈ lw_u := lw_m4 (List.mem_of_getElem? (i := 169) rfl) rfl
theorem uw_711 : Cond.methodLink RX5 212 yX5_watchesOf ∈ lw_u := lw_m4 (List.mem_of_getElem? (i := 170) (by decide +kernel)) rfl
theorem uw_712 : Cond.static yX5_watchesOf ∈ lw_u := lw_m4 (List.mem_of_getElem? (i := 171) (by decide +kernel)) rfl
theorem uw_713 : Cond.code yX5_watchesOf cX5_watchesOf 3 none ∈ lw_u := lw_m4 (List.mem_of_getElem? (i := 172) rfl) rfl
theorem uw_714 : Cond.methodLink RL 89 yX5_written ∈ lw_u := lw_m4 (List.mem_of_getElem? (i := 173) (by decide +kernel)) rfl
theorem uw_715 : Cond.instanceMethod yX5_written ∈ lw_u := lw_m4 (List.mem_of_getElem? (i := 174) (by decide +kernel)) rfl
theorem uw_716 : Cond.selects RX5 yX5_written yX5_written ∈ lw_u := lw_m4 (List.mem_of_getElem? (i := 175) (by decide +kernel)) rfl
theorem uw_717 : Cond.code yX5_written cX5_written 3 (some .int) ∈ lw_u := lw_m4 (List.mem_of_getElem? (i := 176) rfl) rfl
theorem uw_718 : Cond.constantLong RX5 215 (3) ∈ lw_u := lw_m4 (List.mem_of_getElem? (i := 177) (by decide +kernel)) rfl
theorem uw_719 : Cond.methodLink RL 93 yX5_when ∈ lw_u := lw_m4 (List.mem_of_getElem? (i := 178) (by decide +kernel)) rfl
theorem uw_720 : Cond.instanceMethod yX5_when ∈ lw_u := lw_m4 (List.mem_of_getElem? (i := 179) (by decide +kernel)) rfl
theorem uw_721 : Cond.selects RX5 yX5_when yX5_when ∈ lw_u := lw_m4 (List.mem_of_getElem? (i := 180) (by decide +kernel)) rfl
theorem uw_722 : Cond.code yX5_when cX5_when 4 (some .int) ∈ lw_u := lw_m4 (List.mem_of_getElem? (i := 181) rfl) rfl
theorem uw_723 : Cond.methodLink RL 97 yX5_quarrel ∈ lw_u := lw_m4 (List.mem_of_getElem? (i := 182) (by decide +kernel)) rfl
theorem uw_724 : Cond.instanceMethod yX5_quarrel ∈ lw_u := lw_m4 (List.mem_of_getElem? (i := 183) (by decide +kernel)) rfl
theorem uw_725 : Cond.selects RX5 yX5_quarrel yX5_quarrel ∈ lw_u := lw_m4 (List.mem_of_getElem? (i := 184) (by decide +kernel)) rfl
theorem uw_726 : Cond.code yX5_quarrel cX5_quarrel 5 (some .int) ∈ lw_u := lw_m4 (List.mem_of_getElem? (i := 185) rfl) rfl
theorem uw_727 : Cond.methodLink RL 101 yX5_pours ∈ lw_u := lw_m4 (List.mem_of_getElem? (i := 186) (by decide +kernel)) rfl
theorem uw_728 : Cond.instanceMethod yX5_pours ∈ lw_u := lw_m4 (List.mem_of_getElem? (i := 187) (by decide +kernel)) rfl
theorem uw_729 : Cond.selects RX5 yX5_pours yX5_pours ∈ lw_u := lw_m4 (List.mem_of_getElem? (i := 188) (by decide +kernel)) rfl
theorem uw_730 : Cond.code yX5_pours cX5_pours 4 (some .int) ∈ lw_u := lw_m4 (List.mem_of_getElem? (i := 189) rfl) rfl
theorem uw_731 : Cond.constantLong RX5 217 (30) ∈ lw_u := lw_m4 (List.mem_of_getElem? (i := 190) (by decide +kernel)) rfl
theorem uw_732 : Cond.methodLink RL 105 yX5_lift ∈ lw_u := lw_m4 (List.mem_of_getElem? (i := 191) (by decide +kernel)) rfl
theorem uw_733 : Cond.instanceMethod yX5_lift ∈ lw_u := lw_m4 (List.mem_of_getElem? (i := 192) (by decide +kernel)) rfl
theorem uw_734 : Cond.selects RX5 yX5_lift yX5_lift ∈ lw_u := lw_m4 (List.mem_of_getElem? (i := 193) (by decide +kernel)) rfl
theorem uw_735 : Cond.code yX5_lift cX5_lift 8 (some .int) ∈ lw_u := lw_m4 (List.mem_of_getElem? (i := 194) rfl) rfl
theorem uw_736 : Cond.methodLink RX5 219 yX5_bits ∈ lw_u := lw_m4 (List.mem_of_getElem? (i := 195) (by decide +kernel)) rfl
theorem uw_737 : Cond.static yX5_bits ∈ lw_u := lw_m4 (List.mem_of_getElem? (i := 196) (by decide +kernel)) rfl
theorem uw_738 : Cond.code yX5_bits cX5_bits 3 (some .int) ∈ lw_u := lw_m4 (List.mem_of_getElem? (i := 197) rfl) rfl
theorem uw_739 : Cond.methodLink RL 109 yX5_sent ∈ lw_u := lw_m4 (List.mem_of_getElem? (i := 198) (by decide +kernel)) rfl
theorem uw_740 : Cond.instanceMethod yX5_sent ∈ lw_u := lw_m4 (List.mem_of_getElem? (i := 199) (by decide +kernel)) rfl
theorem uw_741 : Cond.selects RX5 yX5_sent yX5_sent ∈ lw_u := lw_m4 (List.mem_of_getElem? (i := 200) (by decide +kernel)) rfl
theorem uw_742 : Cond.code yX5_sent cX5_sent 5 (some .int) ∈ lw_u := lw_m4 (List.mem_of_getElem? (i := 201) rfl) rfl
theorem uw_743 : Cond.methodLink RL 113 yX5_share ∈ lw_u := lw_m4 (List.mem_of_getElem? (i := 202) (by decide +kernel)) rfl
theorem uw_744 : Cond.instanceMethod yX5_share ∈ lw_u := lw_m4 (List.mem_of_getElem? (i := 203) (by decide +kernel)) rfl
theorem uw_745 : Cond.selects RX5 yX5_share yX5_share ∈ lw_u := lw_m4 (List.mem_of_getElem? (i := 204) (by decide +kernel)) rfl
theorem uw_746 : Cond.code yX5_share cX5_share 7 (some .int) ∈ lw_u := lw_m4 (List.mem_of_getElem? (i := 205) rfl) rfl
theorem uw_747 : Cond.constantLong RX5 222 (999) ∈ lw_u := lw_m4 (List.mem_of_getElem? (i := 206) (by decide +kernel)) rfl
theorem uw_748 : Cond.methodLink RL 117 yX5_byTurns ∈ lw_u := lw_m4 (List.mem_of_getElem? (i := 207) (by decide +kernel)) rfl
theorem uw_749 : Cond.instanceMethod yX5_byTurns ∈ lw_u := lw_m4 (List.mem_of_getElem? (i := 208) (by decide +kernel)) rfl
theorem uw_750 : Cond.selects RX5 yX5_byTurns yX5_byTurns ∈ lw_u := lw_m4 (List.mem_of_getElem? (i := 209) (by decide +kernel)) rfl
theorem uw_751 : Cond.code yX5_byTurns cX5_byTurns 8 (some .int) ∈ lw_u := lw_m4 (List.mem_of_getElem? (i := 210) rfl) rfl
theorem uw_752 : Cond.constantLong RX5 224 (4) ∈ lw_u := lw_m4 (List.mem_of_getElem? (i := 211) (by decide +kernel)) rfl
theorem uw_753 : Cond.constantLong RX5 226 (20) ∈ lw_u := lw_m4 (List.mem_of_getElem? (i := 212) (by decide +kernel)) rfl
theorem uw_754 : Cond.methodLink RX5 228 yX5_afterTurns ∈ lw_u := lw_m4 (List.mem_of_getElem? (i := 213) (by decide +kernel)) rfl
theorem uw_755 : Cond.instanceMethod yX5_afterTurns ∈ lw_u := lw_m4 (List.mem_of_getElem? (i := 215) (by decide +kernel)) rfl
theorem uw_756 : Cond.code yX5_afterTurns cX5_afterTurns 5 (some .int) ∈ lw_u := lw_m4 (List.mem_of_getElem? (i := 216) rfl) rfl
theorem uw_757 : Cond.methodLink RL 121 yX5_who ∈ lw_u := lw_m4 (List.mem_of_getElem? (i := 217) (by decide +kernel)) rfl
theorem uw_758 : Cond.instanceMethod yX5_who ∈ lw_u := lw_m4 (List.mem_of_getElem? (i := 218) (by decide +kernel)) rfl
theorem uw_759 : Cond.selects RX5 yX5_who yX5_who ∈ lw_u := lw_m4 (List.mem_of_getElem? (i := 219) (by decide +kernel)) rfl
theorem uw_760 : Cond.code yX5_who cX5_who 7 (some .int) ∈ lw_u := lw_m4 (List.mem_of_getElem? (i := 220) rfl) rfl
theorem uw_761 : Cond.methodLink RX5 245 yX5_isMany ∈ lw_u := lw_m4 (List.mem_of_getElem? (i := 221) (by decide +kernel)) rfl
theorem uw_762 : Cond.static yX5_isMany ∈ lw_u := lw_m4 (List.mem_of_getElem? (i := 222) (by decide +kernel)) rfl
theorem uw_763 : Cond.code yX5_isMany cX5_isMany 2 (some .boolean) ∈ lw_u := lw_m4 (List.mem_of_getElem? (i := 223) rfl) rfl
theorem uw_764 : Cond.methodLink RX5 248 yX5_rowFound ∈ lw_u := lw_m4 (List.mem_of_getElem? (i := 224) (by decide +kernel)) rfl
theorem uw_765 : Cond.instanceMethod yX5_rowFound ∈ lw_u := lw_m4 (List.mem_of_getElem? (i := 226) (by decide +kernel)) rfl
theorem uw_766 : Cond.code yX5_rowFound cX5_rowFound 4 (some .int) ∈ lw_u := lw_m4 (List.mem_of_getElem? (i := 227) rfl) rfl
theorem uw_767 : Cond.methodLink RX5 251 yX5_tryAll ∈ lw_u := lw_m4 (List.mem_of_getElem? (i := 228) (by decide +kernel)) rfl
theorem uw_768 : Cond.instanceMethod yX5_tryAll ∈ lw_u := lw_m4 (List.mem_of_getElem? (i := 230) (by decide +kernel)) rfl
theorem uw_769 : Cond.code yX5_tryAll cX5_tryAll 8 none ∈ lw_u := lw_m4 (List.mem_of_getElem? (i := 231) rfl) rfl
theorem uw_770 : Cond.methodLink RX5 241 yX5_isSo ∈ lw_u := lw_m4 (List.mem_of_getElem? (i := 232) (by decide +kernel)) rfl
theorem uw_771 : Cond.instanceMethod yX5_isSo ∈ lw_u := lw_m4 (List.mem_of_getElem? (i := 234) (by decide +kernel)) rfl
theorem uw_772 : Cond.code yX5_isSo cX5_isSo 6 (some .boolean) ∈ lw_u := lw_m4 (List.mem_of_getElem? (i := 235) rfl) rfl
theorem uw_773 : Cond.methodLink RL 125 yX5_fogs ∈ lw_u := lw_m4 (List.mem_of_getElem? (i := 236) (by decide +kernel)) rfl
theorem uw_774 : Cond.instanceMethod yX5_fogs ∈ lw_u := lw_m4 (List.mem_of_getElem? (i := 237) (by decide +kernel)) rfl
theorem uw_775 : Cond.selects RX5 yX5_fogs yX5_fogs ∈ lw_u := lw_m4 (List.mem_of_getElem? (i := 238) (by decide +kernel)) rfl
theorem uw_776 : Cond.code yX5_fogs cX5_fogs 7 (some .int) ∈ lw_u := lw_m4 (List.mem_of_getElem? (i := 239) rfl) rfl
theorem uw_777 : Cond.methodLink RL 129 yX5_sights ∈ lw_u := lw_m5 (List.mem_of_getElem? (i := 0) (by decide +kernel)) rfl
theorem uw_778 : Cond.instanceMethod yX5_sights ∈ lw_u := lw_m5 (List.mem_of_getElem? (i := 1) (by decide +kernel)) rfl
theorem uw_779 : Cond.selects RX5 yX5_sights yX5_sights ∈ lw_u := lw_m5 (List.mem_of_getElem? (i := 2) (by decide +kernel)) rfl
theorem uw_780 : Cond.code yX5_sights cX5_sights 7 (some .int) ∈ lw_u := lw_m5 (List.mem_of_getElem? (i := 3) rfl) rfl
theorem uw_781 : Cond.methodLink RL 134 yX5_fair ∈ lw_u := lw_m5 (List.mem_of_getElem? (i := 4) (by decide +kernel)) rfl
theorem uw_782 : Cond.instanceMethod yX5_fair ∈ lw_u := lw_m5 (List.mem_of_getElem? (i := 5) (by decide +kernel)) rfl
theorem uw_783 : Cond.selects RX5 yX5_fair yX5_fair ∈ lw_u := lw_m5 (List.mem_of_getElem? (i := 6) (by decide +kernel)) rfl
theorem uw_784 : Cond.code yX5_fair cX5_fair 14 (some .long) ∈ lw_u := lw_m5 (List.mem_of_getElem? (i := 7) rfl) rfl
theorem uw_785 : Cond.constantLong RX5 255 (-1000002) ∈ lw_u := lw_m5 (List.mem_of_getElem? (i := 8) (by decide +kernel)) rfl
theorem uw_786 : Cond.constantLong RX5 257 (10) ∈ lw_u := lw_m5 (List.mem_of_getElem? (i := 9) (by decide +kernel)) rfl
theorem uw_787 : Cond.constantLong RX5 259 (-1000001) ∈ lw_u := lw_m5 (List.mem_of_getElem? (i := 10) (by decide +kernel)) rfl
theorem uw_788 : Cond.methodLink RL 138 yX5_drawn ∈ lw_u := lw_m5 (List.mem_of_getElem? (i := 11) (by decide +kernel)) rfl
theorem uw_789 : Cond.instanceMethod yX5_drawn ∈ lw_u := lw_m5 (List.mem_of_getElem? (i := 12) (by decide +kernel)) rfl
theorem uw_790 : Cond.selects RX5 yX5_drawn yX5_drawn ∈ lw_u := lw_m5 (List.mem_of_getElem? (i := 13) (by decide +kernel)) rfl
theorem uw_791 : Cond.code yX5_drawn cX5_drawn 9 (some .int) ∈ lw_u := lw_m5 (List.mem_of_getElem? (i := 14) rfl) rfl
theorem uw_792 : Cond.constantLong RX5 261 (999999) ∈ lw_u := lw_m5 (List.mem_of_getElem? (i := 15) (by decide +kernel)) rfl
theorem uw_793 : Cond.constantLong RX5 263 (16807) ∈ lw_u := lw_m5 (List.mem_of_getElem? (i := 16) (by decide +kernel)) rfl
theorem uw_794 : Cond.constantLong RX5 265 (2147483647) ∈ lw_u := lw_m5 (List.mem_of_getElem? (i := 17) (by decide +kernel)) rfl
theorem uw_795 : Cond.methodLink RL 142 yX5_image ∈ lw_u := lw_m5 (List.mem_of_getElem? (i := 18) (by decide +kernel)) rfl
theorem uw_796 : Cond.instanceMethod yX5_image ∈ lw_u := lw_m5 (List.mem_of_getElem? (i := 19) (by decide +kernel)) rfl
theorem uw_797 : Cond.selects RX5 yX5_image yX5_image ∈ lw_u := lw_m5 (List.mem_of_getElem? (i := 20) (by decide +kernel)) rfl
theorem uw_798 : Cond.code yX5_image cX5_image 3 (some .int) ∈ lw_u := lw_m5 (List.mem_of_getElem? (i := 21) rfl) rfl
theorem uw_799 : Cond.methodLink RL 146 yX5_restore ∈ lw_u := lw_m5 (List.mem_of_getElem? (i := 22) (by decide +kernel)) rfl
theorem uw_800 : Cond.instanceMethod yX5_restore ∈ lw_u := lw_m5 (List.mem_of_getElem? (i := 23) (by decide +kernel)) rfl
theorem uw_801 : Cond.selects RX5 yX5_restore yX5_restore ∈ lw_u := lw_m5 (List.mem_of_getElem? (i := 24) (by decide +kernel)) rfl
theorem uw_802 : Cond.code yX5_restore cX5_restore 3 (some .int) ∈ lw_u := lw_m5 (List.mem_of_getElem? (i := 25) rfl) rfl
theorem uw_803 : Cond.methodLink RL 150 yX5_kind ∈ lw_u := lw_m5 (List.mem_of_getElem? (i := 26) (by decide +kernel)) rfl
theorem uw_804 : Cond.instanceMethod yX5_kind ∈ lw_u := lw_m5 (List.mem_of_getElem? (i := 27) (by decide +kernel)) rfl
theorem uw_805 : Cond.selects RX5 yX5_kind yX5_kind ∈ lw_u := lw_m5 (List.mem_of_getElem? (i := 28) (by decide +kernel)) rfl
theorem uw_806 : Cond.code yX5_kind cX5_kind 2 (some .int) ∈ lw_u := lw_m5 (List.mem_of_getElem? (i := 29) rfl) rfl
theorem uw_807 : Cond.methodLink RL 154 yX5_as ∈ lw_u := lw_m5 (List.mem_of_getElem? (i := 30) (by decide +kernel)) rfl
theorem uw_808 : Cond.instanceMethod yX5_as ∈ lw_u := lw_m5 (List.mem_of_getElem? (i := 31) (by decide +kernel)) rfl
theorem uw_809 : Cond.selects RX5 yX5_as yX5_as ∈ lw_u := lw_m5 (List.mem_of_getElem? (i := 32) (by decide +kernel)) rfl
theorem uw_810 : Cond.code yX5_as cX5_as 3 (some .int) ∈ lw_u := lw_m5 (List.mem_of_getElem? (i := 33) rfl) rfl
theorem uw_811 : Cond.constantLong RX5 267 (5) ∈ lw_u := lw_m5 (List.mem_of_getElem? (i := 34) (by decide +kernel)) rfl
theorem uw_812 : Cond.methodLink RX5 269 yX5_isOf ∈ lw_u := lw_m5 (List.mem_of_getElem? (i := 35) (by decide +kernel)) rfl
theorem uw_813 : Cond.static yX5_isOf ∈ lw_u := lw_m5 (List.mem_of_getElem? (i := 36) (by decide +kernel)) rfl
theorem uw_814 : Cond.code yX5_isOf cX5_isOf 2 (some .boolean) ∈ lw_u := lw_m5 (List.mem_of_getElem? (i := 37) rfl) rfl
theorem uw_815 : Cond.methodLink RL 158 yX5_ask ∈ lw_u := lw_m5 (List.mem_of_getElem? (i := 38) (by decide +kernel)) rfl
theorem uw_816 : Cond.instanceMethod yX5_ask ∈ lw_u := lw_m5 (List.mem_of_getElem? (i := 39) (by decide +kernel)) rfl
theorem uw_817 : Cond.selects RX5 yX5_ask yX5_ask ∈ lw_u := lw_m5 (List.mem_of_getElem? (i := 40) (by decide +kernel)) rfl
theorem uw_818 : Cond.code yX5_ask cX5_ask 3 (some .int) ∈ lw_u := lw_m5 (List.mem_of_getElem? (i := 41) rfl) rfl
theorem uw_819 : Cond.methodLink RX5 287 yX5_sizeOf ∈ lw_u := lw_m5 (List.mem_of_getElem? (i := 42) (by decide +kernel)) rfl
theorem uw_820 : Cond.instanceMethod yX5_sizeOf ∈ lw_u := lw_m5 (List.mem_of_getElem? (i := 44) (by decide +kernel)) rfl
theorem uw_821 : Cond.code yX5_sizeOf cX5_sizeOf 4 (some .int) ∈ lw_u := lw_m5 (List.mem_of_getElem? (i := 45) rfl) rfl
theorem uw_822 : Cond.methodLink RX5 281 yX5_gullSize ∈ lw_u := lw_m5 (List.mem_of_getElem? (i := 46) (by decide +kernel)) rfl
theorem uw_823 : Cond.instanceMethod yX5_gullSize ∈ lw_u := lw_m5 (List.mem_of_getElem? (i := 48) (by decide +kernel)) rfl
theorem uw_824 : Cond.code yX5_gullSize cX5_gullSize 4 (some .int) ∈ lw_u := lw_m5 (List.mem_of_getElem? (i := 49) rfl) rfl
theorem uw_825 : Cond.methodLink RX5 275 yX5_began ∈ lw_u := lw_m5 (List.mem_of_getElem? (i := 50) (by decide +kernel)) rfl
theorem uw_826 : Cond.instanceMethod yX5_began ∈ lw_u := lw_m5 (List.mem_of_getElem? (i := 52) (by decide +kernel)) rfl
theorem uw_827 : Cond.code yX5_began cX5_began 2 none ∈ lw_u := lw_m5 (List.mem_of_getElem? (i := 53) rfl) rfl
theorem uw_828 : Cond.methodLink RX5 278 yX5_plainSize ∈ lw_u := lw_m5 (List.mem_of_getElem? (i := 54) (by decide +kernel)) rfl
theorem uw_829 : Cond.instanceMethod yX5_plainSize ∈ lw_u := lw_m5 (List.mem_of_getElem? (i := 56) (by decide +kernel)) rfl
theorem uw_830 : Cond.code yX5_plainSize cX5_plainSize 2 (some .int) ∈ lw_u := lw_m5 (List.mem_of_getElem? (i := 57) rfl) rfl
theorem uw_831 : Cond.methodLink RX5 284 yX5_markOf ∈ lw_u := lw_m5 (List.mem_of_getElem? (i := 58) (by decide +kernel)) rfl
theorem uw_832 : Cond.instanceMethod yX5_markOf ∈ lw_u := lw_m5 (List.mem_of_getElem? (i := 60) (by decide +kernel)) rfl
theorem uw_833 : Cond.code yX5_markOf cX5_markOf 4 (some .int) ∈ lw_u := lw_m5 (List.mem_of_getElem? (i := 61) rfl) rfl
theorem uw_834 : Cond.methodLink RL 162 yX5_trace ∈ lw_u := lw_m5 (List.mem_of_getElem? (i := 62) (by decide +kernel)) rfl
theorem uw_835 : Cond.instanceMethod yX5_trace ∈ lw_u := lw_m5 (List.mem_of_getElem? (i := 63) (by decide +kernel)) rfl
theorem uw_836 : Cond.selects RX5 yX5_trace yX5_trace ∈ lw_u := lw_m5 (List.mem_of_getElem? (i := 64) (by decide +kernel)) rfl
theorem uw_837 : Cond.code yX5_trace cX5_trace 2 (some .int) ∈ lw_u := lw_m5 (List.mem_of_getElem? (i := 65) rfl) rfl
theorem uw_838 : Cond.methodLink RL 166 yX5_count ∈ lw_u := lw_m5 (List.mem_of_getElem? (i := 66) (by decide +kernel)) rfl
theorem uw_839 : Cond.instanceMethod yX5_count ∈ lw_u := lw_m5 (List.mem_of_getElem? (i := 67) (by decide +kernel)) rfl
theorem uw_840 : Cond.selects RX5 yX5_count yX5_count ∈ lw_u := lw_m5 (List.mem_of_getElem? (i := 68) (by decide +kernel)) rfl
theorem uw_841 : Cond.code yX5_count cX5_count 4 (some .int) ∈ lw_u := lw_m5 (List.mem_of_getElem? (i := 69) rfl) rfl
theorem uw_842 : Cond.methodLink RL 170 yX5_status ∈ lw_u := lw_m5 (List.mem_of_getElem? (i := 70) (by decide +kernel)) rfl
theorem uw_843 : Cond.instanceMethod yX5_status ∈ lw_u := lw_m5 (List.mem_of_getElem? (i := 71) (by decide +kernel)) rfl
theorem uw_844 : Cond.selects RX5 yX5_status yX5_status ∈ lw_u := lw_m5 (List.mem_of_getElem? (i := 72) (by decide +kernel)) rfl
theorem uw_845 : Cond.code yX5_status cX5_status 1 (some .int) ∈ lw_u := lw_m5 (List.mem_of_getElem? (i := 73) rfl) rfl
theorem uw_846 : Cond.selects RX4 yX4_found yX4_found ∈ lw_u := lw_m0 (List.mem_of_getElem? (i := 0) (by decide +kernel)) rfl
theorem uw_847 : Cond.selects RX4 yX4_unfound yX4_unfound ∈ lw_u := lw_m0 (List.mem_of_getElem? (i := 1) (by decide +kernel)) rfl
theorem uw_848 : Cond.selects RX3 yX3_readLaw yX3_readLaw ∈ lw_u := lw_m0 (List.mem_of_getElem? (i := 2) (by decide +kernel)) rfl
theorem uw_849 : Cond.selects RX3 yX3_readSign yX3_readSign ∈ lw_u := lw_m0 (List.mem_of_getElem? (i := 3) (by decide +kernel)) rfl
theorem uw_850 : Cond.selects RX3 yX3_byteHere yX3_byteHere ∈ lw_u := lw_m0 (List.mem_of_getElem? (i := 4) (by decide +kernel)) rfl
theorem uw_851 : Cond.selects RX3 yX3_failAt yX3_failAt ∈ lw_u := lw_m0 (List.mem_of_getElem? (i := 5) (by decide +kernel)) rfl
theorem uw_852 : Cond.selects RX3 yX3_readNumber yX3_readNumber ∈ lw_u := lw_m0 (List.mem_of_getElem? (i := 6) (by decide +kernel)) rfl
theorem uw_853 : Cond.selects RX3 yX3_readFogs yX3_readFogs ∈ lw_u := lw_m0 (List.mem_of_getElem? (i := 7) (by decide +kernel)) rfl
theorem uw_854 : Cond.selects RX3 yX3_readShips yX3_readShips ∈ lw_u := lw_m0 (List.mem_of_getElem? (i := 8) (by decide +kernel)) rfl
theorem uw_855 : Cond.selects RX1 yX1_takeSea yX1_takeSea ∈ lw_u := lw_m0 (List.mem_of_getElem? (i := 9) (by decide +kernel)) rfl
theorem uw_856 : Cond.selects RX1 yX1_outward yX1_outward ∈ lw_u := lw_m0 (List.mem_of_getElem? (i := 10) (by decide +kernel)) rfl
theorem uw_857 : Cond.selects RX4 yX4_differencesIfLifted yX4_differencesIfLifted ∈ lw_u := lw_m0 (List.mem_of_getElem? (i := 11) (by decide +kernel)) rfl
theorem uw_858 : Cond.selects RX4 yX4_bestTurn yX4_bestTurn ∈ lw_u := lw_m0 (List.mem_of_getElem? (i := 12) (by decide +kernel)) rfl
theorem uw_859 : Cond.selects RX4 yX4_balanceBehind yX4_balanceBehind ∈ lw_u := lw_m0 (List.mem_of_getElem? (i := 13) (by decide +kernel)) rfl
theorem uw_860 : Cond.selects RX4 yX4_kindsThatFit yX4_kindsThatFit ∈ lw_u := lw_m0 (List.mem_of_getElem? (i := 14) (by decide +kernel)) rfl
theorem uw_861 : Cond.selects RX4 yX4_probeFits yX4_probeFits ∈ lw_u := lw_m0 (List.mem_of_getElem? (i := 15) (by decide +kernel)) rfl
theorem uw_862 : Cond.selects RX4 yX4_cellsThatFit yX4_cellsThatFit ∈ lw_u := lw_m0 (List.mem_of_getElem? (i := 16) (by decide +kernel)) rfl
theorem uw_863 : Cond.selects RX4 yX4_eyesThatFit yX4_eyesThatFit ∈ lw_u := lw_m0 (List.mem_of_getElem? (i := 17) (by decide +kernel)) rfl
theorem uw_864 : Cond.selects RX4 yX4_oilsThatFit yX4_oilsThatFit ∈ lw_u := lw_m0 (List.mem_of_getElem? (i := 18) (by decide +kernel)) rfl
theorem uw_865 : Cond.selects RX4 yX4_isSameIfLifted yX4_isSameIfLifted ∈ lw_u := lw_m0 (List.mem_of_getElem? (i := 19) (by decide +kernel)) rfl
theorem uw_866 : Cond.selects RX4 yX4_casesOf yX4_casesOf ∈ lw_u := lw_m0 (List.mem_of_getElem? (i := 20) (by decide +kernel)) rfl
theorem uw_867 : Cond.selects RX4 yX4_asked yX4_asked ∈ lw_u := lw_m0 (List.mem_of_getElem? (i := 21) (by decide +kernel)) rfl
theorem uw_868 : Cond.selects RX4 yX4_begun yX4_begun ∈ lw_u := lw_m0 (List.mem_of_getElem? (i := 22) (by decide +kernel)) rfl
theorem uw_869 : Cond.selects RX4 yX4_leave yX4_leave ∈ lw_u := lw_m0 (List.mem_of_getElem? (i := 23) (by decide +kernel)) rfl
theorem uw_870 : Cond.selects RX4 yX4_rowsThere yX4_rowsThere ∈ lw_u := lw_m0 (List.mem_of_getElem? (i := 24) (by decide +kernel)) rfl
theorem uw_871 : Cond.selects RX5 yX5_finding yX5_finding ∈ lw_u := lw_m0 (List.mem_of_getElem? (i := 25) (by decide +kernel)) rfl
theorem uw_872 : Cond.selects RX5 yX5_begin yX5_begin ∈ lw_u := lw_m0 (List.mem_of_getElem? (i := 26) (by decide +kernel)) rfl
theorem uw_873 : Cond.selects RX5 yX5_nextToken yX5_nextToken ∈ lw_u := lw_m0 (List.mem_of_getElem? (i := 27) (by decide +kernel)) rfl
theorem uw_874 : Cond.selects RX5 yX5_isLetter yX5_isLetter ∈ lw_u := lw_m0 (List.mem_of_getElem? (i := 28) (by decide +kernel)) rfl
theorem uw_875 : Cond.selects RX5 yX5_must yX5_must ∈ lw_u := lw_m0 (List.mem_of_getElem? (i := 29) (by decide +kernel)) rfl
theorem uw_876 : Cond.selects RX5 yX5_bad yX5_bad ∈ lw_u := lw_m0 (List.mem_of_getElem? (i := 30) (by decide +kernel)) rfl
theorem uw_877 : Cond.selects RX5 yX5_number yX5_number ∈ lw_u := lw_m0 (List.mem_of_getElem? (i := 31) (by decide +kernel)) rfl
theorem uw_878 : Cond.selects RX5 yX5_mustSign yX5_mustSign ∈ lw_u := lw_m0 (List.mem_of_getElem? (i := 32) (by decide +kernel)) rfl
theorem uw_879 : Cond.selects RX5 yX5_readFog yX5_readFog ∈ lw_u := lw_m0 (List.mem_of_getElem? (i := 33) (by decide +kernel)) rfl
theorem uw_880 : Cond.selects RX5 yX5_isSort yX5_isSort ∈ lw_u := lw_m0 (List.mem_of_getElem? (i := 34) (by decide +kernel)) rfl
theorem uw_881 : Cond.selects RX5 yX5_readShip yX5_readShip ∈ lw_u := lw_m0 (List.mem_of_getElem? (i := 35) (by decide +kernel)) rfl
theorem uw_882 : Cond.selects RX5 yX5_failed yX5_failed ∈ lw_u := lw_m0 (List.mem_of_getElem? (i := 36) (by decide +kernel)) rfl
theorem uw_883 : Cond.selects RX5 yX5_isThere yX5_isThere ∈ lw_u := lw_m0 (List.mem_of_getElem? (i := 37) (by decide +kernel)) rfl
theorem uw_884 : Cond.selects RX5 yX5_keep yX5_keep ∈ lw_u := lw_m0 (List.mem_of_getElem? (i := 38) (by decide +kernel)) rfl
theorem uw_885 : Cond.selects RX5 yX5_isFog yX5_isFog ∈ lw_u := lw_m0 (List.mem_of_getElem? (i := 39) (by decide +kernel)) rfl
theorem uw_886 : Cond.selects RX5 yX5_isShip yX5_isShip ∈ lw_u := lw_m0 (List.mem_of_getElem? (i := 40) (by decide +kernel)) rfl
theorem uw_887 : Cond.selects RX5 yX5_isCell yX5_isCell ∈ lw_u := lw_m0 (List.mem_of_getElem? (i := 41) (by decide +kernel)) rfl
theorem uw_888 : Cond.selects RX5 yX5_layThen yX5_layThen ∈ lw_u := lw_m0 (List.mem_of_getElem? (i := 42) (by decide +kernel)) rfl
theorem uw_889 : Cond.selects RX5 yX5_afterTurns yX5_afterTurns ∈ lw_u := lw_m0 (List.mem_of_getElem? (i := 43) (by decide +kernel)) rfl
theorem uw_890 : Cond.selects RX5 yX5_rowFound yX5_rowFound ∈ lw_u := lw_m0 (List.mem_of_getElem? (i := 44) (by decide +kernel)) rfl
theorem uw_891 : Cond.selects RX5 yX5_tryAll yX5_tryAll ∈ lw_u := lw_m0 (List.mem_of_getElem? (i := 45) (by decide +kernel)) rfl
theorem uw_892 : Cond.selects RX5 yX5_isSo yX5_isSo ∈ lw_u := lw_m0 (List.mem_of_getElem? (i := 46) (by decide +kernel)) rfl
theorem uw_893 : Cond.selects RX5 yX5_sizeOf yX5_sizeOf ∈ lw_u := lw_m0 (List.mem_of_getElem? (i := 47) (by decide +kernel)) rfl
theorem uw_894 : Cond.selects RX5 yX5_gullSize yX5_gullSize ∈ lw_u := lw_m0 (List.mem_of_getElem? (i := 48) (by decide +kernel)) rfl
theorem uw_895 : Cond.selects RX5 yX5_began yX5_began ∈ lw_u := lw_m0 (List.mem_of_getElem? (i := 49) (by decide +kernel)) rfl
theorem uw_896 : Cond.selects RX5 yX5_plainSize yX5_plainSize ∈ lw_u := lw_m0 (List.mem_of_getElem? (i := 50) (by decide +kernel)) rfl
theorem uw_897 : Cond.selects RX5 yX5_markOf yX5_markOf ∈ lw_u := lw_m0 (List.mem_of_getElem? (i := 51) (by decide +kernel)) rfl
end
section
/-! MEMORY: a cell's number is its place behind the base B; what the ints of a cell are is a function. -/
abbrev Mem : Type := Nat → Nat → Int32
def upA (σ : Mem) (c : Nat) (f : Nat → Int32) : Mem := fun x => if x = c then f else σ x
def up (σ : Mem) (c k : Nat) (v : Int32) : Mem := upA σ c (upd (σ c) k v)
def lm_ck {α : Type} (b : Bool) (k : Option α) : Option α := match b with
  | true => k
  | false => none
theorem lm_ck_e {α : Type} {b : Bool} {k : Option α} {r : α} (h : lm_ck b k = some r) : b = true ∧ k = some r := by
  cases b with
  | true => exact ⟨rfl, h⟩
  | false => cases h
def lm_nm {α β : Type} (e : α) (k : α → Option β) : Option β := k e
theorem lm_nm_e {α β : Type} {e : α} {k : α → Option β} {r : β} (h : lm_nm e k = some r) : ∃ x, x = e ∧ k x = some r := ⟨e, rfl, h⟩
def lm_bd {α β : Type} (o : Option α) (k : α → Option β) : Option β := match o with
  | some a => k a
  | none => none
theorem lm_bd_e {α β : Type} {o : Option α} {k : α → Option β} {r : β} (h : lm_bd o k = some r) : ∃ a, o = some a ∧ k a = some r := by
  cases o with
  | some a => exact ⟨a, rfl, h⟩
  | none => cases h
def lm_bd2 {α β : Type} (o : Option (α × Mem)) (k : α → Mem → Option β) : Option β := match o with
  | some (a, m) => k a m
  | none => none
theorem lm_bd2_e {α β : Type} {o : Option (α × Mem)} {k : α → Mem → Option β} {r : β} (h : lm_bd2 o k = some r) : ∃ a m, o = some (a, m) ∧ k a m = some r := by
  cases o with
  | some a => exact ⟨a.1, a.2, rfl, h⟩
  | none => cases h
theorem lm_T {c : Prop} {i : Decidable c} {α : Type} {a b : Option α} {r : α} (hc : c) (h : @ite _ c i a b = some r) : a = some r := by
  rw [if_pos hc] at h
  exact h
theorem lm_F {c : Prop} {i : Decidable c} {α : Type} {a b : Option α} {r : α} (hc : ¬ c) (h : @ite _ c i a b = some r) : b = some r := by
  rw [if_neg hc] at h
  exact h
def lm_in (i : Int32) (n : Nat) : Bool := decide (¬ (i < 0 ∨ n ≤ i.toNatClampNeg))
theorem lm_inT {i : Int32} {n : Nat} (h : lm_in i n = true) : vp_in i n := (of_decide_eq_true h : ¬ (i < 0 ∨ n ≤ i.toNatClampNeg))
def lm_nz (y : Int32) : Bool := decide (¬ y = 0)
theorem lm_nzT {y : Int32} (h : lm_nz y = true) : ¬ y = 0 := of_decide_eq_true h
def lm_nzl (y : Int64) : Bool := decide (¬ y = 0)
theorem lm_nzlT {y : Int64} (h : lm_nzl y = true) : ¬ y = 0 := of_decide_eq_true h
def lm_bo (y : Int32) : Bool := decide (y = 0 ∨ y = 1)
theorem lm_boT {y : Int32} (h : lm_bo y = true) : narrow .boolean (.int y) = .int y := by
  rcases (of_decide_eq_true h : y = 0 ∨ y = 1) with rfl | rfl <;> rfl
theorem lm_lt {i : Int32} {n : Nat} (h : lm_in i n = true) : i.toNatClampNeg < n := Nat.not_le.mp fun q => (lm_inT h) (Or.inr q)
/-! ===== the cells ===== -/
def isL (c : Nat) : Prop := (4 ≤ c ∧ c < 16 ∧ c % 4 = 0) ∨ (18 ≤ c ∧ c < 114 ∧ c % 4 = 2) ∨ (132 ≤ c ∧ c < 140 ∧ c % 4 = 0)
def isR (c : Nat) : Prop := 116 ≤ c ∧ c < 132 ∧ c % 2 = 0
def isM (c : Nat) : Prop := c = 144 ∨ c = 146
abbrev e_obj (ci : Nat) (fs : List Value) : va_E := .inr (ci, fs)
abbrev e_int (cI : ClassId) (n : Nat) (f : Nat → Int32) : va_E := .inl (cI, n, .inl f)
abbrev e_ref (cR : ClassId) (n : Nat) (f : Nat → Option Nat) : va_E := .inl (cR, n, .inr (.inr (.inr (.inr f))))
def e_light (B : Nat) (f : Nat → Int32) (c : Nat) : va_E := e_obj 1 [.ref (B + (c + 1)), .ref (B + (c + 2)), .ref (B + (c + 3)), .int (f 3), .int (f 4), .int (f 5), .int (f 6), .int (f 7), .int (f 8)]
def e_row (B : Nat) (f : Nat → Int32) (c : Nat) : va_E := e_obj 2 [.ref (B + (c + 1)), .int (f 1), .int (f 2), .int (f 3)]
def e_main (B : Nat) (f : Nat → Int32) : va_E := e_obj 4 [.ref (B + 1), .ref (B + 2), .ref (B + 4), .ref (B + 8), .ref (B + 12), .ref (B + 16), .ref (B + 114), .ref (B + 115), .int (f 8), .int (f 9), .int (f 10)]
def e_tape (B : Nat) (f : Nat → Int32) : va_E := e_obj 3 [.ref (B + 3), .int (f 1), .int (f 2), .int (f 3), .int (f 4)]
def e_acts (B : Nat) (f : Nat → Int32) : va_E := e_obj 0 [.ref (B + 17), .int (f 1), .int (f 2)]
def e_model (B : Nat) (f : Nat → Int32) : va_E := e_obj 5 [.int (f 0), .int (f 1), .ref (B + 141), .ref (B + 142), .ref (B + 143), .ref (B + 144), .ref (B + 145), .ref (B + 146), .ref (B + 147), .int (f 9), .ref (B + 148), .int (f 11), .int (f 12), .int (f 13), .int (f 14), .int (f 15), .int (f 16), .int (f 17), .int (f 18), .ref (B + 149), .int (f 20), .int (f 21), .int (f 22), .ref (B + 150), .ref (B + 151), .ref (B + 152), .int (f 26)]
/-- what stands in cell c, by the two memories -/
def cellA (cI cZ cL cR : ClassId) (B : Nat) (σ τ : Mem) (c : Nat) : va_E :=
  if c < 4 then (if c = 0 then e_main B (σ c) else if c = 1 then e_ref cR 8 (fun i => some (B + (116 + 2 * i))) else if c = 2 then e_tape B (σ c) else e_int cI 120 (σ c))
  else if c < 16 then (if c % 4 = 0 then e_light B (σ c) c else e_int cI 6 (σ c))
  else if c < 18 then (if c = 16 then e_acts B (σ c) else e_ref cL 24 (fun i => some (B + (18 + 4 * i))))
  else if c < 114 then (if c % 4 = 2 then e_light B (σ c) c else e_int cI 6 (σ c))
  else if c < 116 then (if c = 114 then e_ref cL 2 (fun i => some (B + (132 + 4 * i))) else e_int cI 16 (σ c))
  else if c < 132 then (if c % 2 = 0 then e_row B (σ c) c else e_int cI 40 (σ c))
  else if c < 140 then (if c % 4 = 0 then e_light B (σ c) c else e_int cI 6 (σ c))
  else if c = 140 then e_model B (τ c)
  else if c < 143 then e_int cI 8 (τ c)
  else if c = 143 then e_int cI 320 (τ c)
  else if c < 147 then e_int cI 24 (τ c)
  else if c = 147 then e_int cI 576 (τ c)
  else if c = 148 then e_int cI 120 (τ c)
  else if c = 149 then e_int cI 16 (τ c)
  else if c = 150 then e_int cZ 2 (τ c)
  else if c = 151 then e_int cI 48 (τ c)
  else e_int cI 16 (τ c)
def wl (cI cZ cL cR : ClassId) (B : Nat) (σ τ : Mem) : va_W := (List.range 153).map (fun c => (B + c, cellA cI cZ cL cR B σ τ c))
def tyl (cI cZ cL cR : ClassId) : List (ClassId × FieldType) := [(cI, .int), (cZ, .boolean), (cL, .object "LampLogs$Light"), (cR, .object "LampLogs$Row")]
section LMA
variable {cI cZ cL cR : ClassId} {B : Nat} {σ τ σ' τ' : Mem}
theorem wl_get {c : Nat} (h : c < 153) : (wl cI cZ cL cR B σ τ)[c]? = some (B + c, cellA cI cZ cL cR B σ τ c) := by
  simp [wl, h]
theorem wl_at {c : Nat} {E : va_E} (h : c < 153) (he : cellA cI cZ cL cR B σ τ c = E) : (wl cI cZ cL cR B σ τ)[c]? = some (B + c, E) := by
  rw [wl_get h, he]
theorem wl_lt {k : Nat} {q : Nat × va_E} (h : (wl cI cZ cL cR B σ τ)[k]? = some q) : k < 153 ∧ q = (B + k, cellA cI cZ cL cR B σ τ k) := by
  have hk : k < 153 := by
    have := (List.getElem?_eq_some_iff.mp h).1
    simpa [wl] using this
  rw [wl_get hk] at h
  exact ⟨hk, (Option.some.inj h).symm⟩
theorem wl_D : va_D (fun q => B ≤ q) (wl cI cZ cL cR B σ τ) := by
  refine ⟨fun i j p q hi hj e => ?_, fun k q hk => ?_⟩
  · obtain ⟨-, rfl⟩ := wl_lt hi
    obtain ⟨-, rfl⟩ := wl_lt hj
    exact Nat.add_left_cancel e
  · obtain ⟨-, rfl⟩ := wl_lt hk
    exact Nat.le_add_right B k
theorem wl_set {c : Nat} {E : va_E} (hn : cellA cI cZ cL cR B σ' τ' c = E) (ho : ∀ x, x ≠ c → cellA cI cZ cL cR B σ' τ' x = cellA cI cZ cL cR B σ τ x) : (wl cI cZ cL cR B σ τ).set c (B + c, E) = wl cI cZ cL cR B σ' τ' := by
  apply List.ext_getElem?
  intro k
  by_cases hk : k < 153
  · rw [wl_get hk]
    by_cases hc : k = c
    · subst hc
      rw [List.getElem?_set_self (by simpa [wl] using hk), hn]
    · rw [List.getElem?_set_ne (Ne.symm hc), wl_get hk, ho k hc]
  · rw [List.getElem?_eq_none (by simpa [wl] using Nat.not_lt.mp hk), List.getElem?_eq_none (by simpa [wl] using Nat.not_lt.mp hk)]
theorem cellA_congr {x : Nat} (h1 : σ' x = σ x) (h2 : τ' x = τ x) : cellA cI cZ cL cR B σ' τ' x = cellA cI cZ cL cR B σ τ x := by
  unfold cellA
  rw [h1, h2]
theorem upA_ne {c x : Nat} {f : Nat → Int32} (h : x ≠ c) : upA σ c f x = σ x := if_neg h
theorem upA_eq {c : Nat} {f : Nat → Int32} : upA σ c f c = f := if_pos rfl
theorem cellA_oC {c : Nat} {f : Nat → Int32} : ∀ x, x ≠ c → cellA cI cZ cL cR B (upA σ c f) τ x = cellA cI cZ cL cR B σ τ x := fun _ h => cellA_congr (upA_ne h) rfl
theorem cellA_oM {c : Nat} {f : Nat → Int32} : ∀ x, x ≠ c → cellA cI cZ cL cR B σ (upA τ c f) x = cellA cI cZ cL cR B σ τ x := fun _ h => cellA_congr rfl (upA_ne h)
-- what each cell is
theorem isL_lt {c : Nat} (h : isL c) : c < 153 := by unfold isL at h; omega
theorem isL_lt1 {c : Nat} (h : isL c) : c + 1 < 153 := by unfold isL at h; omega
theorem isL_lt2 {c : Nat} (h : isL c) : c + 2 < 153 := by unfold isL at h; omega
theorem isL_lt3 {c : Nat} (h : isL c) : c + 3 < 153 := by unfold isL at h; omega
theorem isR_lt {c : Nat} (h : isR c) : c < 153 := by unfold isR at h; omega
theorem isR_lt1 {c : Nat} (h : isR c) : c + 1 < 153 := by unfold isR at h; omega
theorem isM_lt {c : Nat} (h : isM c) : c < 153 := by unfold isM at h; omega
theorem cell_L {c : Nat} (h : isL c) : cellA cI cZ cL cR B σ τ c = e_light B (σ c) c := by
  unfold isL at h
  unfold cellA
  rcases h with ⟨h1, h2, h3⟩ | ⟨h1, h2, h3⟩ | ⟨h1, h2, h3⟩
  · rw [if_neg (by omega), if_pos (by omega), if_pos (by omega)]
  · rw [if_neg (by omega), if_neg (by omega), if_neg (by omega), if_pos (by omega), if_pos (by omega)]
  · rw [if_neg (by omega), if_neg (by omega), if_neg (by omega), if_neg (by omega), if_neg (by omega), if_neg (by omega), if_pos (by omega), if_pos (by omega)]
theorem cell_L1 {c : Nat} (h : isL c) : cellA cI cZ cL cR B σ τ (c + 1) = e_int cI 6 (σ (c + 1)) := by
  unfold isL at h
  unfold cellA
  rcases h with ⟨h1, h2, h3⟩ | ⟨h1, h2, h3⟩ | ⟨h1, h2, h3⟩
  · rw [if_neg (by omega), if_pos (by omega), if_neg (by omega)]
  · rw [if_neg (by omega), if_neg (by omega), if_neg (by omega), if_pos (by omega), if_neg (by omega)]
  · rw [if_neg (by omega), if_neg (by omega), if_neg (by omega), if_neg (by omega), if_neg (by omega), if_neg (by omega), if_pos (by omega), if_neg (by omega)]
theorem cell_L2 {c : Nat} (h : isL c) : cellA cI cZ cL cR B σ τ (c + 2) = e_int cI 6 (σ (c + 2)) := by
  unfold isL at h
  unfold cellA
  rcases h with ⟨h1, h2, h3⟩ | ⟨h1, h2, h3⟩ | ⟨h1, h2, h3⟩
  · rw [if_neg (by omega), if_pos (by omega), if_neg (by omega)]
  · rw [if_neg (by omega), if_neg (by omega), if_neg (by omega), if_pos (by omega), if_neg (by omega)]
  · rw [if_neg (by omega), if_neg (by omega), if_neg (by omega), if_neg (by omega), if_neg (by omega), if_neg (by omega), if_pos (by omega), if_neg (by omega)]
theorem cell_L3 {c : Nat} (h : isL c) : cellA cI cZ cL cR B σ τ (c + 3) = e_int cI 6 (σ (c + 3)) := by
  unfold isL at h
  unfold cellA
  rcases h with ⟨h1, h2, h3⟩ | ⟨h1, h2, h3⟩ | ⟨h1, h2, h3⟩
  · rw [if_neg (by omega), if_pos (by omega), if_neg (by omega)]
  · rw [if_neg (by omega), if_neg (by omega), if_neg (by omega), if_pos (by omega), if_neg (by omega)]
  · rw [if_neg (by omega), if_neg (by omega), if_neg (by omega), if_neg (by omega), if_neg (by omega), if_neg (by omega), if_pos (by omega), if_neg (by omega)]
theorem cell_R {c : Nat} (h : isR c) : cellA cI cZ cL cR B σ τ c = e_row B (σ c) c := by
  unfold isR at h
  unfold cellA
  obtain ⟨h1, h2, h3⟩ := h
  rw [if_neg (by omega), if_neg (by omega), if_neg (by omega), if_neg (by omega), if_neg (by omega), if_pos (by omega), if_pos (by omega)]
theorem cell_R1 {c : Nat} (h : isR c) : cellA cI cZ cL cR B σ τ (c + 1) = e_int cI 40 (σ (c + 1)) := by
  unfold isR at h
  unfold cellA
  obtain ⟨h1, h2, h3⟩ := h
  rw [if_neg (by omega), if_neg (by omega), if_neg (by omega), if_neg (by omega), if_neg (by omega), if_pos (by omega), if_neg (by omega)]
theorem cell_M {c : Nat} (h : isM c) : cellA cI cZ cL cR B σ τ c = e_int cI 24 (τ c) := by
  rcases h with rfl | rfl <;> rfl
theorem isL_ring {i : Int32} (h : lm_in i 24 = true) : isL (18 + 4 * i.toNatClampNeg) := by
  have := lm_lt h
  unfold isL
  omega
theorem isL_image {i : Int32} (h : lm_in i 2 = true) : isL (132 + 4 * i.toNatClampNeg) := by
  have := lm_lt h
  unfold isL
  omega
theorem isR_row {i : Int32} (h : lm_in i 8 = true) : isR (116 + 2 * i.toNatClampNeg) := by
  have := lm_lt h
  unfold isR
  omega
theorem isL_4 : isL 4 := by unfold isL; omega
theorem isL_8 : isL 8 := by unfold isL; omega
theorem isL_12 : isL 12 := by unfold isL; omega
theorem isM_144 : isM 144 := Or.inl rfl
theorem isM_146 : isM 146 := Or.inr rfl
end LMA
end
section
/-! ROWS over the memory: context, contracts, instructions, calls. -/
abbrev lm_A (B : Nat) : Nat → Prop := fun q => B ≤ q
def lm_t1 : Nat → Int32 := fun j => ([0, 0, 1, 1, 0, 4] : List Int32).getD j 0
def lm_t2 : Nat → Int32 := fun j => ([10, 11, 12, 11, 13, 14] : List Int32).getD j 0
def lm_t3 : Nat → Int32 := fun j => ([20, 21, 24, 22, 23, 23] : List Int32).getD j 0
def lm_st (n : String) (f : Nat → Int32) (B : Nat) (U : State) : Prop := ∃ t : Nat, va_Z "LampLogs" n "[I" (.ref t) (lm_A B) U U.heap ∧ va_T .int t 6 (fun j => .int (f j)) (lm_A B) U U.heap
def lm_X (B : Nat) (U : State) : Prop := lm_st "PARENT" lm_t1 B U ∧ lm_st "SIZE_BODY" lm_t2 B U ∧ lm_st "MARK_BODY" lm_t3 B U ∧ va_Nw (.methodLinkNest RX1 54 yX4_isSeenBy "LampLogs") U ∧ va_Nw (.methodLinkNest RX1 58 yX4_bitIf "LampLogs") U ∧ va_Nw (.methodLinkNest RX3 51 yX4_isWithin "LampLogs") U
theorem lm_st.move {n : String} {f : Nat → Int32} {B : Nat} {s U : State} (hvm : s.vm.Alike U.vm) (hh : ∀ a : Nat, a < s.heap.size → ¬ lm_A B a → U.heap[a]? = s.heap[a]?) (h : lm_st n f B s) : lm_st n f B U := by
  obtain ⟨t, h1, h2⟩ := h
  exact ⟨t, (va_Z.moved hvm h1).kept hh, (va_T.moved hvm h2).kept hh⟩
theorem lm_X.move {B : Nat} {s U : State} (hW : s.WarmedH U.vm) (hh : ∀ a : Nat, a < s.heap.size → ¬ lm_A B a → U.heap[a]? = s.heap[a]?) (h : lm_X B s) : lm_X B U :=
  ⟨h.1.move hW.alike hh, h.2.1.move hW.alike hh, h.2.2.1.move hW.alike hh, va_Nw.warmM hW h.2.2.2.1, va_Nw.warmM hW h.2.2.2.2.1, va_Nw.warmM hW h.2.2.2.2.2⟩
def lm_W (D : va_G) (cI cZ cL cR : ClassId) (B : Nat) (σ τ : Mem) (U : State) : Prop := va_P D vwCl (wl cI cZ cL cR B σ τ) U.heap ∧ va_K D vwCl (tyl cI cZ cL cR) U ∧ lm_X B U
theorem lm_blind {D : va_G} {cI cZ cL cR : ClassId} {B : Nat} {σ τ : Mem} {As : List Value} : FrameBlind (va_Pc As (lm_W D cI cZ cL cR B σ τ)) := by
  intro a U g mk h
  obtain ⟨h0, h1, h2, h3⟩ := h
  obtain ⟨x1, x2, x3, x4, x5, x6⟩ := h3
  exact ⟨h0, h1, va_K.moved (u := U) (U := U.calling g mk a) (Vm.Alike.refl U.vm) h2, lm_st.move (s := U) (U := U.calling g mk a) (Vm.Alike.refl U.vm) (fun _ _ _ => rfl) x1, lm_st.move (s := U) (U := U.calling g mk a) (Vm.Alike.refl U.vm) (fun _ _ _ => rfl) x2, lm_st.move (s := U) (U := U.calling g mk a) (Vm.Alike.refl U.vm) (fun _ _ _ => rfl) x3, va_Nw.same (u := U) (U := U.calling g mk a) rfl rfl x4, va_Nw.same (u := U) (U := U.calling g mk a) rfl rfl x5, va_Nw.same (u := U) (U := U.calling g mk a) rfl rfl x6⟩
abbrev lm_QI (D : va_G) (cI cZ cL cR : ClassId) (B : Nat) (r : Int32) (σ τ : Mem) : Array Value → State → Outcome → State → Prop := va_Qi (fun (r2 : Int32) (_ : Unit) => r2 = r) (fun _ t => va_P D vwCl (wl cI cZ cL cR B σ τ) t.heap) (lm_A B)
abbrev lm_QJ (D : va_G) (cI cZ cL cR : ClassId) (B : Nat) (r : Int64) (σ τ : Mem) : Array Value → State → Outcome → State → Prop := va_Ql (fun (r2 : Int64) (_ : Unit) => r2 = r) (fun _ t => va_P D vwCl (wl cI cZ cL cR B σ τ) t.heap) (lm_A B)
abbrev lm_QV (D : va_G) (cI cZ cL cR : ClassId) (B : Nat) (σ τ : Mem) : Array Value → State → Outcome → State → Prop := va_Qv (fun (_ : Unit) => True) (fun _ t => va_P D vwCl (wl cI cZ cL cR B σ τ) t.heap) (lm_A B)
/-- a method's contract: from the memories σ τ it comes back with r, the memories being σ' τ' then -/
def lm_CI (l : Launch) (y : MethodName) (ws : List Cond) (rm : Room) (D : va_G) (cI cZ cL cR : ClassId) (B : Nat) (As : List Value) (σ τ : Mem) (r : Int32) (σ' τ' : Mem) : Prop := Met l y ws rm (va_Pc As (lm_W D cI cZ cL cR B σ τ)) (lm_QI D cI cZ cL cR B r σ' τ') 0 0 (lm_A B)
def lm_CJ (l : Launch) (y : MethodName) (ws : List Cond) (rm : Room) (D : va_G) (cI cZ cL cR : ClassId) (B : Nat) (As : List Value) (σ τ : Mem) (r : Int64) (σ' τ' : Mem) : Prop := Met l y ws rm (va_Pc As (lm_W D cI cZ cL cR B σ τ)) (lm_QJ D cI cZ cL cR B r σ' τ') 0 0 (lm_A B)
def lm_CV (l : Launch) (y : MethodName) (ws : List Cond) (rm : Room) (D : va_G) (cI cZ cL cR : ClassId) (B : Nat) (As : List Value) (σ τ : Mem) (σ' τ' : Mem) : Prop := Met l y ws rm (va_Pc As (lm_W D cI cZ cL cR B σ τ)) (lm_QV D cI cZ cL cR B σ' τ') 0 0 (lm_A B)
def lm_Cx (D : va_G) (cI cZ cL cR : ClassId) (B : Nat) (p : Program) (s : State) (m : MethodId) (args : Array Value) (meth : Method) (c : Code) (cc : ByteArray) (nL : Nat) (ret : Option FieldType) (own : String) : Prop :=
  p.tables.exec = Jvm.exec ∧ c.code = cc ∧ c.maxLocals = nL ∧ meth.sig.returnType = ret ∧ meth.locks = false ∧ s.vm.findClass own = some m.cls ∧ (∀ w ∈ lw_u, w.before args s = true) ∧ va_K D vwCl (tyl cI cZ cL cR) s ∧ lm_X B s
section LMR
variable {l : Launch} {D : va_G} {cI cZ cL cR : ClassId} {B : Nat} {σ τ σ' τ' : Mem}
theorem lm_of {y : MethodName} {rm : Room} {cc : ByteArray} {maxL : Nat} {ret : Option FieldType} {own : String} {As : List Value} {Qc : Array Value → State → Outcome → State → Prop} (hy : plainName y.cls = true) (hcls : y.cls = own) (hA : (lg_sl As).length ≤ maxL)
    (body : ∀ (p : Program) (e : Env) (s : State) (m : MethodId) (below : List Frame) (meth : Method) (c : Code), lm_Cx D cI cZ cL cR B p s m As.toArray meth c cc maxL ret own → va_P D vwCl (wl cI cZ cL cR B σ τ) s.heap → ∀ ls : Array Slot, lv_has ls maxL (lv_args 0 As) → W p l e rm s m As.toArray below meth c s.heap [] 0 0 (MQ below Qc As.toArray s 0 0 (lm_A B)) (F0 m 0 ls [])) : Met l y (Cond.code y cc maxL ret :: lw_u) rm (va_Pc As (lm_W D cI cZ cL cR B σ τ)) Qc 0 0 (lm_A B) := by
  refine Met.ofW (cc := cc) (maxL := maxL) (ret := ret) hy rfl ?_
  intro p e s m args below meth c s₁ Bd hml hv
  obtain ⟨rfl, hP, hK, hX⟩ := hv
  have hl := lv_entry As (n := maxL) hA
  rw [lg_entry_eq]
  exact body p e s m below meth c ⟨Bd.exec, Bd.bytes, hml, Bd.returns, Bd.notSynchronized, by rw [← hcls]; exact findClass_of_methodNamed Bd.named, fun w hw => atoms_spec (ws := Cond.code y cc maxL ret :: lw_u) Bd.pre w (List.mem_cons_of_mem _ hw), hK, hX⟩ hP _ hl
variable {p : Program} {e : Env} {R : Room} {s : State} {m : MethodId} {args : Array Value} {below : List Frame} {meth : Method} {c : Code} {H : Heap} {locs : List Loc} {Q : State → Prop} {cc : ByteArray} {nL : Nat} {ret : Option FieldType} {own : String} {pc : Nat} {ls : Array Slot} {rest : List Value}
theorem lm_ri {r : Int32} (C0 : lm_Cx D cI cZ cL cR B p s m args meth c cc nL (some .int) own) (hR : va_P D vwCl (wl cI cZ cL cR B σ τ) H) (hS : va_S (lm_A B) s.heap H locs) (hd : decode cc pc = .ok (.ireturn, 1)) : W p l e R s m args below meth c H locs 0 0 (MQ below (lm_QI D cI cZ cL cR B r σ τ) args s 0 0 (lm_A B)) (F0 m pc ls [.int r]) :=
  W.iret C0.1 C0.2.1 C0.2.2.2.1 (fun t ht _ => ⟨⟨r, (), rfl, rfl, by show va_P D vwCl (wl cI cZ cL cR B σ τ) t.heap; rw [ht]; exact hR⟩, hS.F ht⟩) hS.2.2 hd C0.2.2.2.2.1
theorem lm_rz {r : Int32} (C0 : lm_Cx D cI cZ cL cR B p s m args meth c cc nL (some .boolean) own) (hR : va_P D vwCl (wl cI cZ cL cR B σ τ) H) (hS : va_S (lm_A B) s.heap H locs) (hn : narrow .boolean (.int r) = .int r) (hd : decode cc pc = .ok (.ireturn, 1)) : W p l e R s m args below meth c H locs 0 0 (MQ below (lm_QI D cI cZ cL cR B r σ τ) args s 0 0 (lm_A B)) (F0 m pc ls [.int r]) :=
  W.zret C0.1 C0.2.1 C0.2.2.2.1 hn (fun t ht _ => ⟨⟨r, (), rfl, rfl, by show va_P D vwCl (wl cI cZ cL cR B σ τ) t.heap; rw [ht]; exact hR⟩, hS.F ht⟩) hS.2.2 hd C0.2.2.2.2.1
theorem lm_rl {r : Int64} (C0 : lm_Cx D cI cZ cL cR B p s m args meth c cc nL (some .long) own) (hR : va_P D vwCl (wl cI cZ cL cR B σ τ) H) (hS : va_S (lm_A B) s.heap H locs) (hd : decode cc pc = .ok (.lreturn, 1)) : W p l e R s m args below meth c H locs 0 0 (MQ below (lm_QJ D cI cZ cL cR B r σ τ) args s 0 0 (lm_A B)) (F0 m pc ls [.long r]) :=
  W.lret C0.1 C0.2.1 C0.2.2.2.1 (fun t ht _ => ⟨⟨r, (), rfl, rfl, by show va_P D vwCl (wl cI cZ cL cR B σ τ) t.heap; rw [ht]; exact hR⟩, hS.F ht⟩) hS.2.2 hd C0.2.2.2.2.1
theorem lm_rv (C0 : lm_Cx D cI cZ cL cR B p s m args meth c cc nL none own) (hR : va_P D vwCl (wl cI cZ cL cR B σ τ) H) (hS : va_S (lm_A B) s.heap H locs) (hd : decode cc pc = .ok (.return_, 1)) : W p l e R s m args below meth c H locs 0 0 (MQ below (lm_QV D cI cZ cL cR B σ τ) args s 0 0 (lm_A B)) (F0 m pc ls []) :=
  W.vret C0.1 C0.2.1 C0.2.2.2.1 (fun t ht _ => ⟨⟨(), rfl, trivial, by show va_P D vwCl (wl cI cZ cL cR B σ τ) t.heap; rw [ht]; exact hR⟩, hS.F ht⟩) hS.2.2 hd C0.2.2.2.2.1
theorem lm_get (C0 : lm_Cx D cI cZ cL cR B p s m args meth c cc nL ret own) (hR : va_P D vwCl (wl cI cZ cL cR B σ τ) H) {x ci N index : Nat} {fs : List Value} {C ref : String} {T : u_T} {v : Value} (hc : x < 153) (he : cellA cI cZ cL cR B σ τ x = .inr (ci, fs)) (hcl : vwCl[ci]? = some (C, T, N)) (hin : ∀ w ∈ u_ws C T N, w ∈ lw_u) (k : Nat) (hk : k < N) (hlink : Cond.fieldLink own index ref (T k).2.1 (T k).2.2.1 ∈ lw_u) (href : (T k).1 = ref) (hv : fs[k]? = some v) (hd : decode cc pc = .ok (.getfield index, 3))
    (kk : W p l e R s m args below meth c H locs 0 0 Q (F0 m (pc + 3) ls (v :: rest))) : W p l e R s m args below meth c H locs 0 0 Q (F0 m pc ls (.ref (B + x) :: rest)) := by
  obtain ⟨hx, hb, hml, hr, hlk, hown, hts, hK, hX⟩ := C0
  exact va_get hx hb hts hin hown hK hR x (wl_at hc he) hcl k hk (hts _ hlink) (fun _ h => by rw [← href]; exact h) hv hd kk
theorem lm_put (C0 : lm_Cx D cI cZ cL cR B p s m args meth c cc nL ret own) (hR : va_P D vwCl (wl cI cZ cL cR B σ τ) H) (hS : va_S (lm_A B) s.heap H locs) {x ci N index : Nat} {fs : List Value} {C ref : String} {T : u_T} {ty : FieldType} {v : Int32} (hc : x < 153) (he : cellA cI cZ cL cR B σ τ x = .inr (ci, fs)) (hcl : vwCl[ci]? = some (C, T, N)) (hin : ∀ w ∈ u_ws C T N, w ∈ lw_u) (ty0 : Nat → FieldType) (hty : ∀ k, k < N → parseFieldDescriptor (T k).2.2.1 = some (ty0 k)) (hnm : ∀ a, a < N → ∀ b, b < N → a ≠ b → (T a).2.1 ≠ (T b).2.1) (k : Nat) (hk : k < N) (hlink : Cond.fieldLink own index ref (T k).2.1 (T k).2.2.1 ∈ lw_u) (href : (T k).1 = ref) (hfin : (T k).2.2.2 = false) (ht : ty0 k = ty) (hn : narrow ty (.int v) = .int v) (hfit : fits ty (.int v) = true) (hl : k < fs.length)
    (hE : cellA cI cZ cL cR B σ' τ' x = .inr (ci, fs.set k (.int v))) (hO : ∀ z, z ≠ x → cellA cI cZ cL cR B σ' τ' z = cellA cI cZ cL cR B σ τ z) (hd : decode cc pc = .ok (.putfield index, 3))
    (kk : ∀ (H1 : Heap) (locs1 : List Loc), va_P D vwCl (wl cI cZ cL cR B σ' τ') H1 → va_S (lm_A B) s.heap H1 locs1 → W p l e R s m args below meth c H1 locs1 0 0 Q (F0 m (pc + 3) ls rest)) : W p l e R s m args below meth c H locs 0 0 Q (F0 m pc ls (.int v :: .ref (B + x) :: rest)) := by
  obtain ⟨hx, hb, hml, hr, hlk, hown, hts, hK, hX⟩ := C0
  refine va_put hx hb hts hin ty0 hty hnm hown hK hR wl_D hS x (wl_at hc he) hcl k hk (hts _ hlink) (fun _ h => by rw [← href]; exact h) hfin (by rw [hty k hk, ht]) hn hfit hl hd (fun H1 locs1 hP1 _ hS1 => ?_)
  rw [wl_set hE hO] at hP1
  exact kk H1 locs1 hP1 hS1
theorem lm_ild (C0 : lm_Cx D cI cZ cL cR B p s m args meth c cc nL ret own) (hR : va_P D vwCl (wl cI cZ cL cR B σ τ) H) {x n : Nat} {f : Nat → Int32} {i : Int32} (hc : x < 153) (he : cellA cI cZ cL cR B σ τ x = e_int cI n f) (hi : lm_in i n = true) (hd : decode cc pc = .ok (.iaload, 1))
    (kk : W p l e R s m args below meth c H locs 0 0 Q (F0 m (pc + 1) ls (.int (f i.toNatClampNeg) :: rest))) : W p l e R s m args below meth c H locs 0 0 Q (F0 m pc ls (.int i :: .ref (B + x) :: rest)) := by
  obtain ⟨hx, hb, hml, hr, hlk, hown, hts, hK, hX⟩ := C0
  exact va_iald hx hb hK hR x 0 (wl_at hc he) rfl (lm_inT hi) hd kk
theorem lm_ist (C0 : lm_Cx D cI cZ cL cR B p s m args meth c cc nL ret own) (hR : va_P D vwCl (wl cI cZ cL cR B σ τ) H) (hS : va_S (lm_A B) s.heap H locs) {x n : Nat} {f : Nat → Int32} {i v : Int32} (hc : x < 153) (he : cellA cI cZ cL cR B σ τ x = e_int cI n f) (hi : lm_in i n = true)
    (hE : cellA cI cZ cL cR B σ' τ' x = e_int cI n (upd f i.toNatClampNeg v)) (hO : ∀ z, z ≠ x → cellA cI cZ cL cR B σ' τ' z = cellA cI cZ cL cR B σ τ z) (hd : decode cc pc = .ok (.iastore, 1))
    (kk : ∀ (H1 : Heap) (locs1 : List Loc), va_P D vwCl (wl cI cZ cL cR B σ' τ') H1 → va_S (lm_A B) s.heap H1 locs1 → W p l e R s m args below meth c H1 locs1 0 0 Q (F0 m (pc + 1) ls rest)) : W p l e R s m args below meth c H locs 0 0 Q (F0 m pc ls (.int v :: .int i :: .ref (B + x) :: rest)) := by
  obtain ⟨hx, hb, hml, hr, hlk, hown, hts, hK, hX⟩ := C0
  refine va_iast hx hb hK hR wl_D hS x 0 (wl_at hc he) rfl (lm_inT hi) hd (fun H1 locs1 hP1 _ hS1 => ?_)
  rw [wl_set hE hO] at hP1
  exact kk H1 locs1 hP1 hS1
theorem lm_zld (C0 : lm_Cx D cI cZ cL cR B p s m args meth c cc nL ret own) (hR : va_P D vwCl (wl cI cZ cL cR B σ τ) H) {x n : Nat} {f : Nat → Int32} {i : Int32} (hc : x < 153) (he : cellA cI cZ cL cR B σ τ x = e_int cZ n f) (hi : lm_in i n = true) (hd : decode cc pc = .ok (.baload, 1))
    (kk : W p l e R s m args below meth c H locs 0 0 Q (F0 m (pc + 1) ls (.int (f i.toNatClampNeg) :: rest))) : W p l e R s m args below meth c H locs 0 0 Q (F0 m pc ls (.int i :: .ref (B + x) :: rest)) := by
  obtain ⟨hx, hb, hml, hr, hlk, hown, hts, hK, hX⟩ := C0
  exact va_zald hx hb hK hR x 1 (wl_at hc he) rfl (lm_inT hi) hd kk
theorem lm_zst (C0 : lm_Cx D cI cZ cL cR B p s m args meth c cc nL ret own) (hR : va_P D vwCl (wl cI cZ cL cR B σ τ) H) (hS : va_S (lm_A B) s.heap H locs) {x n : Nat} {f : Nat → Int32} {i v : Int32} (hc : x < 153) (he : cellA cI cZ cL cR B σ τ x = e_int cZ n f) (hi : lm_in i n = true) (hv : vp_nar .boolean v = v)
    (hE : cellA cI cZ cL cR B σ' τ' x = e_int cZ n (upd f i.toNatClampNeg v)) (hO : ∀ z, z ≠ x → cellA cI cZ cL cR B σ' τ' z = cellA cI cZ cL cR B σ τ z) (hd : decode cc pc = .ok (.bastore, 1))
    (kk : ∀ (H1 : Heap) (locs1 : List Loc), va_P D vwCl (wl cI cZ cL cR B σ' τ') H1 → va_S (lm_A B) s.heap H1 locs1 → W p l e R s m args below meth c H1 locs1 0 0 Q (F0 m (pc + 1) ls rest)) : W p l e R s m args below meth c H locs 0 0 Q (F0 m pc ls (.int v :: .int i :: .ref (B + x) :: rest)) := by
  obtain ⟨hx, hb, hml, hr, hlk, hown, hts, hK, hX⟩ := C0
  refine va_zast hx hb hK hR wl_D hS x 1 (wl_at hc he) rfl (lm_inT hi) hd (fun H1 locs1 hP1 _ hS1 => ?_)
  rw [hv, wl_set hE hO] at hP1
  exact kk H1 locs1 hP1 hS1
theorem lm_ald (C0 : lm_Cx D cI cZ cL cR B p s m args meth c cc nL ret own) (hR : va_P D vwCl (wl cI cZ cL cR B σ τ) H) {x n t0 : Nat} {cA : ClassId} {C : String} {f : Nat → Option Nat} {i : Int32} (hc : x < 153) (he : cellA cI cZ cL cR B σ τ x = e_ref cA n f) (ht : (tyl cI cZ cL cR)[t0]? = some (cA, .object C)) (hi : lm_in i n = true) {v : Nat} (hv : f i.toNatClampNeg = some v) (hd : decode cc pc = .ok (.aaload, 1))
    (kk : W p l e R s m args below meth c H locs 0 0 Q (F0 m (pc + 1) ls (.ref v :: rest))) : W p l e R s m args below meth c H locs 0 0 Q (F0 m pc ls (.int i :: .ref (B + x) :: rest)) := by
  obtain ⟨hx, hb, hml, hr, hlk, hown, hts, hK, hX⟩ := C0
  refine va_aldq hx hb hK hR x t0 (wl_at hc he) ht (lm_inT hi) hd ?_
  rw [hv]
  exact kk
theorem lm_endi {a : Array Value} {st0 : List Value} {r : Int32} (hr : va_Run p l e R s m args below meth c H locs 0 0 0 0 (F0 m pc ls st0) rest (lm_QI D cI cZ cL cR B r σ' τ' a) (lm_A B)) (hS : va_S (lm_A B) s.heap H locs)
    (kk : ∀ (H1 : Heap) (locs1 : List Loc), va_P D vwCl (wl cI cZ cL cR B σ' τ') H1 → va_S (lm_A B) s.heap H1 locs1 → W p l e R s m args below meth c H1 locs1 0 0 Q (F0 m (pc + 3) ls (.int r :: rest))) : W p l e R s m args below meth c H locs 0 0 Q (F0 m pc ls st0) := by
  refine va_calli hr hS (fun _ _ h => h) (fun _ h => h) (fun r2 u t H1 locs1 ht hvm hp hb hz hk hS1 => ?_)
  subst hp
  rw [ht] at hb
  exact kk H1 locs1 hb hS1
theorem lm_endj {a : Array Value} {st0 : List Value} {r : Int64} (hr : va_Run p l e R s m args below meth c H locs 0 0 0 0 (F0 m pc ls st0) rest (lm_QJ D cI cZ cL cR B r σ' τ' a) (lm_A B)) (hS : va_S (lm_A B) s.heap H locs)
    (kk : ∀ (H1 : Heap) (locs1 : List Loc), va_P D vwCl (wl cI cZ cL cR B σ' τ') H1 → va_S (lm_A B) s.heap H1 locs1 → W p l e R s m args below meth c H1 locs1 0 0 Q (F0 m (pc + 3) ls (.long r :: rest))) : W p l e R s m args below meth c H locs 0 0 Q (F0 m pc ls st0) := by
  refine va_calll hr hS (fun _ _ h => h) (fun _ h => h) (fun r2 u t H1 locs1 ht hvm hp hb hz hk hS1 => ?_)
  subst hp
  rw [ht] at hb
  exact kk H1 locs1 hb hS1
theorem lm_endv {a : Array Value} {st0 : List Value} (hr : va_Run p l e R s m args below meth c H locs 0 0 0 0 (F0 m pc ls st0) rest (lm_QV D cI cZ cL cR B σ' τ' a) (lm_A B)) (hS : va_S (lm_A B) s.heap H locs)
    (kk : ∀ (H1 : Heap) (locs1 : List Loc), va_P D vwCl (wl cI cZ cL cR B σ' τ') H1 → va_S (lm_A B) s.heap H1 locs1 → W p l e R s m args below meth c H1 locs1 0 0 Q (F0 m (pc + 3) ls rest)) : W p l e R s m args below meth c H locs 0 0 Q (F0 m pc ls st0) := by
  refine va_callv hr hS (fun _ _ h => h) (fun _ h => h) (fun u t H1 locs1 ht hvm hp hb hz hk hS1 => ?_)
  rw [ht] at hb
  exact kk H1 locs1 hb hS1
theorem lm_pre (C0 : lm_Cx D cI cZ cL cR B p s m args meth c cc nL ret own) (hR : va_P D vwCl (wl cI cZ cL cR B σ τ) H) (hS : va_S (lm_A B) s.heap H locs) (As : List Value) : ∀ U : State, U.heap = H → s.WarmedH U.vm → va_Pc As (lm_W D cI cZ cL cR B σ τ) As.toArray U := by
  obtain ⟨hx, hb, hml, hr, hlk, hown, hts, hK, hX⟩ := C0
  intro U hU hW
  refine ⟨rfl, by rw [hU]; exact hR, va_K.moved hW.alike hK, hX.move hW (fun a h1 h2 => ?_)⟩
  rw [hU]
  exact hS.2.1 a h1 h2
variable {y : MethodName} {ws : List Cond} {rm : Room} {Qc : Array Value → State → Outcome → State → Prop} {bytes : ByteArray} {maxL n index : Nat} {ret2 : Option FieldType} {As st0 : List Value} {lv : List (Nat × Value)}
theorem lm_runV {x ci N : Nat} {fs : List Value} {C : String} {T : u_T} (C0 : lm_Cx D cI cZ cL cR B p s m args meth c cc nL ret own) (hR : va_P D vwCl (wl cI cZ cL cR B σ τ) H) (hS : va_S (lm_A B) s.heap H locs) (hM : Met l y ws rm (va_Pc (.ref (B + x) :: As) (lm_W D cI cZ cL cR B σ τ)) Qc 0 0 (lm_A B)) (cw : CallW R s args own C index y bytes maxL ret2 ws rm 0 0 n) (hc : x < 153) (he : cellA cI cZ cL cR B σ τ x = .inr (ci, fs)) (hcl : vwCl[ci]? = some (C, T, N)) (hn : As.length = n) (hl : lv_has ls nL lv) (hst : st0 = As.reverse ++ .ref (B + x) :: rest) (hW : (rest.map fun v => v.category).sum ≤ 8) (hd : decode cc pc = .ok (.invokevirtual index, 3)) :
    va_Run p l e R s m args below meth c H locs 0 0 0 0 (F0 m pc ls st0) rest (Qc (Value.ref (B + x) :: As).toArray) (lm_A B) :=
  va_runV ⟨C0.1, C0.2.1, C0.2.2.1, C0.2.2.2.2.2.1, C0.2.2.2.2.2.2.1⟩ hM cw ⟨lm_blind, va_recv C0.2.2.2.2.2.2.2.1 hR hcl (wl_at hc he), lm_pre C0 hR hS _⟩ rfl hn hl.1 hst (lv_room hW) hd ⟨Nat.zero_le _, Nat.zero_le _⟩
theorem lm_runS (C0 : lm_Cx D cI cZ cL cR B p s m args meth c cc nL ret own) (hR : va_P D vwCl (wl cI cZ cL cR B σ τ) H) (hS : va_S (lm_A B) s.heap H locs) (hM : Met l y ws rm (va_Pc As (lm_W D cI cZ cL cR B σ τ)) Qc 0 0 (lm_A B)) (cw : CallB R s args own index y bytes maxL ret2 ws rm 0 0 n ∧ (Cond.static y).before args s = true) (hn : As.length = n) (hl : lv_has ls nL lv) (hst : st0 = As.reverse ++ rest) (hW : (rest.map fun v => v.category).sum ≤ 8) (hd : decode cc pc = .ok (.invokestatic index, 3)) :
    va_Run p l e R s m args below meth c H locs 0 0 0 0 (F0 m pc ls st0) rest (Qc As.toArray) (lm_A B) :=
  va_runS ⟨C0.1, C0.2.1, C0.2.2.1, C0.2.2.2.2.2.1, C0.2.2.2.2.2.2.1⟩ hM cw ⟨lm_blind, lm_pre C0 hR hS _⟩ rfl hn hl.1 hst (lv_room hW) hd ⟨Nat.zero_le _, Nat.zero_le _⟩
theorem lm_runSN {host : String} (C0 : lm_Cx D cI cZ cL cR B p s m args meth c cc nL ret own) (hR : va_P D vwCl (wl cI cZ cL cR B σ τ) H) (hS : va_S (lm_A B) s.heap H locs) (hM : Met l y ws rm (va_Pc As (lm_W D cI cZ cL cR B σ τ)) Qc 0 0 (lm_A B)) (cw : va_CN R s args own index y host bytes maxL ret2 ws rm 0 0 n ∧ (Cond.static y).before args s = true ∧ True) (hn : As.length = n) (hl : lv_has ls nL lv) (hst : st0 = As.reverse ++ rest) (hW : (rest.map fun v => v.category).sum ≤ 8) (hd : decode cc pc = .ok (.invokestatic index, 3)) :
    va_Run p l e R s m args below meth c H locs 0 0 0 0 (F0 m pc ls st0) rest (Qc As.toArray) (lm_A B) :=
  va_runSN ⟨C0.1, C0.2.1, C0.2.2.1, C0.2.2.2.2.2.1, C0.2.2.2.2.2.2.1⟩ hM cw ⟨lm_blind, lm_pre C0 hR hS _⟩ rfl hn hl.1 hst (lv_room hW) hd ⟨Nat.zero_le _, Nat.zero_le _⟩
end LMR

section LMC
variable {R : Room} {s : State} {args : Array Value} {own host : String} {index maxL : Nat} {y : MethodName} {bytes : ByteArray} {ret : Option FieldType} {rm : Room}
theorem lw_cV (n : Nat) (ht : ∀ w ∈ lw_u, w.before args s = true) (h1 : Cond.methodLink own index y ∈ lw_u) (hq : Cond.instanceMethod y ∈ lw_u ∧ Cond.selects y.cls y y ∈ lw_u ∧ Cond.initialized y.cls ∈ lw_u ∧ Cond.code y bytes maxL ret ∈ lw_u) (hrc : rm.cells = 0) (hrs : rm.slots = 0) (hd : y.cls ≠ "java/lang/invoke/MethodHandle" ∧ y.cls ≠ "java/lang/invoke/VarHandle" ∧ (parseMethodDescriptor y.desc).map (fun d => d.parameters.length) = some n) (hR : rm.frames + 1 ≤ R.frames ∧ 8 + (maxL + 11) + rm.locals ≤ R.locals) :
    CallW R s args own y.cls index y bytes maxL ret (Cond.code y bytes maxL ret :: lw_u) rm 0 0 n :=
  ⟨callB_of n ht (lw_G hq.2.2.2) rfl hrc hrs (ht _ hq.2.2.1) (ht _ h1) hd hR, ht _ hq.1, ht _ hq.2.1⟩
theorem lw_cS (n : Nat) (ht : ∀ w ∈ lw_u, w.before args s = true) (h1 : Cond.methodLink own index y ∈ lw_u) (hq : Cond.static y ∈ lw_u ∧ Cond.initialized y.cls ∈ lw_u ∧ Cond.code y bytes maxL ret ∈ lw_u) (hrc : rm.cells = 0) (hrs : rm.slots = 0) (hd : y.cls ≠ "java/lang/invoke/MethodHandle" ∧ y.cls ≠ "java/lang/invoke/VarHandle" ∧ (parseMethodDescriptor y.desc).map (fun d => d.parameters.length) = some n) (hR : rm.frames + 1 ≤ R.frames ∧ 8 + (maxL + 11) + rm.locals ≤ R.locals) :
    CallB R s args own index y bytes maxL ret (Cond.code y bytes maxL ret :: lw_u) rm 0 0 n ∧ (Cond.static y).before args s = true :=
  ⟨callB_of n ht (lw_G hq.2.2) rfl hrc hrs (ht _ hq.2.1) (ht _ h1) hd hR, ht _ hq.1⟩
theorem lw_cN (n : Nat) (ht : ∀ w ∈ lw_u, w.before args s = true) (hl : va_Nw (.methodLinkNest own index y host) s) (hq : Cond.static y ∈ lw_u ∧ Cond.initialized y.cls ∈ lw_u ∧ Cond.code y bytes maxL ret ∈ lw_u) (hrc : rm.cells = 0) (hrs : rm.slots = 0) (hd : y.cls ≠ "java/lang/invoke/MethodHandle" ∧ y.cls ≠ "java/lang/invoke/VarHandle" ∧ (parseMethodDescriptor y.desc).map (fun d => d.parameters.length) = some n) (hR : rm.frames + 1 ≤ R.frames ∧ 8 + (maxL + 11) + rm.locals ≤ R.locals) :
    va_CN R s args own index y host bytes maxL ret (Cond.code y bytes maxL ret :: lw_u) rm 0 0 n ∧ (Cond.static y).before args s = true ∧ True :=
  ⟨va_cnB n ht (lw_G hq.2.2) rfl hrc hrs hl (ht _ hq.2.1) hd hR, ht _ hq.1, trivial⟩
end LMC
end
section
def lm_fu : Nat := 1000
def lm_cp (sp dp n : Int32) (n0 n1 : Nat) : Bool := decide (¬ sp < 0 ∧ ¬ dp < 0 ∧ ¬ n < 0 ∧ sp.toNatClampNeg + n.toNatClampNeg ≤ n0 ∧ dp.toNatClampNeg + n.toNatClampNeg ≤ n1)
section LMR2
variable {cI cZ cL cR : ClassId} {B : Nat} {σ τ σ' τ' : Mem} {k : Nat} {v : Int32}
theorem cell_Lu {c : Nat} (h : isL c) : cellA cI cZ cL cR B (up σ c k v) τ c = e_light B (upd (σ c) k v) c := by
  rw [cell_L h]; unfold up; rw [upA_eq]
theorem cell_L1u {c : Nat} (h : isL c) : cellA cI cZ cL cR B (up σ (c + 1) k v) τ (c + 1) = e_int cI 6 (upd (σ (c + 1)) k v) := by
  rw [cell_L1 h]; unfold up; rw [upA_eq]
theorem cell_L2u {c : Nat} (h : isL c) : cellA cI cZ cL cR B (up σ (c + 2) k v) τ (c + 2) = e_int cI 6 (upd (σ (c + 2)) k v) := by
  rw [cell_L2 h]; unfold up; rw [upA_eq]
theorem cell_L3u {c : Nat} (h : isL c) : cellA cI cZ cL cR B (up σ (c + 3) k v) τ (c + 3) = e_int cI 6 (upd (σ (c + 3)) k v) := by
  rw [cell_L3 h]; unfold up; rw [upA_eq]
theorem cell_Ru {c : Nat} (h : isR c) : cellA cI cZ cL cR B (up σ c k v) τ c = e_row B (upd (σ c) k v) c := by
  rw [cell_R h]; unfold up; rw [upA_eq]
theorem cell_R1u {c : Nat} (h : isR c) : cellA cI cZ cL cR B (up σ (c + 1) k v) τ (c + 1) = e_int cI 40 (upd (σ (c + 1)) k v) := by
  rw [cell_R1 h]; unfold up; rw [upA_eq]
theorem cell_R1v {c : Nat} {f : Nat → Int32} (h : isR c) : cellA cI cZ cL cR B (upA σ (c + 1) f) τ (c + 1) = e_int cI 40 f := by
  rw [cell_R1 h, upA_eq]
theorem cell_Mu {c : Nat} (h : isM c) : cellA cI cZ cL cR B σ (up τ c k v) c = e_int cI 24 (upd (τ c) k v) := by
  rw [cell_M h]; unfold up; rw [upA_eq]
theorem cell_0 : cellA cI cZ cL cR B σ τ 0 = e_main B (σ 0) := rfl
theorem cell_1 : cellA cI cZ cL cR B σ τ 1 = e_ref cR 8 (fun i => some (B + (116 + 2 * i))) := rfl
theorem cell_2 : cellA cI cZ cL cR B σ τ 2 = e_tape B (σ 2) := rfl
theorem cell_3 : cellA cI cZ cL cR B σ τ 3 = e_int cI 120 (σ 3) := rfl
theorem cell_16 : cellA cI cZ cL cR B σ τ 16 = e_acts B (σ 16) := rfl
theorem cell_17 : cellA cI cZ cL cR B σ τ 17 = e_ref cL 24 (fun i => some (B + (18 + 4 * i))) := rfl
theorem cell_114 : cellA cI cZ cL cR B σ τ 114 = e_ref cL 2 (fun i => some (B + (132 + 4 * i))) := rfl
theorem cell_115 : cellA cI cZ cL cR B σ τ 115 = e_int cI 16 (σ 115) := rfl
theorem cell_140 : cellA cI cZ cL cR B σ τ 140 = e_model B (τ 140) := rfl
theorem cell_141 : cellA cI cZ cL cR B σ τ 141 = e_int cI 8 (τ 141) := rfl
theorem cell_142 : cellA cI cZ cL cR B σ τ 142 = e_int cI 8 (τ 142) := rfl
theorem cell_143 : cellA cI cZ cL cR B σ τ 143 = e_int cI 320 (τ 143) := rfl
theorem cell_144 : cellA cI cZ cL cR B σ τ 144 = e_int cI 24 (τ 144) := rfl
theorem cell_145 : cellA cI cZ cL cR B σ τ 145 = e_int cI 24 (τ 145) := rfl
theorem cell_146 : cellA cI cZ cL cR B σ τ 146 = e_int cI 24 (τ 146) := rfl
theorem cell_147 : cellA cI cZ cL cR B σ τ 147 = e_int cI 576 (τ 147) := rfl
theorem cell_148 : cellA cI cZ cL cR B σ τ 148 = e_int cI 120 (τ 148) := rfl
theorem cell_149 : cellA cI cZ cL cR B σ τ 149 = e_int cI 16 (τ 149) := rfl
theorem cell_150 : cellA cI cZ cL cR B σ τ 150 = e_int cZ 2 (τ 150) := rfl
theorem cell_151 : cellA cI cZ cL cR B σ τ 151 = e_int cI 48 (τ 151) := rfl
theorem cell_152 : cellA cI cZ cL cR B σ τ 152 = e_int cI 16 (τ 152) := rfl
theorem cell_0u : cellA cI cZ cL cR B (up σ 0 k v) τ 0 = e_main B (upd (σ 0) k v) := by rw [cell_0]; unfold up; rw [upA_eq]
theorem cell_2u : cellA cI cZ cL cR B (up σ 2 k v) τ 2 = e_tape B (upd (σ 2) k v) := by rw [cell_2]; unfold up; rw [upA_eq]
theorem cell_3u : cellA cI cZ cL cR B (up σ 3 k v) τ 3 = e_int cI 120 (upd (σ 3) k v) := by rw [cell_3]; unfold up; rw [upA_eq]
theorem cell_16u : cellA cI cZ cL cR B (up σ 16 k v) τ 16 = e_acts B (upd (σ 16) k v) := by rw [cell_16]; unfold up; rw [upA_eq]
theorem cell_115u : cellA cI cZ cL cR B (up σ 115 k v) τ 115 = e_int cI 16 (upd (σ 115) k v) := by rw [cell_115]; unfold up; rw [upA_eq]
theorem cell_140u : cellA cI cZ cL cR B σ (up τ 140 k v) 140 = e_model B (upd (τ 140) k v) := by rw [cell_140]; unfold up; rw [upA_eq]
theorem cell_141u : cellA cI cZ cL cR B σ (up τ 141 k v) 141 = e_int cI 8 (upd (τ 141) k v) := by rw [cell_141]; unfold up; rw [upA_eq]
theorem cell_142u : cellA cI cZ cL cR B σ (up τ 142 k v) 142 = e_int cI 8 (upd (τ 142) k v) := by rw [cell_142]; unfold up; rw [upA_eq]
theorem cell_143u : cellA cI cZ cL cR B σ (up τ 143 k v) 143 = e_int cI 320 (upd (τ 143) k v) := by rw [cell_143]; unfold up; rw [upA_eq]
theorem cell_144u : cellA cI cZ cL cR B σ (up τ 144 k v) 144 = e_int cI 24 (upd (τ 144) k v) := by rw [cell_144]; unfold up; rw [upA_eq]
theorem cell_145u : cellA cI cZ cL cR B σ (up τ 145 k v) 145 = e_int cI 24 (upd (τ 145) k v) := by rw [cell_145]; unfold up; rw [upA_eq]
theorem cell_146u : cellA cI cZ cL cR B σ (up τ 146 k v) 146 = e_int cI 24 (upd (τ 146) k v) := by rw [cell_146]; unfold up; rw [upA_eq]
theorem cell_147u : cellA cI cZ cL cR B σ (up τ 147 k v) 147 = e_int cI 576 (upd (τ 147) k v) := by rw [cell_147]; unfold up; rw [upA_eq]
theorem cell_148u : cellA cI cZ cL cR B σ (up τ 148 k v) 148 = e_int cI 120 (upd (τ 148) k v) := by rw [cell_148]; unfold up; rw [upA_eq]
theorem cell_149u : cellA cI cZ cL cR B σ (up τ 149 k v) 149 = e_int cI 16 (upd (τ 149) k v) := by rw [cell_149]; unfold up; rw [upA_eq]
theorem cell_150u : cellA cI cZ cL cR B σ (up τ 150 k v) 150 = e_int cZ 2 (upd (τ 150) k v) := by rw [cell_150]; unfold up; rw [upA_eq]
theorem cell_151u : cellA cI cZ cL cR B σ (up τ 151 k v) 151 = e_int cI 48 (upd (τ 151) k v) := by rw [cell_151]; unfold up; rw [upA_eq]
theorem cell_152u : cellA cI cZ cL cR B σ (up τ 152 k v) 152 = e_int cI 16 (upd (τ 152) k v) := by rw [cell_152]; unfold up; rw [upA_eq]
end LMR2
section LMR3
variable {l : Launch} {D : va_G} {cI cZ cL cR : ClassId} {B : Nat} {σ τ σ' τ' : Mem}
variable {p : Program} {e : Env} {R : Room} {s : State} {m : MethodId} {args : Array Value} {below : List Frame} {meth : Method} {c : Code} {H : Heap} {locs : List Loc} {Q : State → Prop} {cc : ByteArray} {nL : Nat} {ret : Option FieldType} {own : String} {pc : Nat} {ls : Array Slot} {rest : List Value}
theorem lm_topi {x y : Int32} (h : y = x) (k : W p l e R s m args below meth c H locs 0 0 Q (F0 m pc ls (.int y :: rest))) : W p l e R s m args below meth c H locs 0 0 Q (F0 m pc ls (.int x :: rest)) := by
  subst h
  exact k
theorem lm_topl {x y : Int64} (h : y = x) (k : W p l e R s m args below meth c H locs 0 0 Q (F0 m pc ls (.long y :: rest))) : W p l e R s m args below meth c H locs 0 0 Q (F0 m pc ls (.long x :: rest)) := by
  subst h
  exact k
theorem lm_putC (C0 : lm_Cx D cI cZ cL cR B p s m args meth c cc nL ret own) (hR : va_P D vwCl (wl cI cZ cL cR B σ τ) H) (hS : va_S (lm_A B) s.heap H locs) {x ci N index : Nat} {fs : List Value} {C ref : String} {T : u_T} {ty : FieldType} {v : Int32} (hc : x < 153) (he : cellA cI cZ cL cR B σ τ x = .inr (ci, fs)) (hcl : vwCl[ci]? = some (C, T, N)) (hin : ∀ w ∈ u_ws C T N, w ∈ lw_u) (ty0 : Nat → FieldType) (hty : ∀ k, k < N → parseFieldDescriptor (T k).2.2.1 = some (ty0 k)) (hnm : ∀ a, a < N → ∀ b, b < N → a ≠ b → (T a).2.1 ≠ (T b).2.1) (k : Nat) (hk : k < N) (hlink : Cond.fieldLink own index ref (T k).2.1 (T k).2.2.1 ∈ lw_u) (href : (T k).1 = ref) (hfin : (T k).2.2.2 = false) (ht : ty0 k = ty) (hn : narrow ty (.int v) = .int v) (hfit : fits ty (.int v) = true) (hl : k < fs.length)
    (h1 : σ' = up σ x k v) (hE : cellA cI cZ cL cR B (up σ x k v) τ x = .inr (ci, fs.set k (.int v))) (hd : decode cc pc = .ok (.putfield index, 3))
    (kk : ∀ (H1 : Heap) (locs1 : List Loc), va_P D vwCl (wl cI cZ cL cR B σ' τ) H1 → va_S (lm_A B) s.heap H1 locs1 → W p l e R s m args below meth c H1 locs1 0 0 Q (F0 m (pc + 3) ls rest)) : W p l e R s m args below meth c H locs 0 0 Q (F0 m pc ls (.int v :: .ref (B + x) :: rest)) := by
  subst h1
  exact lm_put C0 hR hS hc he hcl hin ty0 hty hnm k hk hlink href hfin ht hn hfit hl hE cellA_oC hd kk
theorem lm_putM (C0 : lm_Cx D cI cZ cL cR B p s m args meth c cc nL ret own) (hR : va_P D vwCl (wl cI cZ cL cR B σ τ) H) (hS : va_S (lm_A B) s.heap H locs) {x ci N index : Nat} {fs : List Value} {C ref : String} {T : u_T} {ty : FieldType} {v : Int32} (hc : x < 153) (he : cellA cI cZ cL cR B σ τ x = .inr (ci, fs)) (hcl : vwCl[ci]? = some (C, T, N)) (hin : ∀ w ∈ u_ws C T N, w ∈ lw_u) (ty0 : Nat → FieldType) (hty : ∀ k, k < N → parseFieldDescriptor (T k).2.2.1 = some (ty0 k)) (hnm : ∀ a, a < N → ∀ b, b < N → a ≠ b → (T a).2.1 ≠ (T b).2.1) (k : Nat) (hk : k < N) (hlink : Cond.fieldLink own index ref (T k).2.1 (T k).2.2.1 ∈ lw_u) (href : (T k).1 = ref) (hfin : (T k).2.2.2 = false) (ht : ty0 k = ty) (hn : narrow ty (.int v) = .int v) (hfit : fits ty (.int v) = true) (hl : k < fs.length)
    (h1 : τ' = up τ x k v) (hE : cellA cI cZ cL cR B σ (up τ x k v) x = .inr (ci, fs.set k (.int v))) (hd : decode cc pc = .ok (.putfield index, 3))
    (kk : ∀ (H1 : Heap) (locs1 : List Loc), va_P D vwCl (wl cI cZ cL cR B σ τ') H1 → va_S (lm_A B) s.heap H1 locs1 → W p l e R s m args below meth c H1 locs1 0 0 Q (F0 m (pc + 3) ls rest)) : W p l e R s m args below meth c H locs 0 0 Q (F0 m pc ls (.int v :: .ref (B + x) :: rest)) := by
  subst h1
  exact lm_put C0 hR hS hc he hcl hin ty0 hty hnm k hk hlink href hfin ht hn hfit hl hE cellA_oM hd kk
theorem lm_istC (C0 : lm_Cx D cI cZ cL cR B p s m args meth c cc nL ret own) (hR : va_P D vwCl (wl cI cZ cL cR B σ τ) H) (hS : va_S (lm_A B) s.heap H locs) {x n : Nat} {i v : Int32} (hc : x < 153) (he : cellA cI cZ cL cR B σ τ x = e_int cI n (σ x)) (hi : lm_in i n = true)
    (h1 : σ' = up σ x i.toNatClampNeg v) (hE : cellA cI cZ cL cR B (up σ x i.toNatClampNeg v) τ x = e_int cI n (upd (σ x) i.toNatClampNeg v)) (hd : decode cc pc = .ok (.iastore, 1))
    (kk : ∀ (H1 : Heap) (locs1 : List Loc), va_P D vwCl (wl cI cZ cL cR B σ' τ) H1 → va_S (lm_A B) s.heap H1 locs1 → W p l e R s m args below meth c H1 locs1 0 0 Q (F0 m (pc + 1) ls rest)) : W p l e R s m args below meth c H locs 0 0 Q (F0 m pc ls (.int v :: .int i :: .ref (B + x) :: rest)) := by
  subst h1
  exact lm_ist C0 hR hS hc he hi hE cellA_oC hd kk
theorem lm_istM (C0 : lm_Cx D cI cZ cL cR B p s m args meth c cc nL ret own) (hR : va_P D vwCl (wl cI cZ cL cR B σ τ) H) (hS : va_S (lm_A B) s.heap H locs) {x n : Nat} {i v : Int32} (hc : x < 153) (he : cellA cI cZ cL cR B σ τ x = e_int cI n (τ x)) (hi : lm_in i n = true)
    (h1 : τ' = up τ x i.toNatClampNeg v) (hE : cellA cI cZ cL cR B σ (up τ x i.toNatClampNeg v) x = e_int cI n (upd (τ x) i.toNatClampNeg v)) (hd : decode cc pc = .ok (.iastore, 1))
    (kk : ∀ (H1 : Heap) (locs1 : List Loc), va_P D vwCl (wl cI cZ cL cR B σ τ') H1 → va_S (lm_A B) s.heap H1 locs1 → W p l e R s m args below meth c H1 locs1 0 0 Q (F0 m (pc + 1) ls rest)) : W p l e R s m args below meth c H locs 0 0 Q (F0 m pc ls (.int v :: .int i :: .ref (B + x) :: rest)) := by
  subst h1
  exact lm_ist C0 hR hS hc he hi hE cellA_oM hd kk
theorem lm_zstM (C0 : lm_Cx D cI cZ cL cR B p s m args meth c cc nL ret own) (hR : va_P D vwCl (wl cI cZ cL cR B σ τ) H) (hS : va_S (lm_A B) s.heap H locs) {x n : Nat} {i v : Int32} (hc : x < 153) (he : cellA cI cZ cL cR B σ τ x = e_int cZ n (τ x)) (hi : lm_in i n = true) (hv : vp_nar .boolean v = v)
    (h1 : τ' = up τ x i.toNatClampNeg v) (hE : cellA cI cZ cL cR B σ (up τ x i.toNatClampNeg v) x = e_int cZ n (upd (τ x) i.toNatClampNeg v)) (hd : decode cc pc = .ok (.bastore, 1))
    (kk : ∀ (H1 : Heap) (locs1 : List Loc), va_P D vwCl (wl cI cZ cL cR B σ τ') H1 → va_S (lm_A B) s.heap H1 locs1 → W p l e R s m args below meth c H1 locs1 0 0 Q (F0 m (pc + 1) ls rest)) : W p l e R s m args below meth c H locs 0 0 Q (F0 m pc ls (.int v :: .int i :: .ref (B + x) :: rest)) := by
  subst h1
  exact lm_zst C0 hR hS hc he hi hv hE cellA_oM hd kk
theorem lm_copy {lv : List (Nat × Value)} {index : Nat} (C0 : lm_Cx D cI cZ cL cR B p s m args meth c cc nL ret own) (hR : va_P D vwCl (wl cI cZ cL cR B σ τ) H) (hS : va_S (lm_A B) s.heap H locs) (hl : lv_has ls nL lv) (hlink : (Cond.methodLink own index arraycopyName).before args s = true) (hnat : (Cond.native arraycopyName).before args s = true) (hstat : (Cond.static arraycopyName).before args s = true) (hini : (Cond.initialized "java/lang/System").before args s = true)
    {x0 x1 n0 n1 : Nat} {f g : Nat → Int32} (hc0 : x0 < 153) (he0 : cellA cI cZ cL cR B σ τ x0 = e_int cI n0 f) (hc1 : x1 < 153) (he1 : cellA cI cZ cL cR B σ τ x1 = e_int cI n1 g) {sp dp n : Int32} (h : lm_cp sp dp n n0 n1 = true) (h1 : σ' = upA σ x1 (va_cpy f g sp.toNatClampNeg dp.toNatClampNeg n.toNatClampNeg)) (hE : cellA cI cZ cL cR B (upA σ x1 (va_cpy f g sp.toNatClampNeg dp.toNatClampNeg n.toNatClampNeg)) τ x1 = e_int cI n1 (va_cpy f g sp.toNatClampNeg dp.toNatClampNeg n.toNatClampNeg)) (hframes : 1 ≤ R.frames) (hlocals : (rest.map fun v => v.category).sum + (nativeFrameWords "java/lang/System" "arraycopy" 5 + 11) ≤ R.locals) (hd : decode cc pc = .ok (.invokestatic index, 3))
    (kk : ∀ (H1 : Heap) (locs1 : List Loc), va_P D vwCl (wl cI cZ cL cR B σ' τ) H1 → va_S (lm_A B) s.heap H1 locs1 → W p l e R s m args below meth c H1 locs1 0 0 Q (F0 m (pc + 3) ls rest)) : W p l e R s m args below meth c H locs 0 0 Q (F0 m pc ls (.int n :: .int dp :: .ref (B + x1) :: .int sp :: .ref (B + x0) :: rest)) := by
  obtain ⟨hx, hb, hml, hr, hlk, hown, hts, hK, hX⟩ := C0
  obtain ⟨g1, g2, g3, g4, g5⟩ := (of_decide_eq_true h : ¬ sp < 0 ∧ ¬ dp < 0 ∧ ¬ n < 0 ∧ sp.toNatClampNeg + n.toNatClampNeg ≤ n0 ∧ dp.toNatClampNeg + n.toNatClampNeg ≤ n1)
  subst h1
  refine va_copyi hx hb (hml.trans hl.1.symm) hown hlink hnat hstat hini hK hR wl_D hS x0 x1 0 0 (wl_at hc0 he0) (wl_at hc1 he1) rfl rfl rfl g1 g2 g3 g4 g5 (fun _ _ => rfl) hframes hlocals hd (fun H1 locs1 hP1 _ hS1 => ?_)
  rw [wl_set hE cellA_oC] at hP1
  exact kk H1 locs1 hP1 hS1
end LMR3
end
section
section LMR4
variable {l : Launch} {D : va_G} {cI cZ cL cR : ClassId} {B : Nat} {σ τ σ' τ' : Mem}
variable {p : Program} {e : Env} {R : Room} {s : State} {m : MethodId} {args : Array Value} {below : List Frame} {meth : Method} {c : Code} {H : Heap} {locs : List Loc} {cc : ByteArray} {nL : Nat} {own : String} {pc : Nat} {ls : Array Slot}
theorem lm_riP {v r : Int32} (C0 : lm_Cx D cI cZ cL cR B p s m args meth c cc nL (some .int) own) (hR : va_P D vwCl (wl cI cZ cL cR B σ τ) H) (hS : va_S (lm_A B) s.heap H locs) (hf : some v = some r) (hd : decode cc pc = .ok (.ireturn, 1)) : W p l e R s m args below meth c H locs 0 0 (MQ below (lm_QI D cI cZ cL cR B r σ τ) args s 0 0 (lm_A B)) (F0 m pc ls [.int v]) := by
  cases hf
  exact lm_ri C0 hR hS hd
theorem lm_riC {v r : Int32} (C0 : lm_Cx D cI cZ cL cR B p s m args meth c cc nL (some .int) own) (hR : va_P D vwCl (wl cI cZ cL cR B σ τ) H) (hS : va_S (lm_A B) s.heap H locs) (hf : some (v, σ) = some (r, σ')) (hd : decode cc pc = .ok (.ireturn, 1)) : W p l e R s m args below meth c H locs 0 0 (MQ below (lm_QI D cI cZ cL cR B r σ' τ) args s 0 0 (lm_A B)) (F0 m pc ls [.int v]) := by
  cases hf
  exact lm_ri C0 hR hS hd
theorem lm_riM {v r : Int32} (C0 : lm_Cx D cI cZ cL cR B p s m args meth c cc nL (some .int) own) (hR : va_P D vwCl (wl cI cZ cL cR B σ τ) H) (hS : va_S (lm_A B) s.heap H locs) (hf : some (v, τ) = some (r, τ')) (hd : decode cc pc = .ok (.ireturn, 1)) : W p l e R s m args below meth c H locs 0 0 (MQ below (lm_QI D cI cZ cL cR B r σ τ') args s 0 0 (lm_A B)) (F0 m pc ls [.int v]) := by
  cases hf
  exact lm_ri C0 hR hS hd
theorem lm_rzP {v r : Int32} (C0 : lm_Cx D cI cZ cL cR B p s m args meth c cc nL (some .boolean) own) (hR : va_P D vwCl (wl cI cZ cL cR B σ τ) H) (hS : va_S (lm_A B) s.heap H locs) (hf : some v = some r) (hn : narrow .boolean (.int v) = .int v) (hd : decode cc pc = .ok (.ireturn, 1)) : W p l e R s m args below meth c H locs 0 0 (MQ below (lm_QI D cI cZ cL cR B r σ τ) args s 0 0 (lm_A B)) (F0 m pc ls [.int v]) := by
  cases hf
  exact lm_rz C0 hR hS hn hd
theorem lm_rzC {v r : Int32} (C0 : lm_Cx D cI cZ cL cR B p s m args meth c cc nL (some .boolean) own) (hR : va_P D vwCl (wl cI cZ cL cR B σ τ) H) (hS : va_S (lm_A B) s.heap H locs) (hf : some (v, σ) = some (r, σ')) (hn : narrow .boolean (.int v) = .int v) (hd : decode cc pc = .ok (.ireturn, 1)) : W p l e R s m args below meth c H locs 0 0 (MQ below (lm_QI D cI cZ cL cR B r σ' τ) args s 0 0 (lm_A B)) (F0 m pc ls [.int v]) := by
  cases hf
  exact lm_rz C0 hR hS hn hd
theorem lm_rzM {v r : Int32} (C0 : lm_Cx D cI cZ cL cR B p s m args meth c cc nL (some .boolean) own) (hR : va_P D vwCl (wl cI cZ cL cR B σ τ) H) (hS : va_S (lm_A B) s.heap H locs) (hf : some (v, τ) = some (r, τ')) (hn : narrow .boolean (.int v) = .int v) (hd : decode cc pc = .ok (.ireturn, 1)) : W p l e R s m args below meth c H locs 0 0 (MQ below (lm_QI D cI cZ cL cR B r σ τ') args s 0 0 (lm_A B)) (F0 m pc ls [.int v]) := by
  cases hf
  exact lm_rz C0 hR hS hn hd
theorem lm_rlP {v r : Int64} (C0 : lm_Cx D cI cZ cL cR B p s m args meth c cc nL (some .long) own) (hR : va_P D vwCl (wl cI cZ cL cR B σ τ) H) (hS : va_S (lm_A B) s.heap H locs) (hf : some v = some r) (hd : decode cc pc = .ok (.lreturn, 1)) : W p l e R s m args below meth c H locs 0 0 (MQ below (lm_QJ D cI cZ cL cR B r σ τ) args s 0 0 (lm_A B)) (F0 m pc ls [.long v]) := by
  cases hf
  exact lm_rl C0 hR hS hd
theorem lm_rlC {v r : Int64} (C0 : lm_Cx D cI cZ cL cR B p s m args meth c cc nL (some .long) own) (hR : va_P D vwCl (wl cI cZ cL cR B σ τ) H) (hS : va_S (lm_A B) s.heap H locs) (hf : some (v, σ) = some (r, σ')) (hd : decode cc pc = .ok (.lreturn, 1)) : W p l e R s m args below meth c H locs 0 0 (MQ below (lm_QJ D cI cZ cL cR B r σ' τ) args s 0 0 (lm_A B)) (F0 m pc ls [.long v]) := by
  cases hf
  exact lm_rl C0 hR hS hd
theorem lm_rlM {v r : Int64} (C0 : lm_Cx D cI cZ cL cR B p s m args meth c cc nL (some .long) own) (hR : va_P D vwCl (wl cI cZ cL cR B σ τ) H) (hS : va_S (lm_A B) s.heap H locs) (hf : some (v, τ) = some (r, τ')) (hd : decode cc pc = .ok (.lreturn, 1)) : W p l e R s m args below meth c H locs 0 0 (MQ below (lm_QJ D cI cZ cL cR B r σ τ') args s 0 0 (lm_A B)) (F0 m pc ls [.long v]) := by
  cases hf
  exact lm_rl C0 hR hS hd
theorem lm_rvC (C0 : lm_Cx D cI cZ cL cR B p s m args meth c cc nL none own) (hR : va_P D vwCl (wl cI cZ cL cR B σ τ) H) (hS : va_S (lm_A B) s.heap H locs) (hf : some σ = some σ') (hd : decode cc pc = .ok (.return_, 1)) : W p l e R s m args below meth c H locs 0 0 (MQ below (lm_QV D cI cZ cL cR B σ' τ) args s 0 0 (lm_A B)) (F0 m pc ls []) := by
  cases hf
  exact lm_rv C0 hR hS hd
theorem lm_rvM (C0 : lm_Cx D cI cZ cL cR B p s m args meth c cc nL none own) (hR : va_P D vwCl (wl cI cZ cL cR B σ τ) H) (hS : va_S (lm_A B) s.heap H locs) (hf : some τ = some τ') (hd : decode cc pc = .ok (.return_, 1)) : W p l e R s m args below meth c H locs 0 0 (MQ below (lm_QV D cI cZ cL cR B σ τ') args s 0 0 (lm_A B)) (F0 m pc ls []) := by
  cases hf
  exact lm_rv C0 hR hS hd
end LMR4
end
section
/-! CONSTRUCTORS: the world is the cells B .. B+N-1, in the order in which they were made. -/
def wF (B N : Nat) (E : Nat → va_E) : va_W := (List.range N).map (fun c => (B + c, E c))
section CTA
variable {B N : Nat} {E E' : Nat → va_E} {c : Nat} {e : va_E}
theorem wF_get (h : c < N) : (wF B N E)[c]? = some (B + c, E c) := by
  simp [wF, h]
theorem wF_at (h : c < N) (he : E c = e) : (wF B N E)[c]? = some (B + c, e) := by
  rw [wF_get h, he]
theorem wF_len : (wF B N E).length = N := by simp [wF]
theorem wF_lt {k : Nat} {q : Nat × va_E} (h : (wF B N E)[k]? = some q) : k < N ∧ q = (B + k, E k) := by
  have hk : k < N := by
    have := (List.getElem?_eq_some_iff.mp h).1
    rwa [wF_len] at this
  rw [wF_get hk] at h
  exact ⟨hk, (Option.some.inj h).symm⟩
theorem wF_D : va_D (lm_A B) (wF B N E) := by
  refine ⟨fun i j p q hi hj e => ?_, fun k q hk => ?_⟩
  · obtain ⟨-, rfl⟩ := wF_lt hi
    obtain ⟨-, rfl⟩ := wF_lt hj
    exact Nat.add_left_cancel e
  · obtain ⟨-, rfl⟩ := wF_lt hk
    exact Nat.le_add_right B k
theorem wF_set : (wF B N E).set c (B + c, e) = wF B N (va_up E c e) := by
  apply List.ext_getElem?
  intro k
  by_cases hk : k < N
  · rw [wF_get hk]
    by_cases hc : k = c
    · subst hc
      rw [List.getElem?_set_self (by rw [wF_len]; exact hk)]
      simp [va_up]
    · rw [List.getElem?_set_ne (Ne.symm hc), wF_get hk]
      simp [va_up, hc]
  · rw [List.getElem?_eq_none (by rw [List.length_set, wF_len]; omega), List.getElem?_eq_none (by rw [wF_len]; omega)]
theorem wF_congr (h : ∀ x, x < N → E x = E' x) : wF B N E = wF B N E' := by
  unfold wF
  apply List.map_congr_left
  intro x hx
  rw [h x (List.mem_range.mp hx)]
theorem wF_app : wF B N E ++ [(B + N, e)] = wF B (N + 1) (va_up E N e) := by
  have h1 : wF B N E = wF B N (va_up E N e) := wF_congr (fun x hx => by simp [va_up, Nat.ne_of_lt hx])
  have h2 : (va_up E N e) N = e := by simp [va_up]
  rw [h1]
  unfold wF
  rw [List.range_succ, List.map_append, List.map_cons, List.map_nil, h2]
end CTA
/-- the words that are no table's to hand on: nest mates, arrays of references -/
def lm_Y (U : State) : Prop := va_Nw (.methodLinkNest RX4 17 yX3_init "LampLogs") U ∧ va_Nw (.methodLinkNest RX4 24 yX1_init "LampLogs") U ∧ va_Nw (.methodLinkNest RX0 17 yX1_init "LampLogs") U ∧ va_Nw (.methodLinkNest RX4 50 yX2_init "LampLogs") U ∧ va_AO "LampLogs$Light" U ∧ va_AO "LampLogs$Row" U
theorem lm_Y.move {s U : State} (hW : s.WarmedH U.vm) (h : lm_Y s) : lm_Y U :=
  ⟨va_Nw.warmM hW h.1, va_Nw.warmM hW h.2.1, va_Nw.warmM hW h.2.2.1, va_Nw.warmM hW h.2.2.2.1, va_AO.moved hW.alike h.2.2.2.2.1, va_AO.moved hW.alike h.2.2.2.2.2⟩
abbrev ct_S (D : va_G) (B N : Nat) (E : Nat → va_E) (H : Heap) : Prop := va_P D vwCl (wF B N E) H ∧ H.size = B + N
def ct_W (D : va_G) (cI cZ cL cR : ClassId) (B N : Nat) (E : Nat → va_E) (U : State) : Prop := ct_S D B N E U.heap ∧ va_K D vwCl (tyl cI cZ cL cR) U ∧ lm_Y U
theorem ct_blind {D : va_G} {cI cZ cL cR : ClassId} {B N : Nat} {E : Nat → va_E} {As : List Value} : FrameBlind (va_Pc As (ct_W D cI cZ cL cR B N E)) := by
  intro a U g mk h
  obtain ⟨h0, h1, h2, h3⟩ := h
  obtain ⟨x1, x2, x3, x4, x5, x6⟩ := h3
  exact ⟨h0, h1, va_K.moved (u := U) (U := U.calling g mk a) (Vm.Alike.refl U.vm) h2, va_Nw.same (u := U) (U := U.calling g mk a) rfl rfl x1, va_Nw.same (u := U) (U := U.calling g mk a) rfl rfl x2, va_Nw.same (u := U) (U := U.calling g mk a) rfl rfl x3, va_Nw.same (u := U) (U := U.calling g mk a) rfl rfl x4, va_AO.moved (u := U) (U := U.calling g mk a) (Vm.Alike.refl U.vm) x5, va_AO.moved (u := U) (U := U.calling g mk a) (Vm.Alike.refl U.vm) x6⟩
abbrev ct_Q (D : va_G) (B N : Nat) (E : Nat → va_E) : Array Value → State → Outcome → State → Prop := va_Qv (fun (_ : Unit) => True) (fun _ t => ct_S D B N E t.heap) (lm_A B)
def ct_C (l : Launch) (y : MethodName) (ws : List Cond) (rm : Room) (D : va_G) (cI cZ cL cR : ClassId) (B : Nat) (As : List Value) (N : Nat) (E : Nat → va_E) (N' : Nat) (E' : Nat → va_E) (mc ms : Nat) : Prop := Met l y ws rm (va_Pc As (ct_W D cI cZ cL cR B N E)) (ct_Q D B N' E') mc ms (lm_A B)
def ct_Cx (D : va_G) (cI cZ cL cR : ClassId) (B : Nat) (p : Program) (s : State) (m : MethodId) (args : Array Value) (meth : Method) (c : Code) (cc : ByteArray) (nL : Nat) (own : String) : Prop :=
  p.tables.exec = Jvm.exec ∧ c.code = cc ∧ c.maxLocals = nL ∧ meth.sig.returnType = none ∧ meth.locks = false ∧ s.vm.findClass own = some m.cls ∧ (∀ w ∈ lw_u, w.before args s = true) ∧ va_K D vwCl (tyl cI cZ cL cR) s ∧ lm_Y s ∧ meth.name = "<init>" ∧ B ≤ s.heap.size
section CTB
variable {l : Launch} {D : va_G} {cI cZ cL cR : ClassId} {B N : Nat} {E E' : Nat → va_E}
theorem ct_of {y : MethodName} {rm : Room} {cc : ByteArray} {maxL N' mc ms : Nat} {own : String} {As : List Value} (hy : plainName y.cls = true) (hcls : y.cls = own) (hyn : y.name = "<init>") (hA : (lg_sl As).length ≤ maxL)
    (body : ∀ (p : Program) (e : Env) (s : State) (m : MethodId) (below : List Frame) (meth : Method) (c : Code), ct_Cx D cI cZ cL cR B p s m As.toArray meth c cc maxL own → ct_S D B N E s.heap → ∀ ls : Array Slot, lv_has ls maxL (lv_args 0 As) → W p l e rm s m As.toArray below meth c s.heap [] 0 0 (MQ below (ct_Q D B N' E') As.toArray s mc ms (lm_A B)) (F0 m 0 ls [])) : ct_C l y (Cond.code y cc maxL none :: lw_u) rm D cI cZ cL cR B As N E N' E' mc ms := by
  refine Met.ofW (cc := cc) (maxL := maxL) (ret := none) hy rfl ?_
  intro p e s m args below meth c s₁ Bd hml hv
  obtain ⟨rfl, hP, hK, hX⟩ := hv
  have hl := lv_entry As (n := maxL) hA
  rw [lg_entry_eq]
  have hin : meth.name = "<init>" := (name_of_methodNamed Bd.named Bd.method).1.trans hyn
  exact body p e s m below meth c ⟨Bd.exec, Bd.bytes, hml, Bd.returns, Bd.notSynchronized, by rw [← hcls]; exact findClass_of_methodNamed Bd.named, fun w hw => atoms_spec (ws := Cond.code y cc maxL none :: lw_u) Bd.pre w (List.mem_cons_of_mem _ hw), hK, hX, hin, by rw [hP.2]; exact Nat.le_add_right B N⟩ hP _ hl
variable {p : Program} {e : Env} {R : Room} {s : State} {m : MethodId} {args : Array Value} {below : List Frame} {meth : Method} {c : Code} {H : Heap} {locs : List Loc} {Q : State → Prop} {cc : ByteArray} {nL cells slots : Nat} {own : String} {pc : Nat} {ls : Array Slot} {rest : List Value}
theorem ct_new1 (hR : ct_S D B N E H) (hS : va_S (lm_A B) s.heap H locs) {H1 : Heap} {e0 : va_E} (z1 : H1.size = H.size + 1) (o1 : ∀ q, q < H.size → H1[q]? = H[q]?) (h1 : va_at D vwCl (B + N, e0) H1) : ct_S D B (N + 1) (va_up E N e0) H1 ∧ va_S (lm_A B) s.heap H1 locs := by
  refine ⟨⟨?_, by rw [z1, hR.2]; omega⟩, ⟨Nat.le_trans hS.1 (by omega), fun x g1 g2 => (o1 x (Nat.lt_of_lt_of_le g1 hS.1)).trans (hS.2.1 x g1 g2), hS.2.2⟩⟩
  rw [← wF_app]
  refine (hR.1.kept (fun k x hx => o1 x.1 ((hR.1 k x hx).lt))).app (fun k x hx => ?_)
  have hz : k < 1 := (List.getElem?_eq_some_iff.mp hx).1
  rw [show k = 0 by omega] at hx
  cases hx
  exact h1
theorem ct_newi (C0 : ct_Cx D cI cZ cL cR B p s m args meth c cc nL own) (hR : ct_S D B N E H) (hS : va_S (lm_A B) s.heap H locs) {n : Int32} {N' : Nat} (hn : ¬ n < 0) (hN : n.toNatClampNeg = N') (hbytes : N' * 4 ≤ 536870912) (hcells : cells + 1 ≤ R.cells) (hslots : slots + N' ≤ R.slots) (hd : decode cc pc = .ok (.newarray .int, 2))
    (kk : ∀ H1 : Heap, ct_S D B (N + 1) (va_up E N (e_int cI N' (fun _ => 0))) H1 → va_S (lm_A B) s.heap H1 locs → W p l e R s m args below meth c H1 locs (cells + 1) (slots + N') Q (F0 m (pc + 2) ls (.ref (B + N) :: rest))) : W p l e R s m args below meth c H locs cells slots Q (F0 m pc ls (.int n :: rest)) := by
  obtain ⟨hx, hb, hml, hr, hlk, hown, hts, hK, hY, hin, hBs⟩ := C0
  refine va_newaK (atype := .int) hx hb (hts _ uw_32) rfl hd rfl hn hN hbytes hcells hslots hR.2 fun H1 cA e1 z1 o1 hAr hNm => ?_
  have hc : cA = cI := Option.some.inj (hNm.symm.trans (hK.2 0 (cI, .int) rfl).2)
  subst hc
  obtain ⟨g1, g2⟩ := ct_new1 (e0 := e_int cA N' (fun _ => 0)) hR hS (by rw [z1, hR.2]) (fun q hq => o1 q (by rw [← hR.2]; exact hq)) e1
  exact kk H1 g1 g2
theorem ct_newz (C0 : ct_Cx D cI cZ cL cR B p s m args meth c cc nL own) (hR : ct_S D B N E H) (hS : va_S (lm_A B) s.heap H locs) (hw : Cond.arrayClass .boolean ∈ lw_u) {n : Int32} {N' : Nat} (hn : ¬ n < 0) (hN : n.toNatClampNeg = N') (hbytes : N' * 1 ≤ 536870912) (hcells : cells + 1 ≤ R.cells) (hslots : slots + N' ≤ R.slots) (hd : decode cc pc = .ok (.newarray .boolean, 2))
    (kk : ∀ H1 : Heap, ct_S D B (N + 1) (va_up E N (e_int cZ N' (fun _ => 0))) H1 → va_S (lm_A B) s.heap H1 locs → W p l e R s m args below meth c H1 locs (cells + 1) (slots + N') Q (F0 m (pc + 2) ls (.ref (B + N) :: rest))) : W p l e R s m args below meth c H locs cells slots Q (F0 m pc ls (.int n :: rest)) := by
  obtain ⟨hx, hb, hml, hr, hlk, hown, hts, hK, hY, hin, hBs⟩ := C0
  refine va_newaK (atype := .boolean) hx hb (hts _ hw) rfl hd rfl hn hN hbytes hcells hslots hR.2 fun H1 cA e1 z1 o1 hAr hNm => ?_
  have hc : cA = cZ := Option.some.inj (hNm.symm.trans (hK.2 1 (cZ, .boolean) rfl).2)
  subst hc
  obtain ⟨g1, g2⟩ := ct_new1 (e0 := e_int cA N' (fun _ => 0)) hR hS (by rw [z1, hR.2]) (fun q hq => o1 q (by rw [← hR.2]; exact hq)) e1
  exact kk H1 g1 g2
theorem ct_newq (C0 : ct_Cx D cI cZ cL cR B p s m args meth c cc nL own) (hR : ct_S D B N E H) (hS : va_S (lm_A B) s.heap H locs) {C : String} {index t0 : Nat} {cA0 : ClassId} (hclink : Cond.classLink own index C ∈ lw_u) (hover : va_AO C s) (ht : (tyl cI cZ cL cR)[t0]? = some (cA0, .object C)) {n : Int32} {N' : Nat} (hn : ¬ n < 0) (hN : n.toNatClampNeg = N') (hbytes : N' * 4 ≤ 536870912) (hcells : cells + 1 ≤ R.cells) (hslots : slots + N' ≤ R.slots) (hd : decode cc pc = .ok (.anewarray index, 3))
    (kk : ∀ H1 : Heap, ct_S D B (N + 1) (va_up E N (e_ref cA0 N' (fun _ => none))) H1 → va_S (lm_A B) s.heap H1 locs → W p l e R s m args below meth c H1 locs (cells + 1) (slots + N') Q (F0 m (pc + 3) ls (.ref (B + N) :: rest))) : W p l e R s m args below meth c H locs cells slots Q (F0 m pc ls (.int n :: rest)) := by
  obtain ⟨hx, hb, hml, hr, hlk, hown, hts, hK, hY, hin, hBs⟩ := C0
  subst hN
  refine W.anew hx hb hown (hts _ hclink) (va_AO.use hover) rfl hd rfl hn hbytes hcells hslots fun cA kA comp f1 f2 f3 f4 => ?_
  obtain ⟨kA', comp', k1, k2, k3, k4⟩ := (hK.2 t0 _ ht).2
  have hc : cA = cA0 := Option.some.inj (f1.symm.trans k4)
  subst hc
  rw [hR.2]
  obtain ⟨g1, g2⟩ := ct_new1 (s := s) (locs := locs) (H1 := H.push { cls := cA, slots := Array.replicate n.toNatClampNeg .null, vm := .none }) (e0 := e_ref cA n.toNatClampNeg (fun _ => none)) hR hS (by rw [Array.size_push]) (fun q hq => by rw [Array.getElem?_push, if_neg (Nat.ne_of_lt hq)]) (by
    show (H.push _)[B + N]? = some (vp_cell _ _)
    rw [vp_cell_q, ← hR.2, Array.getElem?_push_size]
    exact congrArg some (arrV_new cA n.toNatClampNeg .null))
  exact kk _ g1 g2
theorem ct_new (C0 : ct_Cx D cI cZ cL cR B p s m args meth c cc nL own) (hR : ct_S D B N E H) (hS : va_S (lm_A B) s.heap H locs) {C : String} {T : u_T} {M ci index : Nat} (hin2 : ∀ w ∈ u_ws C T M, w ∈ lw_u) (ty : Nat → FieldType) (hty : ∀ k, k < M → parseFieldDescriptor (T k).2.2.1 = some (ty k)) (hcl : Cond.classLink own index C ∈ lw_u) (hinst : Cond.instantiable C M ∈ lw_u) (hini : Cond.initialized C ∈ lw_u) (hc : vwCl[ci]? = some (C, T, M)) {fs : List Value} (hfs : ∀ j, j < M → defaultValue (ty j) = vp_V fs j) (hcells : cells + 1 ≤ R.cells) (hslots : slots + M ≤ R.slots) (hd : decode cc pc = .ok (.new index, 3))
    (kk : ∀ H1 : Heap, ct_S D B (N + 1) (va_up E N (e_obj ci fs)) H1 → va_S (lm_A B) s.heap H1 locs → W p l e R s m args below meth c H1 locs (cells + 1) (slots + M) Q (F0 m (pc + 3) ls (.ref (B + N) :: rest))) : W p l e R s m args below meth c H locs cells slots Q (F0 m pc ls rest) := by
  obtain ⟨hx, hb, hml, hr, hlk, hown, hts, hK, hY, hin, hBs⟩ := C0
  have hKn := hK.1 ci _ hc
  refine W.newcK hx hb hown (hts _ hcl) (hts _ hinst) (hts _ hini) rfl hd hcells hslots hKn.2.1 hR.2 fun H1 kC hkC e1 z1 o1 => ?_
  obtain ⟨g1, g2⟩ := ct_new1 (e0 := e_obj ci fs) hR hS (by rw [z1, hR.2]) (fun q hq => o1 q (by rw [← hR.2]; exact hq)) ⟨_, hc, (u_born ty hts hin2 hKn hkC e1 hty).to hfs⟩
  exact kk H1 g1 g2
theorem ct_get (C0 : ct_Cx D cI cZ cL cR B p s m args meth c cc nL own) (hR : ct_S D B N E H) {x ci M index : Nat} {fs : List Value} {C ref : String} {T : u_T} {v : Value} (hc : x < N) (he : E x = .inr (ci, fs)) (hcl : vwCl[ci]? = some (C, T, M)) (hin2 : ∀ w ∈ u_ws C T M, w ∈ lw_u) (k : Nat) (hk : k < M) (hlink : Cond.fieldLink own index ref (T k).2.1 (T k).2.2.1 ∈ lw_u) (href : (T k).1 = ref) (hv : fs[k]? = some v) (hd : decode cc pc = .ok (.getfield index, 3))
    (kk : W p l e R s m args below meth c H locs cells slots Q (F0 m (pc + 3) ls (v :: rest))) : W p l e R s m args below meth c H locs cells slots Q (F0 m pc ls (.ref (B + x) :: rest)) := by
  obtain ⟨hx, hb, hml, hr, hlk, hown, hts, hK, hY, hin, hBs⟩ := C0
  exact va_get hx hb hts hin2 hown hK hR.1 x (wF_at hc he) hcl k hk (hts _ hlink) (fun _ h => by rw [← href]; exact h) hv hd kk
theorem ct_set1 (hR : ct_S D B N E H) (hS : va_S (lm_A B) s.heap H locs) {x k : Nat} (hc : x < N) {H1 : Heap} {e0 : va_E} (z : H1.size = H.size) (oq : ∀ q, q ≠ B + x → H1[q]? = H[q]?) (h1 : va_at D vwCl (B + x, e0) H1) : ct_S D B N (va_up E x e0) H1 ∧ va_S (lm_A B) s.heap H1 (locs ++ [⟨B + x, k⟩]) := by
  refine ⟨⟨?_, by rw [z]; exact hR.2⟩, hS.put z oq (Nat.le_add_right B x)⟩
  rw [← wF_set]
  exact hR.1.set wF_D (wF_get hc) h1 oq
theorem ct_putF (C0 : ct_Cx D cI cZ cL cR B p s m args meth c cc nL own) (hR : ct_S D B N E H) (hS : va_S (lm_A B) s.heap H locs) {x ci M index : Nat} {fs : List Value} {C ref : String} {T : u_T} {ty : FieldType} {v : Value} (hc : x < N) (he : E x = .inr (ci, fs)) (hcl : vwCl[ci]? = some (C, T, M)) (hin2 : ∀ w ∈ u_ws C T M, w ∈ lw_u) (ty0 : Nat → FieldType) (hty : ∀ k, k < M → parseFieldDescriptor (T k).2.2.1 = some (ty0 k)) (hnm : ∀ a, a < M → ∀ b, b < M → a ≠ b → (T a).2.1 ≠ (T b).2.1) (k : Nat) (hk : k < M) (hlink : Cond.fieldLink own index ref (T k).2.1 (T k).2.2.1 ∈ lw_u) (href : (T k).1 = ref) (hfin : (T k).2.2.2 = true) (hdecl : (T k).1 = own) (ht : ty0 k = ty) (hn : narrow ty v = v) (hfit : fits ty v = true) (hl : k < fs.length) (hd : decode cc pc = .ok (.putfield index, 3))
    (kk : ∀ (H1 : Heap) (locs1 : List Loc), ct_S D B N (va_up E x (e_obj ci (fs.set k v))) H1 → va_S (lm_A B) s.heap H1 locs1 → W p l e R s m args below meth c H1 locs1 cells slots Q (F0 m (pc + 3) ls rest)) : W p l e R s m args below meth c H locs cells slots Q (F0 m pc ls (v :: .ref (B + x) :: rest)) := by
  obtain ⟨hx, hb, hml, hr, hlk, hown, hts, hK, hY, hin, hBs⟩ := C0
  have hd2 : parseFieldDescriptor (T k).2.2.1 = some ty := by rw [hty k hk, ht]
  have hap := va_apart (own := own) hts hin2 ty0 hty hnm hK hcl
  obtain ⟨r, h1, cell, q1, q2, q3, q4⟩ := hR.1 x _ (wF_at hc he)
  have hr2 : r = (C, T, M) := Option.some.inj (h1.symm.trans hcl)
  subst hr2
  obtain ⟨hSl, hfc, kC, hkC, hkind⟩ := hK.1 ci _ hcl
  obtain ⟨cf, kf, fi, f, hi, hsl⟩ := hSl k hk
  have hlay := hts _ (hin2 _ (u_in_lay hk))
  unfold u_lay at hlay
  rw [if_pos hfin] at hlay
  have hst := (u_facts hfc hkC (u_lays hts hin2 hk) hi).1
  have hcf : m.cls = cf := by
    obtain ⟨_, _, c', _, _, _, -, -, hf', -, -, -, hown2, -⟩ := Cond.laysFinal_spec hlay
    have e1 : c' = cf := by have := hi.symm.trans hf'; simp at this; exact this.1.symm
    rw [hdecl] at hown2
    rw [← e1]; exact Option.some.inj (hown.symm.trans hown2)
  have h6 := u_fits hfc hkC hkind (Or.inr hlay) hi hd2 hn hfit
  refine W.putFinK hx hb hown (hts _ hlink) (by rw [← href]; exact hi) hst hcf hin (by rw [q2]; exact h6) q1 q3 (by rw [hsl]; exact k2_hasslot (q4 k hk)) rfl rfl hd fun H' e1 e2 e3 => ?_
  rw [hsl] at e1 ⊢
  obtain ⟨g1, g2⟩ := ct_set1 (k := (D.2 ci) k) (e0 := e_obj ci (fs.set k v)) hR hS hc e2 e3 ⟨_, hcl, t_OB.to (V := updV (vp_V fs) k v) ⟨_, e1, q2, q3, t_set q4 hap hk v⟩ (fun j _ => vp_updV_set hl v j)⟩
  exact kk H' _ g1 g2
theorem ct_put (C0 : ct_Cx D cI cZ cL cR B p s m args meth c cc nL own) (hR : ct_S D B N E H) (hS : va_S (lm_A B) s.heap H locs) {x ci M index : Nat} {fs : List Value} {C ref : String} {T : u_T} {ty : FieldType} {v : Value} (hc : x < N) (he : E x = .inr (ci, fs)) (hcl : vwCl[ci]? = some (C, T, M)) (hin2 : ∀ w ∈ u_ws C T M, w ∈ lw_u) (ty0 : Nat → FieldType) (hty : ∀ k, k < M → parseFieldDescriptor (T k).2.2.1 = some (ty0 k)) (hnm : ∀ a, a < M → ∀ b, b < M → a ≠ b → (T a).2.1 ≠ (T b).2.1) (k : Nat) (hk : k < M) (hlink : Cond.fieldLink own index ref (T k).2.1 (T k).2.2.1 ∈ lw_u) (href : (T k).1 = ref) (hfin : (T k).2.2.2 = false) (ht : ty0 k = ty) (hn : narrow ty v = v) (hfit : fits ty v = true) (hl : k < fs.length) (hd : decode cc pc = .ok (.putfield index, 3))
    (kk : ∀ (H1 : Heap) (locs1 : List Loc), ct_S D B N (va_up E x (e_obj ci (fs.set k v))) H1 → va_S (lm_A B) s.heap H1 locs1 → W p l e R s m args below meth c H1 locs1 cells slots Q (F0 m (pc + 3) ls rest)) : W p l e R s m args below meth c H locs cells slots Q (F0 m pc ls (v :: .ref (B + x) :: rest)) := by
  obtain ⟨hx, hb, hml, hr, hlk, hown, hts, hK, hY, hin, hBs⟩ := C0
  have hd2 : parseFieldDescriptor (T k).2.2.1 = some ty := by rw [hty k hk, ht]
  have hap := va_apart (own := own) hts hin2 ty0 hty hnm hK hcl
  obtain ⟨r, h1, cell, q1, q2, q3, q4⟩ := hR.1 x _ (wF_at hc he)
  have hr2 : r = (C, T, M) := Option.some.inj (h1.symm.trans hcl)
  subst hr2
  obtain ⟨hSl, hfc, kC, hkC, hkind⟩ := hK.1 ci _ hcl
  obtain ⟨cf, kf, fi, f, hi, hsl⟩ := hSl k hk
  have hlay := hts _ (hin2 _ (u_in_lay hk))
  unfold u_lay at hlay
  rw [if_neg (by rw [hfin]; decide)] at hlay
  have hst := (u_facts hfc hkC (u_lays hts hin2 hk) hi).1
  have h6 := u_store hfc hkC hkind hlay hi hd2 hn hfit
  refine W.putK hx hb (f := f) ⟨hown, hts _ hlink, ⟨_, _, _, by rw [← href]; exact hi⟩, hst⟩ (by rw [q2]; exact h6) q1 q3 (by rw [hsl]; exact k2_hasslot (q4 k hk)) rfl rfl hd fun H' e1 e2 e3 => ?_
  rw [hsl] at e1 ⊢
  obtain ⟨g1, g2⟩ := ct_set1 (k := (D.2 ci) k) (e0 := e_obj ci (fs.set k v)) hR hS hc e2 e3 ⟨_, hcl, t_OB.to (V := updV (vp_V fs) k v) ⟨_, e1, q2, q3, t_set q4 hap hk v⟩ (fun j _ => vp_updV_set hl v j)⟩
  exact kk H' _ g1 g2
theorem ct_ist (C0 : ct_Cx D cI cZ cL cR B p s m args meth c cc nL own) (hR : ct_S D B N E H) (hS : va_S (lm_A B) s.heap H locs) {x n : Nat} {f : Nat → Int32} {i v : Int32} (hc : x < N) (he : E x = e_int cI n f) (hi : lm_in i n = true) (hd : decode cc pc = .ok (.iastore, 1))
    (kk : ∀ (H1 : Heap) (locs1 : List Loc), ct_S D B N (va_up E x (e_int cI n (upd f i.toNatClampNeg v))) H1 → va_S (lm_A B) s.heap H1 locs1 → W p l e R s m args below meth c H1 locs1 cells slots Q (F0 m (pc + 1) ls rest)) : W p l e R s m args below meth c H locs cells slots Q (F0 m pc ls (.int v :: .int i :: .ref (B + x) :: rest)) := by
  obtain ⟨hx, hb, hml, hr, hlk, hown, hts, hK, hY, hin, hBs⟩ := C0
  refine W.iast hx hb (hR.1 x _ (wF_at hc he)) ((hK.2 0 (cI, .int) rfl).1 n (fun j => .int (f j))) (fun q => by cases q) (by show ¬ (i < 0 ∨ (arrV _ _ _).slots.size ≤ _); rw [arrV_size]; exact lm_inT hi) rfl rfl hd fun H1 e z oq => ?_
  obtain ⟨g1, g2⟩ := ct_set1 (k := i.toNatClampNeg) (e0 := e_int cI n (upd f i.toNatClampNeg v)) hR hS hc z oq (by
    show H1[B + x]? = some (vp_cell _ _)
    rw [e, vp_cell_i, vp_cell_i, arrV_store]
    congr 2
    funext q
    by_cases hq : q = i.toNatClampNeg
    · subst hq
      simp [updV, upd]
    · simp [updV, upd, hq])
  exact kk H1 _ g1 g2
theorem ct_ast (C0 : ct_Cx D cI cZ cL cR B p s m args meth c cc nL own) (hR : ct_S D B N E H) (hS : va_S (lm_A B) s.heap H locs) {x n t0 ci y : Nat} {cA : ClassId} {r : vw_C} {vs : List Value} {f : Nat → Option Nat} {i : Int32} (hc : x < N) (he : E x = e_ref cA n f) (ht : (tyl cI cZ cL cR)[t0]? = some (cA, .object r.1)) (hcy : y < N) (hy : E y = .inr (ci, vs)) (hcl : vwCl[ci]? = some r) (hi : lm_in i n = true) (hd : decode cc pc = .ok (.aastore, 1))
    (kk : ∀ (H1 : Heap) (locs1 : List Loc), ct_S D B N (va_up E x (e_ref cA n (va_up f i.toNatClampNeg (some (B + y))))) H1 → va_S (lm_A B) s.heap H1 locs1 → W p l e R s m args below meth c H1 locs1 cells slots Q (F0 m (pc + 1) ls rest)) : W p l e R s m args below meth c H locs cells slots Q (F0 m pc ls (.ref (B + y) :: .int i :: .ref (B + x) :: rest)) := by
  obtain ⟨hx, hb, hml, hr, hlk, hown, hts, hK, hY, hin2, hBs⟩ := C0
  have hin := lm_inT hi
  have hlt : i.toNatClampNeg < n := Nat.not_le.mp fun q => hin (Or.inr q)
  have h0 : ¬ i < 0 := fun q => hin (Or.inl q)
  obtain ⟨r', hr', cellV, g1, g2, g3, -⟩ := hR.1 y _ (wF_at hcy hy)
  have hcls := (hK.1 ci r hcl).2
  obtain ⟨kA, comp, k1, k2, k3, -⟩ := (hK.2 t0 _ ht).2
  have hcomp : comp = D.1 ci := Option.some.inj (k3.symm.trans hcls.1)
  subst hcomp
  obtain ⟨kC, hkC, -⟩ := hcls.2
  refine W.aast hx hb (hR.1 x _ (wF_at hc he)) (fun q h => by cases h) (fun h => by cases h) k1 k2 rfl hkC ⟨h0, by show _ < (arrV _ _ _).slots.size; rw [arrV_size]; exact hlt⟩ g1 (fun q h => by rw [g3] at h; cases h) (by rw [g2]; exact hkC) (by rw [g2]; exact va_assign hcls) rfl rfl hd fun H1 e z oq => ?_
  obtain ⟨g1, g2⟩ := ct_set1 (k := i.toNatClampNeg) (e0 := e_ref cA n (va_up f i.toNatClampNeg (some (B + y)))) hR hS hc z oq (by
    show H1[B + x]? = some (vp_cell _ _)
    rw [e, vp_cell_q, vp_cell_q, arrV_store]
    congr 2
    funext q
    by_cases hq : q = i.toNatClampNeg
    · subst hq
      simp [updV, va_up, va_rf]
    · simp [updV, va_up, hq])
  exact kk H1 _ g1 g2
theorem ct_obj (C0 : ct_Cx D cI cZ cL cR B p s m args meth c cc nL own) {lv : List (Nat × Value)} (hl : lv_has ls nL lv) {index x : Nat} (hlink : Cond.methodLink own index objectInit ∈ lw_u) (hd : decode cc pc = .ok (.invokespecial index, 3)) (hframes : 1 ≤ R.frames) (hlocals : (rest.map fun v => v.category).sum + 12 ≤ R.locals)
    (kk : W p l e R s m args below meth c H locs cells slots Q (F0 m (pc + 3) ls rest)) : W p l e R s m args below meth c H locs cells slots Q (F0 m pc ls (.ref x :: rest)) := by
  obtain ⟨hx, hb, hml, hr, hlk, hown, hts, hK, hY, hin, hBs⟩ := C0
  exact W.objInit hx hb hown (hts _ hlink) (hts _ uw_16) (hts _ uw_17) rfl (by rw [hml]; exact hl.1) rfl hd hframes (by show 2 * 0 + _ + 12 ≤ _; omega) kk
theorem ct_ret (C0 : ct_Cx D cI cZ cL cR B p s m args meth c cc nL own) (hR : ct_S D B N E H) (hS : va_S (lm_A B) s.heap H locs) (hE : ∀ x, x < N → E x = E' x) (hd : decode cc pc = .ok (.return_, 1)) : W p l e R s m args below meth c H locs cells slots (MQ below (ct_Q D B N E') args s cells slots (lm_A B)) (F0 m pc ls []) := by
  obtain ⟨hx, hb, hml, hr, hlk, hown, hts, hK, hY, hin, hBs⟩ := C0
  have hR' : ct_S D B N E' H := ⟨by rw [← wF_congr hE]; exact hR.1, hR.2⟩
  exact W.vret hx hb hr (fun t ht _ => ⟨⟨(), rfl, trivial, by show ct_S D B N E' t.heap; rw [ht]; exact hR'⟩, hS.F ht⟩) hS.2.2 hd hlk
theorem ct_end {a : Array Value} {st0 : List Value} {mc ms N' : Nat} (hr : va_Run p l e R s m args below meth c H locs cells slots mc ms (F0 m pc ls st0) rest (ct_Q D B N' E' a) (lm_A B)) (hS : va_S (lm_A B) s.heap H locs)
    (kk : ∀ (H1 : Heap) (locs1 : List Loc), ct_S D B N' E' H1 → va_S (lm_A B) s.heap H1 locs1 → W p l e R s m args below meth c H1 locs1 (cells + mc) (slots + ms) Q (F0 m (pc + 3) ls rest)) : W p l e R s m args below meth c H locs cells slots Q (F0 m pc ls st0) := by
  refine va_callv hr hS (fun _ _ h => h) (fun _ h => h) (fun u t H1 locs1 ht hvm hp hb hz hk hS1 => ?_)
  rw [ht] at hb
  exact kk H1 locs1 hb hS1
theorem ct_pre (hR : ct_S D B N E H) (hK : va_K D vwCl (tyl cI cZ cL cR) s) (hY : lm_Y s) (As : List Value) : ∀ U : State, U.heap = H → s.WarmedH U.vm → va_Pc As (ct_W D cI cZ cL cR B N E) As.toArray U := by
  intro U hU hW
  exact ⟨rfl, by rw [hU]; exact hR, va_K.moved hW.alike hK, hY.move hW⟩
variable {y : MethodName} {rm : Room} {Qc : Array Value → State → Outcome → State → Prop} {bytes : ByteArray} {maxL index mc ms : Nat} {lv : List (Nat × Value)} {x : Nat}
theorem ct_runN {host : String} (C0 : ct_Cx D cI cZ cL cR B p s m args meth c cc nL own) (hR : ct_S D B N E H) (hM : Met l y (Cond.code y bytes maxL none :: lw_u) rm (va_Pc [.ref (B + x)] (ct_W D cI cZ cL cR B N E)) Qc mc ms (lm_A B)) (hl2 : va_Nw (.methodLinkNest own index y host) s) (hq : Cond.instanceMethod y ∈ lw_u ∧ Cond.initialized y.cls ∈ lw_u ∧ Cond.code y bytes maxL none ∈ lw_u) (hy : y.name = "<init>") (hrc : rm.cells = mc) (hrs : rm.slots = ms) (hdd : y.cls ≠ "java/lang/invoke/MethodHandle" ∧ y.cls ≠ "java/lang/invoke/VarHandle" ∧ (parseMethodDescriptor y.desc).map (fun d => d.parameters.length) = some 0) (hRm : rm.frames + 1 ≤ R.frames ∧ 8 + (maxL + 11) + rm.locals ≤ R.locals) (hl : lv_has ls nL lv) (hW : (rest.map fun v => v.category).sum ≤ 8) (hd : decode cc pc = .ok (.invokespecial index, 3)) (hf : cells + mc ≤ R.cells ∧ slots + ms ≤ R.slots) :
    va_Run p l e R s m args below meth c H locs cells slots mc ms (F0 m pc ls (.ref (B + x) :: rest)) rest (Qc [Value.ref (B + x)].toArray) (lm_A B) := by
  obtain ⟨hx, hb, hml, hr, hlk, hown, hts, hK, hY, hin, hBs⟩ := C0
  exact va_runIN (As := []) ⟨hx, hb, hml, hown, hts⟩ hM ⟨va_cnB 0 hts (lw_G hq.2.2) rfl hrc hrs hl2 (hts _ hq.2.1) hdd hRm, hy, hts _ hq.1⟩ ⟨ct_blind, ct_pre hR hK hY _⟩ rfl rfl hl.1 rfl (lv_room hW) hd hf
theorem ct_runI (C0 : ct_Cx D cI cZ cL cR B p s m args meth c cc nL own) (hR : ct_S D B N E H) (hM : Met l y (Cond.code y bytes maxL none :: lw_u) rm (va_Pc [.ref (B + x)] (ct_W D cI cZ cL cR B N E)) Qc mc ms (lm_A B)) (hl2 : Cond.methodLink own index y ∈ lw_u) (hq : Cond.instanceMethod y ∈ lw_u ∧ Cond.initialized y.cls ∈ lw_u ∧ Cond.code y bytes maxL none ∈ lw_u) (hy : y.name = "<init>") (hrc : rm.cells = mc) (hrs : rm.slots = ms) (hdd : y.cls ≠ "java/lang/invoke/MethodHandle" ∧ y.cls ≠ "java/lang/invoke/VarHandle" ∧ (parseMethodDescriptor y.desc).map (fun d => d.parameters.length) = some 0) (hRm : rm.frames + 1 ≤ R.frames ∧ 8 + (maxL + 11) + rm.locals ≤ R.locals) (hl : lv_has ls nL lv) (hW : (rest.map fun v => v.category).sum ≤ 8) (hd : decode cc pc = .ok (.invokespecial index, 3)) (hf : cells + mc ≤ R.cells ∧ slots + ms ≤ R.slots) :
    va_Run p l e R s m args below meth c H locs cells slots mc ms (F0 m pc ls (.ref (B + x) :: rest)) rest (Qc [Value.ref (B + x)].toArray) (lm_A B) := by
  obtain ⟨hx, hb, hml, hr, hlk, hown, hts, hK, hY, hin, hBs⟩ := C0
  exact va_runI (As := []) ⟨hx, hb, hml, hown, hts⟩ hM (cwI 0 hts (lw_G hq.2.2) rfl hrc hrs (hts _ hq.2.1) (hts _ hl2) (hts _ hq.1) hy hdd hRm) ⟨ct_blind, ct_pre hR hK hY _⟩ rfl rfl hl.1 rfl (lv_room hW) hd hf
end CTB
end
section
/-! the constructors' contracts -/
theorem ct_ne {E : Nat → va_E} {x d : Nat} {e : va_E} (h : x ≠ d) : va_up E d e x = E x := if_neg h
theorem ct_eq {E : Nat → va_E} {d : Nat} {e : va_E} : va_up E d e d = e := if_pos rfl
abbrev ct_fL : va_E := e_obj 1 [.null, .null, .null, .int 0, .int 0, .int 0, .int 0, .int 0, .int 0]
abbrev ct_fR : va_E := e_obj 2 [.null, .int 0, .int 0, .int 0]
abbrev ct_fT : va_E := e_obj 3 [.null, .int 0, .int 0, .int 0, .int 0]
abbrev ct_fA : va_E := e_obj 0 [.null, .int 0, .int 0]
abbrev ct_fM : va_E := e_obj 4 [.null, .null, .null, .null, .null, .null, .null, .null, .int 0, .int 0, .int 0]
abbrev ct_z : Nat → Int32 := fun _ => 0
def ct_EL (cI : ClassId) (B : Nat) (E : Nat → va_E) (N c : Nat) : Nat → va_E := fun x => if x = c then e_obj 1 [.ref (B + N), .ref (B + (N + 1)), .ref (B + (N + 2)), .int 0, .int 0, .int 0, .int 0, .int 0, .int 0] else if N ≤ x then e_int cI 6 ct_z else E x
def ct_ER (cI : ClassId) (B : Nat) (E : Nat → va_E) (N c : Nat) : Nat → va_E := fun x => if x = c then e_obj 2 [.ref (B + N), .int 1, .int 0, .int 0] else if x = N then e_int cI 40 ct_z else E x
def ct_ET (cI : ClassId) (B : Nat) (E : Nat → va_E) (N c : Nat) : Nat → va_E := fun x => if x = c then e_obj 3 [.ref (B + N), .int 0, .int 0, .int 0, .int 0] else if x = N then e_int cI 120 ct_z else E x
def ct_EA (cI cL : ClassId) (B : Nat) (E : Nat → va_E) (N c k : Nat) : Nat → va_E := fun x => if x = c then e_obj 0 [.ref (B + N), .int 0, .int 0] else if x = N then e_ref cL 24 (fun i => if i < k then some (B + (N + 1 + 4 * i)) else none) else if N < x then (if (x - (N + 1)) % 4 = 0 then e_light B ct_z x else e_int cI 6 ct_z) else E x
abbrev rmX1_init : Room := { frames := 1, cells := 3, slots := 18, locals := 20 }
abbrev rmX2_init : Room := { frames := 1, cells := 1, slots := 40, locals := 20 }
abbrev rmX3_init : Room := { frames := 1, cells := 1, slots := 120, locals := 20 }
abbrev rmX0_init : Room := { frames := 2, cells := 97, slots := 672, locals := 60 }
abbrev rmX4_init : Room := { frames := 3, cells := 139, slots := 1364, locals := 120 }
abbrev rmX5_init : Room := { frames := 1, cells := 12, slots := 1202, locals := 60 }
theorem mi_X0 : Cond.instanceMethod yX0_init ∈ lw_u ∧ Cond.initialized yX0_init.cls ∈ lw_u ∧ Cond.code yX0_init cX0_init 2 none ∈ lw_u := ⟨uw_67, uw_4, uw_68⟩
theorem hi_X0 : yX0_init.cls ≠ "java/lang/invoke/MethodHandle" ∧ yX0_init.cls ≠ "java/lang/invoke/VarHandle" ∧ (parseMethodDescriptor yX0_init.desc).map (fun d => d.parameters.length) = some 0 := by decide +kernel
theorem mi_X1 : Cond.instanceMethod yX1_init ∈ lw_u ∧ Cond.initialized yX1_init.cls ∈ lw_u ∧ Cond.code yX1_init cX1_init 1 none ∈ lw_u := ⟨uw_35, uw_3, uw_36⟩
theorem hi_X1 : yX1_init.cls ≠ "java/lang/invoke/MethodHandle" ∧ yX1_init.cls ≠ "java/lang/invoke/VarHandle" ∧ (parseMethodDescriptor yX1_init.desc).map (fun d => d.parameters.length) = some 0 := by decide +kernel
theorem mi_X2 : Cond.instanceMethod yX2_init ∈ lw_u ∧ Cond.initialized yX2_init.cls ∈ lw_u ∧ Cond.code yX2_init cX2_init 1 none ∈ lw_u := ⟨uw_76, uw_5, uw_77⟩
theorem hi_X2 : yX2_init.cls ≠ "java/lang/invoke/MethodHandle" ∧ yX2_init.cls ≠ "java/lang/invoke/VarHandle" ∧ (parseMethodDescriptor yX2_init.desc).map (fun d => d.parameters.length) = some 0 := by decide +kernel
theorem mi_X3 : Cond.instanceMethod yX3_init ∈ lw_u ∧ Cond.initialized yX3_init.cls ∈ lw_u ∧ Cond.code yX3_init cX3_init 1 none ∈ lw_u := ⟨uw_21, uw_2, uw_22⟩
theorem hi_X3 : yX3_init.cls ≠ "java/lang/invoke/MethodHandle" ∧ yX3_init.cls ≠ "java/lang/invoke/VarHandle" ∧ (parseMethodDescriptor yX3_init.desc).map (fun d => d.parameters.length) = some 0 := by decide +kernel
theorem mi_X4 : Cond.instanceMethod yX4_init ∈ lw_u ∧ Cond.initialized yX4_init.cls ∈ lw_u ∧ Cond.code yX4_init cX4_init 2 none ∈ lw_u := ⟨uw_13, uw_1, uw_14⟩
theorem hi_X4 : yX4_init.cls ≠ "java/lang/invoke/MethodHandle" ∧ yX4_init.cls ≠ "java/lang/invoke/VarHandle" ∧ (parseMethodDescriptor yX4_init.desc).map (fun d => d.parameters.length) = some 0 := by decide +kernel
theorem mi_X5 : Cond.instanceMethod yX5_init ∈ lw_u ∧ Cond.initialized yX5_init.cls ∈ lw_u ∧ Cond.code yX5_init cX5_init 1 none ∈ lw_u := ⟨uw_505, uw_6, uw_506⟩
theorem hi_X5 : yX5_init.cls ≠ "java/lang/invoke/MethodHandle" ∧ yX5_init.cls ≠ "java/lang/invoke/VarHandle" ∧ (parseMethodDescriptor yX5_init.desc).map (fun d => d.parameters.length) = some 0 := by decide +kernel
section
variable {l : Launch} {D : va_G} {cI cZ cL cR : ClassId} {B : Nat} {E : Nat → va_E}
set_option maxRecDepth 100000 in
set_option maxHeartbeats 4000000 in
theorem k_X1_init {N c : Nat} (hc : c < N) (he : E c = ct_fL) : ct_C l yX1_init (Cond.code yX1_init cX1_init 1 none :: lw_u) rmX1_init D cI cZ cL cR B [.ref (B + c)] N E (N + 3) (ct_EL cI B E N c) 3 18 := by
  refine ct_of (cc := cX1_init) (maxL := 1) (own := RX1) (by decide) rfl rfl (Nat.le_of_ble_eq_true rfl) (fun p e s m below meth c0 C0 hR ls hl => ?_)
  have hS : va_S (lm_A B) s.heap s.heap [] := va_S.rf
  have hl : lv_has ls 1 [(0, .ref (B + c))] := hl
  obtain ⟨hx, hb, hml, hr, hlk, hown, hts, hK, hY, hin, hBs⟩ := id C0
  refine lv_aload_n hx hb dX1_init_0 rfl (lv_at hl 0 rfl) ?_
  refine ct_obj C0 hl uw_37 dX1_init_1 (Nat.le_of_ble_eq_true rfl) (Nat.le_of_ble_eq_true rfl) ?_
  refine lv_aload_n hx hb dX1_init_4 rfl (lv_at hl 0 rfl) ?_
  refine lv_bipush (v := 6) hx hb dX1_init_5 (by decide) ?_
  refine ct_newi C0 hR hS (n := 6) (by decide) rfl (by decide) (Nat.le_of_ble_eq_true rfl) (Nat.le_of_ble_eq_true rfl) dX1_init_7 (fun H hR hS => ?_)
  refine ct_putF C0 hR hS (x := c) (by omega) ((ct_ne (by omega)).trans he) rfl lw_in_X1 tyX1 tyX1_ok nmX1 0 (by decide) uw_38 rfl rfl rfl rfl rfl rfl (Nat.le_of_ble_eq_true rfl) dX1_init_9 (fun H locs hR hS => ?_)
  refine lv_aload_n hx hb dX1_init_12 rfl (lv_at hl 0 rfl) ?_
  refine lv_bipush (v := 6) hx hb dX1_init_13 (by decide) ?_
  refine ct_newi C0 hR hS (n := 6) (by decide) rfl (by decide) (Nat.le_of_ble_eq_true rfl) (Nat.le_of_ble_eq_true rfl) dX1_init_15 (fun H hR hS => ?_)
  refine ct_putF C0 hR hS (x := c) (by omega) ((ct_ne (by omega)).trans ct_eq) rfl lw_in_X1 tyX1 tyX1_ok nmX1 1 (by decide) uw_41 rfl rfl rfl rfl rfl rfl (Nat.le_of_ble_eq_true rfl) dX1_init_17 (fun H locs hR hS => ?_)
  refine lv_aload_n hx hb dX1_init_20 rfl (lv_at hl 0 rfl) ?_
  refine lv_bipush (v := 6) hx hb dX1_init_21 (by decide) ?_
  refine ct_newi C0 hR hS (n := 6) (by decide) rfl (by decide) (Nat.le_of_ble_eq_true rfl) (Nat.le_of_ble_eq_true rfl) dX1_init_23 (fun H hR hS => ?_)
  refine ct_putF C0 hR hS (x := c) (by omega) ((ct_ne (by omega)).trans ct_eq) rfl lw_in_X1 tyX1 tyX1_ok nmX1 2 (by decide) uw_44 rfl rfl rfl rfl rfl rfl (Nat.le_of_ble_eq_true rfl) dX1_init_25 (fun H locs hR hS => ?_)
  refine ct_ret C0 hR hS (fun x hx => ?_) dX1_init_28
  unfold ct_EL
  by_cases h1 : x = c
  · subst h1
    simp [va_up]
  · by_cases h2 : N ≤ x
    · rcases (show x = N ∨ x = N + 1 ∨ x = N + 2 by omega) with rfl | rfl | rfl <;> simp [va_up, h1]
    · simp [va_up, h1, h2, show x ≠ N by omega, show x ≠ N + 1 by omega, show x ≠ N + 2 by omega]
set_option maxRecDepth 100000 in
set_option maxHeartbeats 4000000 in
theorem k_X2_init {N c : Nat} (hc : c < N) (he : E c = ct_fR) : ct_C l yX2_init (Cond.code yX2_init cX2_init 1 none :: lw_u) rmX2_init D cI cZ cL cR B [.ref (B + c)] N E (N + 1) (ct_ER cI B E N c) 1 40 := by
  refine ct_of (cc := cX2_init) (maxL := 1) (own := RX2) (by decide) rfl rfl (Nat.le_of_ble_eq_true rfl) (fun p e s m below meth c0 C0 hR ls hl => ?_)
  have hS : va_S (lm_A B) s.heap s.heap [] := va_S.rf
  have hl : lv_has ls 1 [(0, .ref (B + c))] := hl
  obtain ⟨hx, hb, hml, hr, hlk, hown, hts, hK, hY, hin, hBs⟩ := id C0
  refine lv_aload_n hx hb dX2_init_0 rfl (lv_at hl 0 rfl) ?_
  refine ct_obj C0 hl uw_78 dX2_init_1 (Nat.le_of_ble_eq_true rfl) (Nat.le_of_ble_eq_true rfl) ?_
  refine lv_aload_n hx hb dX2_init_4 rfl (lv_at hl 0 rfl) ?_
  refine lv_bipush (v := 40) hx hb dX2_init_5 (by decide) ?_
  refine ct_newi C0 hR hS (n := 40) (by decide) rfl (by decide) (Nat.le_of_ble_eq_true rfl) (Nat.le_of_ble_eq_true rfl) dX2_init_7 (fun H hR hS => ?_)
  refine ct_putF C0 hR hS (x := c) (by omega) ((ct_ne (by omega)).trans he) rfl lw_in_X2 tyX2 tyX2_ok nmX2 0 (by decide) uw_79 rfl rfl rfl rfl rfl rfl (Nat.le_of_ble_eq_true rfl) dX2_init_9 (fun H locs hR hS => ?_)
  refine lv_aload_n hx hb dX2_init_12 rfl (lv_at hl 0 rfl) ?_
  refine lv_iconst (v := 1) hx hb dX2_init_13 (by decide) ?_
  refine ct_put C0 hR hS (x := c) (by omega) ct_eq rfl lw_in_X2 tyX2 tyX2_ok nmX2 1 (by decide) uw_81 rfl rfl rfl rfl rfl (Nat.le_of_ble_eq_true rfl) dX2_init_14 (fun H locs hR hS => ?_)
  refine ct_ret C0 hR hS (fun x hx => ?_) dX2_init_17
  unfold ct_ER
  by_cases h1 : x = c
  · subst h1
    simp [va_up]
  · by_cases h2 : x = N
    · subst h2
      simp [va_up, h1]
    · simp [va_up, h1, h2]
set_option maxRecDepth 100000 in
set_option maxHeartbeats 4000000 in
theorem k_X3_init {N c : Nat} (hc : c < N) (he : E c = ct_fT) : ct_C l yX3_init (Cond.code yX3_init cX3_init 1 none :: lw_u) rmX3_init D cI cZ cL cR B [.ref (B + c)] N E (N + 1) (ct_ET cI B E N c) 1 120 := by
  refine ct_of (cc := cX3_init) (maxL := 1) (own := RX3) (by decide) rfl rfl (Nat.le_of_ble_eq_true rfl) (fun p e s m below meth c0 C0 hR ls hl => ?_)
  have hS : va_S (lm_A B) s.heap s.heap [] := va_S.rf
  have hl : lv_has ls 1 [(0, .ref (B + c))] := hl
  obtain ⟨hx, hb, hml, hr, hlk, hown, hts, hK, hY, hin, hBs⟩ := id C0
  refine lv_aload_n hx hb dX3_init_0 rfl (lv_at hl 0 rfl) ?_
  refine ct_obj C0 hl uw_23 dX3_init_1 (Nat.le_of_ble_eq_true rfl) (Nat.le_of_ble_eq_true rfl) ?_
  refine lv_aload_n hx hb dX3_init_4 rfl (lv_at hl 0 rfl) ?_
  refine lv_bipush (v := 120) hx hb dX3_init_5 (by decide) ?_
  refine ct_newi C0 hR hS (n := 120) (by decide) rfl (by decide) (Nat.le_of_ble_eq_true rfl) (Nat.le_of_ble_eq_true rfl) dX3_init_7 (fun H hR hS => ?_)
  refine ct_putF C0 hR hS (x := c) (by omega) ((ct_ne (by omega)).trans he) rfl lw_in_X3 tyX3 tyX3_ok nmX3 0 (by decide) uw_24 rfl rfl rfl rfl rfl rfl (Nat.le_of_ble_eq_true rfl) dX3_init_9 (fun H locs hR hS => ?_)
  refine ct_ret C0 hR hS (fun x hx => ?_) dX3_init_12
  unfold ct_ET
  by_cases h1 : x = c
  · subst h1
    simp [va_up]
  · by_cases h2 : x = N
    · subst h2
      simp [va_up, h1]
    · simp [va_up, h1, h2]
set_option maxRecDepth 100000 in
set_option maxHeartbeats 4000000 in
theorem k_X0_loop {N a : Nat} (ha : a < N) {p : Program} {e : Env} {s : State} {m : MethodId} {args : Array Value} {below : List Frame} {meth : Method} {c0 : Code} (C0 : ct_Cx D cI cZ cL cR B p s m args meth c0 cX0_init 2 RX0) : ∀ (n k : Nat), k + n = 24 → ∀ (H : Heap) (locs : List Loc) (ls : Array Slot), ct_S D B (N + 1 + 4 * k) (ct_EA cI cL B E N a k) H → va_S (lm_A B) s.heap H locs → lv_has ls 2 [(0, .ref (B + a)), (1, .int (nI k))] → W p l e rmX0_init s m args below meth c0 H locs (1 + 4 * k) (24 + 27 * k) (MQ below (ct_Q D B (N + 97) (ct_EA cI cL B E N a 24)) args s 97 672 (lm_A B)) (F0 m 15 ls []) := by
  obtain ⟨hx, hb, hml, hr, hlk, hown, hts, hK, hY, hin, hBs⟩ := id C0
  intro n
  induction n with
  | zero =>
    intro k hk H locs ls hR hS hl
    obtain rfl : k = 24 := by omega
    refine lv_iload_n hx hb dX0_init_15 rfl (lv_at hl 1 rfl) ?_
    refine lv_bipush (v := 24) hx hb dX0_init_16 (by decide) ?_
    refine lv_icmp_ge (tgt := 40) hx hb dX0_init_18 (by decide) (fun b1 => ?_) (fun b1 => absurd (show (24 : Int32) ≤ nI 24 by decide) b1)
    exact ct_ret C0 hR hS (fun _ _ => rfl) dX0_init_40
  | succ n ih =>
    intro k hk H locs ls hR hS hl
    have hk24 : k < 24 := by omega
    have hki : lm_in (nI k) 24 = true := by
      refine decide_eq_true ?_
      exact nI_in hk24 (by decide)
    have hkc : (nI k).toNatClampNeg = k := nI_clamp (by omega)
    refine lv_iload_n hx hb dX0_init_15 rfl (lv_at hl 1 rfl) ?_
    refine lv_bipush (v := 24) hx hb dX0_init_16 (by decide) ?_
    refine lv_icmp_ge (tgt := 40) hx hb dX0_init_18 (by decide) (fun b1 => absurd b1 (nI_ge (b := 24) hk24 (by decide))) (fun b1 => ?_)
    refine lv_aload_n hx hb dX0_init_21 rfl (lv_at hl 0 rfl) ?_
    refine ct_get C0 hR (x := a) (by omega) (show ct_EA cI cL B E N a k a = .inr (0, [.ref (B + N), .int 0, .int 0]) by simp [ct_EA]) rfl lw_in_X0 0 (by decide) uw_71 rfl rfl dX0_init_22 ?_
    refine lv_iload_n hx hb dX0_init_25 rfl (lv_at hl 1 rfl) ?_
    refine ct_new C0 hR hS (ci := 1) (fs := [.null, .null, .null, .int 0, .int 0, .int 0, .int 0, .int 0, .int 0]) lw_in_X1 tyX1 tyX1_ok uw_70 uw_34 uw_3 rfl (fun j hj => by rcases (show j = 0 ∨ j = 1 ∨ j = 2 ∨ j = 3 ∨ j = 4 ∨ j = 5 ∨ j = 6 ∨ j = 7 ∨ j = 8 by omega) with rfl | rfl | rfl | rfl | rfl | rfl | rfl | rfl | rfl <;> rfl) (by show 1 + 4 * k + 1 ≤ 97; omega) (by show 24 + 27 * k + 9 ≤ 672; omega) dX0_init_26 (fun H hR hS => ?_)
    refine lv_dup hx hb dX0_init_29 rfl ?_
    refine ct_end (ct_runN C0 hR (k_X1_init (by omega) ct_eq) hY.2.2.1 mi_X1 rfl rfl rfl hi_X1 ⟨(Nat.le_of_ble_eq_true rfl), (Nat.le_of_ble_eq_true rfl)⟩ hl (Nat.le_of_ble_eq_true rfl) dX0_init_30 ⟨by show 1 + 4 * k + 1 + 3 ≤ 97; omega, by show 24 + 27 * k + 9 + 18 ≤ 672; omega⟩) hS (fun H locs hR hS => ?_)
    refine ct_ast C0 hR hS (x := N) (y := N + 1 + 4 * k) (t0 := 2) (r := (RX1, TX1, 9)) (ci := 1) (n := 24) (f := fun i => if i < k then some (B + (N + 1 + 4 * i)) else none) (by omega) ?_ rfl (by omega) (vs := [.ref (B + (N + 1 + 4 * k + 1)), .ref (B + (N + 1 + 4 * k + 1 + 1)), .ref (B + (N + 1 + 4 * k + 1 + 2)), .int 0, .int 0, .int 0, .int 0, .int 0, .int 0]) ?_ rfl hki dX0_init_33 (fun H locs hR hS => ?_)
    · simp [ct_EL, va_up, ct_EA, show N ≠ N + 1 + 4 * k by omega, show ¬ (N + 1 + 4 * k + 1 ≤ N) by omega, show N ≠ a by omega]
    · simp [ct_EL]
    refine lv_iinc (v := nI (k + 1)) (lv' := [(1, .int (nI (k + 1))), (0, .ref (B + a))]) hx hb dX0_init_34 hl (k := 1) rfl (nI_1 k) (by decide) rfl (fun ls hl => ?_)
    refine lv_goto (tgt := 15) hx hb dX0_init_37 (by decide) ?_
    refine W.widen (k := 1 + 4 * (k + 1)) (n := 24 + 27 * (k + 1)) (by omega) (by omega) ?_
    refine ih (k + 1) (by omega) H locs ls ⟨?_, by rw [hR.2]; omega⟩ hS (lv_sub hl [1, 0] rfl)
    have hw := hR.1
    rw [hkc, show N + 1 + 4 * k + 1 + 3 = N + 1 + 4 * (k + 1) by omega] at hw
    rw [wF_congr (E' := ct_EA cI cL B E N a (k + 1)) (fun x hx => ?_)] at hw
    · exact hw
    · by_cases h1 : x = a
      · subst h1
        simp [va_up, ct_EL, ct_EA, show x ≠ N by omega, show x ≠ N + 1 + 4 * k by omega, show ¬ (N + 1 + 4 * k + 1 ≤ x) by omega]
      · by_cases h2 : x = N
        · subst h2
          have : (va_up (fun i => if i < k then some (B + (x + 1 + 4 * i)) else none) k (some (B + (x + 1 + 4 * k)))) = (fun i => if i < k + 1 then some (B + (x + 1 + 4 * i)) else none) := by
            funext i
            unfold va_up
            by_cases hi : i = k
            · subst hi
              simp
            · simp only [hi, if_false]
              by_cases hi2 : i < k
              · simp [hi2, show i < k + 1 by omega]
              · simp [hi2, show ¬ i < k + 1 by omega]
          simp [va_up, ct_EA, h1] at this ⊢
          exact this
        · by_cases h3 : x = N + 1 + 4 * k
          · subst h3
            have h4 : (N + 1 + 4 * k - (N + 1)) % 4 = 0 := by omega
            simp only [va_up, ct_EL, ct_EA, h1, h2, if_false, if_true, h4, show N < N + 1 + 4 * k by omega]
            rfl
          · by_cases h4 : N + 1 + 4 * k + 1 ≤ x
            · have h5 : ¬ (x - (N + 1)) % 4 = 0 := by omega
              simp [va_up, ct_EL, ct_EA, h1, h2, h3, h4, h5, show N < x by omega]
            · simp [va_up, ct_EL, ct_EA, h1, h2, h3, h4]
set_option maxRecDepth 100000 in
set_option maxHeartbeats 4000000 in
theorem k_X0_init {N c : Nat} (hc : c < N) (he : E c = ct_fA) : ct_C l yX0_init (Cond.code yX0_init cX0_init 2 none :: lw_u) rmX0_init D cI cZ cL cR B [.ref (B + c)] N E (N + 97) (ct_EA cI cL B E N c 24) 97 672 := by
  refine ct_of (cc := cX0_init) (maxL := 2) (own := RX0) (by decide) rfl rfl (Nat.le_of_ble_eq_true rfl) (fun p e s m below meth c0 C0 hR ls hl => ?_)
  have hS : va_S (lm_A B) s.heap s.heap [] := va_S.rf
  have hl : lv_has ls 2 [(0, .ref (B + c))] := hl
  obtain ⟨hx, hb, hml, hr, hlk, hown, hts, hK, hY, hin, hBs⟩ := id C0
  refine lv_aload_n hx hb dX0_init_0 rfl (lv_at hl 0 rfl) ?_
  refine ct_obj C0 hl uw_69 dX0_init_1 (Nat.le_of_ble_eq_true rfl) (Nat.le_of_ble_eq_true rfl) ?_
  refine lv_aload_n hx hb dX0_init_4 rfl (lv_at hl 0 rfl) ?_
  refine lv_bipush (v := 24) hx hb dX0_init_5 (by decide) ?_
  refine ct_newq C0 hR hS (t0 := 2) (n := 24) uw_70 hY.2.2.2.2.1 rfl (by decide) rfl (by decide) (Nat.le_of_ble_eq_true rfl) (Nat.le_of_ble_eq_true rfl) dX0_init_7 (fun H hR hS => ?_)
  refine ct_putF C0 hR hS (x := c) (by omega) ((ct_ne (by omega)).trans he) rfl lw_in_X0 tyX0 tyX0_ok nmX0 0 (by decide) uw_71 rfl rfl rfl rfl rfl rfl (Nat.le_of_ble_eq_true rfl) dX0_init_10 (fun H locs hR hS => ?_)
  refine lv_iconst (v := 0) hx hb dX0_init_13 (by decide) ?_
  refine lv_istore_n (lv' := [(1, .int (nI 0)), (0, .ref (B + c))]) hx hb dX0_init_14 rfl hl (by decide) rfl (fun ls hl => ?_)
  refine k_X0_loop (E := E) hc C0 24 0 rfl H locs ls ⟨?_, by rw [hR.2]⟩ hS (lv_sub hl [1, 0] rfl)
  have hw := hR.1
  rw [wF_congr (E' := ct_EA cI cL B E N c 0) (fun x hx => ?_)] at hw
  · exact hw
  · by_cases h1 : x = c
    · subst h1
      simp [va_up, ct_EA]
    · by_cases h2 : x = N
      · subst h2
        simp [va_up, ct_EA, h1]
      · simp [va_up, ct_EA, h1, h2, show ¬ N < x by omega]
end
end
section
/-! the constructors of the class and of the reference -/
abbrev rmX4_in : Room := { frames := 3, cells := 139, slots := 1313, locals := 160 }
abbrev rmX5_in : Room := { frames := 1, cells := 12, slots := 1186, locals := 60 }
theorem ct_EL_ne {cI : ClassId} {B N c x : Nat} {E : Nat → va_E} (h1 : x ≠ c) (h2 : ¬ N ≤ x) : ct_EL cI B E N c x = E x := by simp [ct_EL, h1, h2]
theorem ct_ET_ne {cI : ClassId} {B N c x : Nat} {E : Nat → va_E} (h1 : x ≠ c) (h2 : x ≠ N) : ct_ET cI B E N c x = E x := by simp [ct_ET, h1, h2]
theorem ct_EA_ne {cI cL : ClassId} {B N c x k : Nat} {E : Nat → va_E} (h1 : x ≠ c) (h2 : ¬ N ≤ x) : ct_EA cI cL B E N c k x = E x := by simp [ct_EA, h1, show x ≠ N by omega, show ¬ N < x by omega]
def ct_s0 : Mem := fun c k => if 116 ≤ c ∧ c < 132 ∧ c % 2 = 0 ∧ k = 1 then 1 else 0
theorem ct_s0z {c : Nat} (h : ¬ isR c) : ct_s0 c = ct_z := by
  funext k
  unfold ct_s0
  rw [if_neg]
  intro q
  exact h ⟨q.1, q.2.1, q.2.2.1⟩
def ct_EM (cI cZ cL cR : ClassId) (B : Nat) (τ : Mem) (r j : Nat) : Nat → va_E := fun x => if x = 1 then e_ref cR 8 (fun i => if i < r then some (B + (116 + 2 * i)) else none) else if x = 114 then e_ref cL 2 (fun i => if i < j then some (B + (132 + 4 * i)) else none) else if x = 17 then e_ref cL 24 (fun i => if i < 24 then some (B + (18 + 4 * i)) else none) else cellA cI cZ cL cR B ct_s0 τ x
section
variable {l : Launch} {D : va_G} {cI cZ cL cR : ClassId} {B : Nat} {E : Nat → va_E} {τ : Mem}
set_option maxRecDepth 100000 in
set_option maxHeartbeats 4000000 in
theorem k_X4_loop2 {p : Program} {e : Env} {s : State} {m : MethodId} {args : Array Value} {below : List Frame} {meth : Method} {c0 : Code} (C0 : ct_Cx D cI cZ cL cR B p s m args meth c0 cX4_init 2 RX4) : ∀ (n k : Nat), k + n = 2 → ∀ (H : Heap) (locs : List Loc) (ls : Array Slot), ct_S D B (132 + 4 * k) (ct_EM cI cZ cL cR B τ 8 k) H → va_S (lm_A B) s.heap H locs → lv_has ls 2 [(0, .ref (B + 0)), (1, .int (nI k))] → W p l e rmX4_in s m args below meth c0 H locs (131 + 4 * k) (1259 + 27 * k) (MQ below (ct_Q D B 140 (ct_EM cI cZ cL cR B τ 8 2)) args s 139 1313 (lm_A B)) (F0 m 113 ls []) := by
  obtain ⟨hx, hb, hml, hr, hlk, hown, hts, hK, hY, hin, hBs⟩ := id C0
  intro n
  induction n with
  | zero =>
    intro k hk H locs ls hR hS hl
    obtain rfl : k = 2 := by omega
    refine lv_iload_n hx hb dX4_init_113 rfl (lv_at hl 1 rfl) ?_
    refine lv_iconst (v := 2) hx hb dX4_init_114 (by decide) ?_
    refine lv_icmp_ge (tgt := 137) hx hb dX4_init_115 (by decide) (fun b1 => ?_) (fun b1 => absurd (show (2 : Int32) ≤ nI 2 by decide) b1)
    exact ct_ret C0 hR hS (fun _ _ => rfl) dX4_init_137
  | succ n ih =>
    intro k hk H locs ls hR hS hl
    have hk24 : k < 2 := by omega
    have hki : lm_in (nI k) 2 = true := by
      refine decide_eq_true ?_
      exact nI_in hk24 (by decide)
    have hkc : (nI k).toNatClampNeg = k := nI_clamp (by omega)
    refine lv_iload_n hx hb dX4_init_113 rfl (lv_at hl 1 rfl) ?_
    refine lv_iconst (v := 2) hx hb dX4_init_114 (by decide) ?_
    refine lv_icmp_ge (tgt := 137) hx hb dX4_init_115 (by decide) (fun b1 => absurd b1 (nI_ge (b := 2) hk24 (by decide))) (fun b1 => ?_)
    refine lv_aload_n hx hb dX4_init_118 rfl (lv_at hl 0 rfl) ?_
    refine ct_get C0 hR (x := 0) (by omega) (show ct_EM cI cZ cL cR B τ 8 k 0 = e_obj 4 [.ref (B + 1), .ref (B + 2), .ref (B + 4), .ref (B + 8), .ref (B + 12), .ref (B + 16), .ref (B + 114), .ref (B + 115), .int (ct_s0 0 8), .int (ct_s0 0 9), .int (ct_s0 0 10)] from rfl) rfl lw_in_X4 6 (by decide) uw_93 rfl rfl dX4_init_119 ?_
    refine lv_iload_n hx hb dX4_init_122 rfl (lv_at hl 1 rfl) ?_
    refine ct_new C0 hR hS (ci := 1) (fs := [.null, .null, .null, .int 0, .int 0, .int 0, .int 0, .int 0, .int 0]) lw_in_X1 tyX1 tyX1_ok uw_33 uw_34 uw_3 rfl (fun j hj => by rcases (show j = 0 ∨ j = 1 ∨ j = 2 ∨ j = 3 ∨ j = 4 ∨ j = 5 ∨ j = 6 ∨ j = 7 ∨ j = 8 by omega) with rfl | rfl | rfl | rfl | rfl | rfl | rfl | rfl | rfl <;> rfl) (by show 131 + 4 * k + 1 ≤ 139; omega) (by show 1259 + 27 * k + 9 ≤ 1313; omega) dX4_init_123 (fun H hR hS => ?_)
    refine lv_dup hx hb dX4_init_126 rfl ?_
    refine ct_end (ct_runN C0 hR (k_X1_init (by omega) ct_eq) hY.2.1 mi_X1 rfl rfl rfl hi_X1 ⟨(Nat.le_of_ble_eq_true rfl), (Nat.le_of_ble_eq_true rfl)⟩ hl (Nat.le_of_ble_eq_true rfl) dX4_init_127 ⟨by show 131 + 4 * k + 1 + 3 ≤ 139; omega, by show 1259 + 27 * k + 9 + 18 ≤ 1313; omega⟩) hS (fun H locs hR hS => ?_)
    refine ct_ast C0 hR hS (x := 114) (y := 132 + 4 * k) (t0 := 2) (r := (RX1, TX1, 9)) (ci := 1) (n := 2) (f := fun i => if i < k then some (B + (132 + 4 * i)) else none) (by omega) ?_ rfl (by omega) (vs := [.ref (B + (132 + 4 * k + 1)), .ref (B + (132 + 4 * k + 1 + 1)), .ref (B + (132 + 4 * k + 1 + 2)), .int 0, .int 0, .int 0, .int 0, .int 0, .int 0]) ?_ rfl hki dX4_init_130 (fun H locs hR hS => ?_)
    · simp [ct_EL, va_up, ct_EM, show 114 ≠ 132 + 4 * k by omega, show ¬ (132 + 4 * k + 1 ≤ 114) by omega]
    · simp [ct_EL]
    refine lv_iinc (v := nI (k + 1)) (lv' := [(1, .int (nI (k + 1))), (0, .ref (B + 0))]) hx hb dX4_init_131 hl (k := 1) rfl (nI_1 k) (by decide) rfl (fun ls hl => ?_)
    refine lv_goto (tgt := 113) hx hb dX4_init_134 (by decide) ?_
    refine W.widen (k := 131 + 4 * (k + 1)) (n := 1259 + 27 * (k + 1)) (by omega) (by omega) ?_
    refine ih (k + 1) (by omega) H locs ls ⟨?_, by rw [hR.2]; omega⟩ hS (lv_sub hl [1, 0] rfl)
    have hw := hR.1
    rw [hkc, show 132 + 4 * k + 1 + 3 = 132 + 4 * (k + 1) by omega] at hw
    rw [wF_congr (E' := ct_EM cI cZ cL cR B τ 8 (k + 1)) (fun x hx => ?_)] at hw
    · exact hw
    · have hfun : (va_up (fun i => if i < k then some (B + (132 + 4 * i)) else none) k (some (B + (132 + 4 * k)))) = (fun i => if i < k + 1 then some (B + (132 + 4 * i)) else none) := by
        funext i
        unfold va_up
        by_cases hi : i = k
        · subst hi
          simp
        · simp only [hi, if_false]
          by_cases hi2 : i < k
          · simp [hi2, show i < k + 1 by omega]
          · simp [hi2, show ¬ i < k + 1 by omega]
      by_cases h2 : x = 114
      · subst h2
        simp [va_up, ct_EM] at hfun ⊢
        exact hfun
      · by_cases h3 : x = 132 + 4 * k
        · subst h3
          have h4 : isL (132 + 4 * k) := by unfold isL; omega
          have h5 : ¬ isR (132 + 4 * k) := by unfold isR; omega
          simp only [va_up, ct_EL, ct_EM, h2, if_false, if_true, show ¬ (132 + 4 * k = 1) by omega, show ¬ (132 + 4 * k = 17) by omega]
          rw [cell_L h4, ct_s0z h5]
          rfl
        · by_cases h4 : 132 + 4 * k + 1 ≤ x
          · have h5 : ¬ isR x := by unfold isR; omega
            simp only [va_up, ct_EL, ct_EM, h2, h3, h4, if_false, if_true, show ¬ (x = 1) by omega, show ¬ (x = 17) by omega]
            rcases (show x = 132 + 4 * k + 1 ∨ x = 132 + 4 * k + 2 ∨ x = 132 + 4 * k + 3 by omega) with h6 | h6 | h6
            · subst h6
              rw [cell_L1 (by unfold isL; omega), ct_s0z h5]
            · subst h6
              rw [cell_L2 (by unfold isL; omega), ct_s0z h5]
            · subst h6
              rw [cell_L3 (by unfold isL; omega), ct_s0z h5]
          · simp [va_up, ct_EL, ct_EM, h2, h3, h4]
set_option maxRecDepth 100000 in
set_option maxHeartbeats 4000000 in
theorem k_X4_loop1 {p : Program} {e : Env} {s : State} {m : MethodId} {args : Array Value} {below : List Frame} {meth : Method} {c0 : Code} (C0 : ct_Cx D cI cZ cL cR B p s m args meth c0 cX4_init 2 RX4) : ∀ (n k : Nat), k + n = 8 → ∀ (H : Heap) (locs : List Loc) (ls : Array Slot), ct_S D B (116 + 2 * k) (ct_EM cI cZ cL cR B τ k 0) H → va_S (lm_A B) s.heap H locs → lv_has ls 2 [(0, .ref (B + 0)), (1, .int (nI k))] → W p l e rmX4_in s m args below meth c0 H locs (115 + 2 * k) (907 + 44 * k) (MQ below (ct_Q D B 140 (ct_EM cI cZ cL cR B τ 8 2)) args s 139 1313 (lm_A B)) (F0 m 86 ls []) := by
  obtain ⟨hx, hb, hml, hr, hlk, hown, hts, hK, hY, hin, hBs⟩ := id C0
  intro n
  induction n with
  | zero =>
    intro k hk H locs ls hR hS hl
    obtain rfl : k = 8 := by omega
    refine lv_iload_n hx hb dX4_init_86 rfl (lv_at hl 1 rfl) ?_
    refine lv_bipush (v := 8) hx hb dX4_init_87 (by decide) ?_
    refine lv_icmp_ge (tgt := 111) hx hb dX4_init_89 (by decide) (fun b1 => ?_) (fun b1 => absurd (show (8 : Int32) ≤ nI 8 by decide) b1)
    refine lv_iconst (v := 0) hx hb dX4_init_111 (by decide) ?_
    refine lv_istore_n (lv' := [(1, .int (nI 0)), (0, .ref (B + 0))]) hx hb dX4_init_112 rfl hl (by decide) rfl (fun ls hl => ?_)
    exact k_X4_loop2 C0 2 0 rfl H locs ls hR hS (lv_sub hl [1, 0] rfl)
  | succ n ih =>
    intro k hk H locs ls hR hS hl
    have hk24 : k < 8 := by omega
    have hki : lm_in (nI k) 8 = true := by
      refine decide_eq_true ?_
      exact nI_in hk24 (by decide)
    have hkc : (nI k).toNatClampNeg = k := nI_clamp (by omega)
    refine lv_iload_n hx hb dX4_init_86 rfl (lv_at hl 1 rfl) ?_
    refine lv_bipush (v := 8) hx hb dX4_init_87 (by decide) ?_
    refine lv_icmp_ge (tgt := 111) hx hb dX4_init_89 (by decide) (fun b1 => absurd b1 (nI_ge (b := 8) hk24 (by decide))) (fun b1 => ?_)
    refine lv_aload_n hx hb dX4_init_92 rfl (lv_at hl 0 rfl) ?_
    refine ct_get C0 hR (x := 0) (by omega) (show ct_EM cI cZ cL cR B τ k 0 0 = e_obj 4 [.ref (B + 1), .ref (B + 2), .ref (B + 4), .ref (B + 8), .ref (B + 12), .ref (B + 16), .ref (B + 114), .ref (B + 115), .int (ct_s0 0 8), .int (ct_s0 0 9), .int (ct_s0 0 10)] from rfl) rfl lw_in_X4 0 (by decide) uw_87 rfl rfl dX4_init_93 ?_
    refine lv_iload_n hx hb dX4_init_96 rfl (lv_at hl 1 rfl) ?_
    refine ct_new C0 hR hS (ci := 2) (fs := [.null, .int 0, .int 0, .int 0]) lw_in_X2 tyX2 tyX2_ok uw_18 uw_75 uw_5 rfl (fun j hj => by rcases (show j = 0 ∨ j = 1 ∨ j = 2 ∨ j = 3 by omega) with rfl | rfl | rfl | rfl <;> rfl) (by show 115 + 2 * k + 1 ≤ 139; omega) (by show 907 + 44 * k + 4 ≤ 1313; omega) dX4_init_97 (fun H hR hS => ?_)
    refine lv_dup hx hb dX4_init_100 rfl ?_
    refine ct_end (ct_runN C0 hR (k_X2_init (by omega) ct_eq) hY.2.2.2.1 mi_X2 rfl rfl rfl hi_X2 ⟨(Nat.le_of_ble_eq_true rfl), (Nat.le_of_ble_eq_true rfl)⟩ hl (Nat.le_of_ble_eq_true rfl) dX4_init_101 ⟨by show 115 + 2 * k + 1 + 1 ≤ 139; omega, by show 907 + 44 * k + 4 + 40 ≤ 1313; omega⟩) hS (fun H locs hR hS => ?_)
    refine ct_ast C0 hR hS (x := 1) (y := 116 + 2 * k) (t0 := 3) (r := (RX2, TX2, 4)) (ci := 2) (n := 8) (f := fun i => if i < k then some (B + (116 + 2 * i)) else none) (by omega) ?_ rfl (by omega) (vs := [.ref (B + (116 + 2 * k + 1)), .int 1, .int 0, .int 0]) ?_ rfl hki dX4_init_104 (fun H locs hR hS => ?_)
    · simp [ct_ER, va_up, ct_EM, show 1 ≠ 116 + 2 * k by omega, show 1 ≠ 116 + 2 * k + 1 by omega]
    · simp [ct_ER]
    refine lv_iinc (v := nI (k + 1)) (lv' := [(1, .int (nI (k + 1))), (0, .ref (B + 0))]) hx hb dX4_init_105 hl (k := 1) rfl (nI_1 k) (by decide) rfl (fun ls hl => ?_)
    refine lv_goto (tgt := 86) hx hb dX4_init_108 (by decide) ?_
    refine W.widen (k := 115 + 2 * (k + 1)) (n := 907 + 44 * (k + 1)) (by omega) (by omega) ?_
    refine ih (k + 1) (by omega) H locs ls ⟨?_, by rw [hR.2]; omega⟩ hS (lv_sub hl [1, 0] rfl)
    have hw := hR.1
    rw [hkc, show 116 + 2 * k + 1 + 1 = 116 + 2 * (k + 1) by omega] at hw
    rw [wF_congr (E' := ct_EM cI cZ cL cR B τ (k + 1) 0) (fun x hx => ?_)] at hw
    · exact hw
    · have hfun : (va_up (fun i => if i < k then some (B + (116 + 2 * i)) else none) k (some (B + (116 + 2 * k)))) = (fun i => if i < k + 1 then some (B + (116 + 2 * i)) else none) := by
        funext i
        unfold va_up
        by_cases hi : i = k
        · subst hi
          simp
        · simp only [hi, if_false]
          by_cases hi2 : i < k
          · simp [hi2, show i < k + 1 by omega]
          · simp [hi2, show ¬ i < k + 1 by omega]
      by_cases h2 : x = 1
      · subst h2
        simp [va_up, ct_EM] at hfun ⊢
        exact hfun
      · by_cases h3 : x = 116 + 2 * k
        · subst h3
          have h4 : isR (116 + 2 * k) := by unfold isR; omega
          simp only [va_up, ct_ER, ct_EM, h2, if_false, if_true, show ¬ (116 + 2 * k = 114) by omega, show ¬ (116 + 2 * k = 17) by omega]
          rw [cell_R h4]
          have h5 : ∀ j, ct_s0 (116 + 2 * k) j = if j = 1 then 1 else 0 := fun j => by
            unfold ct_s0
            by_cases hj : j = 1
            · rw [if_pos ⟨by omega, by omega, by omega, hj⟩, if_pos hj]
            · rw [if_neg (fun q => hj q.2.2.2), if_neg hj]
          unfold e_row
          rw [h5 1, h5 2, h5 3]
          rfl
        · by_cases h4 : x = 116 + 2 * k + 1
          · subst h4
            have h5 : ¬ isR (116 + 2 * k + 1) := by unfold isR; omega
            simp only [va_up, ct_ER, ct_EM, h2, h3, if_false, if_true, show ¬ (116 + 2 * k + 1 = 114) by omega, show ¬ (116 + 2 * k + 1 = 17) by omega]
            rw [cell_R1 (by unfold isR; omega), ct_s0z h5]
          · simp [va_up, ct_ER, ct_EM, h2, h3, h4]
set_option maxRecDepth 100000 in
set_option maxHeartbeats 4000000 in
theorem k_X4_init (he : E 0 = ct_fM) : ct_C l yX4_init (Cond.code yX4_init cX4_init 2 none :: lw_u) rmX4_in D cI cZ cL cR B [.ref (B + 0)] 1 E 140 (ct_EM cI cZ cL cR B τ 8 2) 139 1313 := by
  refine ct_of (cc := cX4_init) (maxL := 2) (own := RX4) (by decide) rfl rfl (Nat.le_of_ble_eq_true rfl) (fun p e s m below meth c0 C0 hR ls hl => ?_)
  have hS : va_S (lm_A B) s.heap s.heap [] := va_S.rf
  have hl : lv_has ls 2 [(0, .ref (B + 0))] := hl
  obtain ⟨hx, hb, hml, hr, hlk, hown, hts, hK, hY, hin, hBs⟩ := id C0
  refine lv_aload_n hx hb dX4_init_0 rfl (lv_at hl 0 rfl) ?_
  refine ct_obj C0 hl uw_15 dX4_init_1 (Nat.le_of_ble_eq_true rfl) (Nat.le_of_ble_eq_true rfl) ?_
  refine lv_aload_n hx hb dX4_init_4 rfl (lv_at hl 0 rfl) ?_
  refine lv_bipush (v := 8) hx hb dX4_init_5 (by decide) ?_
  refine ct_newq C0 hR hS (t0 := 3) (n := 8) uw_18 hY.2.2.2.2.2 rfl (by decide) rfl (by decide) (Nat.le_of_ble_eq_true rfl) (Nat.le_of_ble_eq_true rfl) dX4_init_7 (fun H hR hS => ?_)
  refine ct_putF C0 hR hS (x := 0) (by decide) ((ct_ne (by decide)).trans he) rfl lw_in_X4 tyX4 tyX4_ok nmX4 0 (by decide) uw_87 rfl rfl rfl rfl rfl rfl (Nat.le_of_ble_eq_true rfl) dX4_init_10 (fun H locs hR hS => ?_)
  refine lv_aload_n hx hb dX4_init_13 rfl (lv_at hl 0 rfl) ?_
  refine ct_new C0 hR hS (ci := 3) (fs := [.null, .int 0, .int 0, .int 0, .int 0]) lw_in_X3 tyX3 tyX3_ok uw_19 uw_20 uw_2 rfl (fun j hj => by rcases (show j = 0 ∨ j = 1 ∨ j = 2 ∨ j = 3 ∨ j = 4 by omega) with rfl | rfl | rfl | rfl | rfl <;> rfl) (Nat.le_of_ble_eq_true rfl) (Nat.le_of_ble_eq_true rfl) dX4_init_14 (fun H hR hS => ?_)
  refine lv_dup hx hb dX4_init_17 rfl ?_
  refine ct_end (ct_runN C0 hR (k_X3_init (by decide) ct_eq) hY.1 mi_X3 rfl rfl rfl hi_X3 ⟨(Nat.le_of_ble_eq_true rfl), (Nat.le_of_ble_eq_true rfl)⟩ hl (Nat.le_of_ble_eq_true rfl) dX4_init_18 ⟨(Nat.le_of_ble_eq_true rfl), (Nat.le_of_ble_eq_true rfl)⟩) hS (fun H locs hR hS => ?_)
  refine ct_putF C0 hR hS (x := 0) (by decide) ((ct_ET_ne (by decide) (by decide)).trans ((ct_ne (by decide)).trans ct_eq)) rfl lw_in_X4 tyX4 tyX4_ok nmX4 1 (by decide) uw_88 rfl rfl rfl rfl rfl rfl (Nat.le_of_ble_eq_true rfl) dX4_init_21 (fun H locs hR hS => ?_)
  refine lv_aload_n hx hb dX4_init_24 rfl (lv_at hl 0 rfl) ?_
  refine ct_new C0 hR hS (ci := 1) (fs := [.null, .null, .null, .int 0, .int 0, .int 0, .int 0, .int 0, .int 0]) lw_in_X1 tyX1 tyX1_ok uw_33 uw_34 uw_3 rfl (fun j hj => by rcases (show j = 0 ∨ j = 1 ∨ j = 2 ∨ j = 3 ∨ j = 4 ∨ j = 5 ∨ j = 6 ∨ j = 7 ∨ j = 8 by omega) with rfl | rfl | rfl | rfl | rfl | rfl | rfl | rfl | rfl <;> rfl) (Nat.le_of_ble_eq_true rfl) (Nat.le_of_ble_eq_true rfl) dX4_init_25 (fun H hR hS => ?_)
  refine lv_dup hx hb dX4_init_28 rfl ?_
  refine ct_end (ct_runN C0 hR (k_X1_init (by decide) ct_eq) hY.2.1 mi_X1 rfl rfl rfl hi_X1 ⟨(Nat.le_of_ble_eq_true rfl), (Nat.le_of_ble_eq_true rfl)⟩ hl (Nat.le_of_ble_eq_true rfl) dX4_init_29 ⟨(Nat.le_of_ble_eq_true rfl), (Nat.le_of_ble_eq_true rfl)⟩) hS (fun H locs hR hS => ?_)
  refine ct_putF C0 hR hS (x := 0) (by decide) ((ct_EL_ne (by decide) (by decide)).trans ((ct_ne (by decide)).trans ct_eq)) rfl lw_in_X4 tyX4 tyX4_ok nmX4 2 (by decide) uw_89 rfl rfl rfl rfl rfl rfl (Nat.le_of_ble_eq_true rfl) dX4_init_32 (fun H locs hR hS => ?_)
  refine lv_aload_n hx hb dX4_init_35 rfl (lv_at hl 0 rfl) ?_
  refine ct_new C0 hR hS (ci := 1) (fs := [.null, .null, .null, .int 0, .int 0, .int 0, .int 0, .int 0, .int 0]) lw_in_X1 tyX1 tyX1_ok uw_33 uw_34 uw_3 rfl (fun j hj => by rcases (show j = 0 ∨ j = 1 ∨ j = 2 ∨ j = 3 ∨ j = 4 ∨ j = 5 ∨ j = 6 ∨ j = 7 ∨ j = 8 by omega) with rfl | rfl | rfl | rfl | rfl | rfl | rfl | rfl | rfl <;> rfl) (Nat.le_of_ble_eq_true rfl) (Nat.le_of_ble_eq_true rfl) dX4_init_36 (fun H hR hS => ?_)
  refine lv_dup hx hb dX4_init_39 rfl ?_
  refine ct_end (ct_runN C0 hR (k_X1_init (by decide) ct_eq) hY.2.1 mi_X1 rfl rfl rfl hi_X1 ⟨(Nat.le_of_ble_eq_true rfl), (Nat.le_of_ble_eq_true rfl)⟩ hl (Nat.le_of_ble_eq_true rfl) dX4_init_40 ⟨(Nat.le_of_ble_eq_true rfl), (Nat.le_of_ble_eq_true rfl)⟩) hS (fun H locs hR hS => ?_)
  refine ct_putF C0 hR hS (x := 0) (by decide) ((ct_EL_ne (by decide) (by decide)).trans ((ct_ne (by decide)).trans ct_eq)) rfl lw_in_X4 tyX4 tyX4_ok nmX4 3 (by decide) uw_90 rfl rfl rfl rfl rfl rfl (Nat.le_of_ble_eq_true rfl) dX4_init_43 (fun H locs hR hS => ?_)
  refine lv_aload_n hx hb dX4_init_46 rfl (lv_at hl 0 rfl) ?_
  refine ct_new C0 hR hS (ci := 1) (fs := [.null, .null, .null, .int 0, .int 0, .int 0, .int 0, .int 0, .int 0]) lw_in_X1 tyX1 tyX1_ok uw_33 uw_34 uw_3 rfl (fun j hj => by rcases (show j = 0 ∨ j = 1 ∨ j = 2 ∨ j = 3 ∨ j = 4 ∨ j = 5 ∨ j = 6 ∨ j = 7 ∨ j = 8 by omega) with rfl | rfl | rfl | rfl | rfl | rfl | rfl | rfl | rfl <;> rfl) (Nat.le_of_ble_eq_true rfl) (Nat.le_of_ble_eq_true rfl) dX4_init_47 (fun H hR hS => ?_)
  refine lv_dup hx hb dX4_init_50 rfl ?_
  refine ct_end (ct_runN C0 hR (k_X1_init (by decide) ct_eq) hY.2.1 mi_X1 rfl rfl rfl hi_X1 ⟨(Nat.le_of_ble_eq_true rfl), (Nat.le_of_ble_eq_true rfl)⟩ hl (Nat.le_of_ble_eq_true rfl) dX4_init_51 ⟨(Nat.le_of_ble_eq_true rfl), (Nat.le_of_ble_eq_true rfl)⟩) hS (fun H locs hR hS => ?_)
  refine ct_putF C0 hR hS (x := 0) (by decide) ((ct_EL_ne (by decide) (by decide)).trans ((ct_ne (by decide)).trans ct_eq)) rfl lw_in_X4 tyX4 tyX4_ok nmX4 4 (by decide) uw_91 rfl rfl rfl rfl rfl rfl (Nat.le_of_ble_eq_true rfl) dX4_init_54 (fun H locs hR hS => ?_)
  refine lv_aload_n hx hb dX4_init_57 rfl (lv_at hl 0 rfl) ?_
  refine ct_new C0 hR hS (ci := 0) (fs := [.null, .int 0, .int 0]) lw_in_X0 tyX0 tyX0_ok uw_64 uw_65 uw_4 rfl (fun j hj => by rcases (show j = 0 ∨ j = 1 ∨ j = 2 by omega) with rfl | rfl | rfl <;> rfl) (Nat.le_of_ble_eq_true rfl) (Nat.le_of_ble_eq_true rfl) dX4_init_58 (fun H hR hS => ?_)
  refine lv_dup hx hb dX4_init_61 rfl ?_
  refine ct_end (ct_runI C0 hR (k_X0_init (by decide) ct_eq) uw_66 mi_X0 rfl rfl rfl hi_X0 ⟨(Nat.le_of_ble_eq_true rfl), (Nat.le_of_ble_eq_true rfl)⟩ hl (Nat.le_of_ble_eq_true rfl) dX4_init_62 ⟨(Nat.le_of_ble_eq_true rfl), (Nat.le_of_ble_eq_true rfl)⟩) hS (fun H locs hR hS => ?_)
  refine ct_putF C0 hR hS (x := 0) (by decide) ((ct_EA_ne (by decide) (by decide)).trans ((ct_ne (by decide)).trans ct_eq)) rfl lw_in_X4 tyX4 tyX4_ok nmX4 5 (by decide) uw_92 rfl rfl rfl rfl rfl rfl (Nat.le_of_ble_eq_true rfl) dX4_init_65 (fun H locs hR hS => ?_)
  refine lv_aload_n hx hb dX4_init_68 rfl (lv_at hl 0 rfl) ?_
  refine lv_iconst (v := 2) hx hb dX4_init_69 (by decide) ?_
  refine ct_newq C0 hR hS (t0 := 2) (n := 2) uw_33 hY.2.2.2.2.1 rfl (by decide) rfl (by decide) (Nat.le_of_ble_eq_true rfl) (Nat.le_of_ble_eq_true rfl) dX4_init_70 (fun H hR hS => ?_)
  refine ct_putF C0 hR hS (x := 0) (by decide) ((ct_ne (by decide)).trans ct_eq) rfl lw_in_X4 tyX4 tyX4_ok nmX4 6 (by decide) uw_93 rfl rfl rfl rfl rfl rfl (Nat.le_of_ble_eq_true rfl) dX4_init_73 (fun H locs hR hS => ?_)
  refine lv_aload_n hx hb dX4_init_76 rfl (lv_at hl 0 rfl) ?_
  refine lv_bipush (v := 16) hx hb dX4_init_77 (by decide) ?_
  refine ct_newi C0 hR hS (n := 16) (by decide) rfl (by decide) (Nat.le_of_ble_eq_true rfl) (Nat.le_of_ble_eq_true rfl) dX4_init_79 (fun H hR hS => ?_)
  refine ct_putF C0 hR hS (x := 0) (by decide) ((ct_ne (by decide)).trans ct_eq) rfl lw_in_X4 tyX4 tyX4_ok nmX4 7 (by decide) uw_94 rfl rfl rfl rfl rfl rfl (Nat.le_of_ble_eq_true rfl) dX4_init_81 (fun H locs hR hS => ?_)
  refine lv_iconst (v := 0) hx hb dX4_init_84 (by decide) ?_
  refine lv_istore_n (lv' := [(1, .int (nI 0)), (0, .ref (B + 0))]) hx hb dX4_init_85 rfl hl (by decide) rfl (fun ls hl => ?_)
  refine k_X4_loop1 (τ := τ) C0 8 0 rfl H locs ls ⟨?_, by rw [hR.2]⟩ hS (lv_sub hl [1, 0] rfl)
  have hw := hR.1
  rw [wF_congr (E' := ct_EM cI cZ cL cR B τ 0 0) (fun x hx => ?_)] at hw
  · exact hw
  · by_cases h18 : 18 ≤ x
    · rcases (show x < 114 ∨ x = 114 ∨ x = 115 by omega) with h1 | rfl | rfl
      · have h2 : ¬ isR x := by unfold isR; omega
        simp only [va_up, ct_EA, ct_EM, show ¬ x = 0 by omega, show ¬ x = 115 by omega, show ¬ x = 114 by omega, show ¬ x = 16 by omega, show ¬ x = 17 by omega, show 17 < x by omega, show ¬ x = 1 by omega, if_false, if_true]
        by_cases h3 : (x - (17 + 1)) % 4 = 0
        · rw [if_pos h3, cell_L (show isL x by unfold isL; omega), ct_s0z h2]
        · rw [if_neg h3]
          rcases (show isL (x - 1) ∨ isL (x - 2) ∨ isL (x - 3) by unfold isL; omega) with h4 | h4 | h4
          · have h5 : x = x - 1 + 1 := by unfold isL at h4; omega
            have h6 := cell_L1 (cI := cI) (cZ := cZ) (cL := cL) (cR := cR) (B := B) (σ := ct_s0) (τ := τ) h4
            rw [← h5] at h6
            rw [h6, ct_s0z h2]
          · have h5 : x = x - 2 + 2 := by unfold isL at h4; omega
            have h6 := cell_L2 (cI := cI) (cZ := cZ) (cL := cL) (cR := cR) (B := B) (σ := ct_s0) (τ := τ) h4
            rw [← h5] at h6
            rw [h6, ct_s0z h2]
          · have h5 : x = x - 3 + 3 := by unfold isL at h4; omega
            have h6 := cell_L3 (cI := cI) (cZ := cZ) (cL := cL) (cR := cR) (B := B) (σ := ct_s0) (τ := τ) h4
            rw [← h5] at h6
            rw [h6, ct_s0z h2]
      · simp [va_up, ct_EM]
      · have h2 : ct_s0 115 = ct_z := ct_s0z (by unfold isR; omega)
        simp [va_up, ct_EM, cell_115, h2]
    · have hz : ct_s0 x = ct_z := ct_s0z (by unfold isR; omega)
      rcases (show x = 0 ∨ x = 1 ∨ x = 2 ∨ x = 3 ∨ x = 4 ∨ x = 5 ∨ x = 6 ∨ x = 7 ∨ x = 8 ∨ x = 9 ∨ x = 10 ∨ x = 11 ∨ x = 12 ∨ x = 13 ∨ x = 14 ∨ x = 15 ∨ x = 16 ∨ x = 17 by omega) with rfl | rfl | rfl | rfl | rfl | rfl | rfl | rfl | rfl | rfl | rfl | rfl | rfl | rfl | rfl | rfl | rfl | rfl <;> simp [va_up, ct_EM, ct_EL, ct_ET, ct_EA, cellA, hz, e_main, e_tape, e_light, e_acts]
abbrev ct_f5 : va_E := e_obj 5 [.int 0, .int 0, .null, .null, .null, .null, .null, .null, .null, .int 0, .null, .int 0, .int 0, .int 0, .int 0, .int 0, .int 0, .int 0, .int 0, .null, .int 0, .int 0, .int 0, .null, .null, .null, .int 0]
def ct_t0 : Mem := fun c k => if c = 141 ∧ k < 8 then -1 else 0
def ct_E5 (cI cZ cL cR : ClassId) (B : Nat) (E : Nat → va_E) : Nat → va_E := fun x => if x < 140 then E x else cellA cI cZ cL cR B ct_s0 ct_t0 x
set_option maxRecDepth 100000 in
set_option maxHeartbeats 4000000 in
theorem k_X5_init (he : E 140 = ct_f5) : ct_C l yX5_init (Cond.code yX5_init cX5_init 1 none :: lw_u) rmX5_in D cI cZ cL cR B [.ref (B + 140)] 141 E 153 (ct_E5 cI cZ cL cR B E) 12 1186 := by
  refine ct_of (cc := cX5_init) (maxL := 1) (own := RX5) (by decide) rfl rfl (Nat.le_of_ble_eq_true rfl) (fun p e s m below meth c0 C0 hR ls hl => ?_)
  have hS : va_S (lm_A B) s.heap s.heap [] := va_S.rf
  have hl : lv_has ls 1 [(0, .ref (B + 140))] := hl
  obtain ⟨hx, hb, hml, hr, hlk, hown, hts, hK, hY, hin, hBs⟩ := id C0
  refine lv_aload_n hx hb dX5_init_0 rfl (lv_at hl 0 rfl) ?_
  refine ct_obj C0 hl uw_507 dX5_init_1 (Nat.le_of_ble_eq_true rfl) (Nat.le_of_ble_eq_true rfl) ?_
  refine lv_aload_n hx hb dX5_init_4 rfl (lv_at hl 0 rfl) ?_
  refine lv_bipush (v := 8) hx hb dX5_init_5 (by decide) ?_
  refine ct_newi C0 hR hS (n := 8) (by decide) rfl (by decide) (Nat.le_of_ble_eq_true rfl) (Nat.le_of_ble_eq_true rfl) dX5_init_7 (fun H hR hS => ?_)
  refine lv_dup hx hb dX5_init_9 rfl ?_
  refine lv_iconst (v := 0) hx hb dX5_init_10 (by decide) ?_
  refine lv_iconst (v := (-1)) hx hb dX5_init_11 (by decide) ?_
  refine ct_ist C0 hR hS (x := 141) (by decide) ct_eq (by decide) dX5_init_12 (fun H locs hR hS => ?_)
  refine lv_dup hx hb dX5_init_13 rfl ?_
  refine lv_iconst (v := 1) hx hb dX5_init_14 (by decide) ?_
  refine lv_iconst (v := (-1)) hx hb dX5_init_15 (by decide) ?_
  refine ct_ist C0 hR hS (x := 141) (by decide) ct_eq (by decide) dX5_init_16 (fun H locs hR hS => ?_)
  refine lv_dup hx hb dX5_init_17 rfl ?_
  refine lv_iconst (v := 2) hx hb dX5_init_18 (by decide) ?_
  refine lv_iconst (v := (-1)) hx hb dX5_init_19 (by decide) ?_
  refine ct_ist C0 hR hS (x := 141) (by decide) ct_eq (by decide) dX5_init_20 (fun H locs hR hS => ?_)
  refine lv_dup hx hb dX5_init_21 rfl ?_
  refine lv_iconst (v := 3) hx hb dX5_init_22 (by decide) ?_
  refine lv_iconst (v := (-1)) hx hb dX5_init_23 (by decide) ?_
  refine ct_ist C0 hR hS (x := 141) (by decide) ct_eq (by decide) dX5_init_24 (fun H locs hR hS => ?_)
  refine lv_dup hx hb dX5_init_25 rfl ?_
  refine lv_iconst (v := 4) hx hb dX5_init_26 (by decide) ?_
  refine lv_iconst (v := (-1)) hx hb dX5_init_27 (by decide) ?_
  refine ct_ist C0 hR hS (x := 141) (by decide) ct_eq (by decide) dX5_init_28 (fun H locs hR hS => ?_)
  refine lv_dup hx hb dX5_init_29 rfl ?_
  refine lv_iconst (v := 5) hx hb dX5_init_30 (by decide) ?_
  refine lv_iconst (v := (-1)) hx hb dX5_init_31 (by decide) ?_
  refine ct_ist C0 hR hS (x := 141) (by decide) ct_eq (by decide) dX5_init_32 (fun H locs hR hS => ?_)
  refine lv_dup hx hb dX5_init_33 rfl ?_
  refine lv_bipush (v := 6) hx hb dX5_init_34 (by decide) ?_
  refine lv_iconst (v := (-1)) hx hb dX5_init_36 (by decide) ?_
  refine ct_ist C0 hR hS (x := 141) (by decide) ct_eq (by decide) dX5_init_37 (fun H locs hR hS => ?_)
  refine lv_dup hx hb dX5_init_38 rfl ?_
  refine lv_bipush (v := 7) hx hb dX5_init_39 (by decide) ?_
  refine lv_iconst (v := (-1)) hx hb dX5_init_41 (by decide) ?_
  refine ct_ist C0 hR hS (x := 141) (by decide) ct_eq (by decide) dX5_init_42 (fun H locs hR hS => ?_)
  refine ct_putF C0 hR hS (x := 140) (by decide) ((ct_ne (by decide)).trans ((ct_ne (by decide)).trans ((ct_ne (by decide)).trans ((ct_ne (by decide)).trans ((ct_ne (by decide)).trans ((ct_ne (by decide)).trans ((ct_ne (by decide)).trans ((ct_ne (by decide)).trans ((ct_ne (by decide)).trans he))))))))) rfl lw_in_X5 tyX5 tyX5_ok nmX5 2 (by decide) uw_510 rfl rfl rfl rfl rfl rfl (Nat.le_of_ble_eq_true rfl) dX5_init_43 (fun H locs hR hS => ?_)
  refine lv_aload_n hx hb dX5_init_46 rfl (lv_at hl 0 rfl) ?_
  refine lv_bipush (v := 8) hx hb dX5_init_47 (by decide) ?_
  refine ct_newi C0 hR hS (n := 8) (by decide) rfl (by decide) (Nat.le_of_ble_eq_true rfl) (Nat.le_of_ble_eq_true rfl) dX5_init_49 (fun H hR hS => ?_)
  refine ct_putF C0 hR hS (x := 140) (by decide) ((ct_ne (by decide)).trans ct_eq) rfl lw_in_X5 tyX5 tyX5_ok nmX5 3 (by decide) uw_511 rfl rfl rfl rfl rfl rfl (Nat.le_of_ble_eq_true rfl) dX5_init_51 (fun H locs hR hS => ?_)
  refine lv_aload_n hx hb dX5_init_54 rfl (lv_at hl 0 rfl) ?_
  refine lv_sipush (v := 320) hx hb dX5_init_55 (by decide) ?_
  refine ct_newi C0 hR hS (n := 320) (by decide) rfl (by decide) (Nat.le_of_ble_eq_true rfl) (Nat.le_of_ble_eq_true rfl) dX5_init_58 (fun H hR hS => ?_)
  refine ct_putF C0 hR hS (x := 140) (by decide) ((ct_ne (by decide)).trans ct_eq) rfl lw_in_X5 tyX5 tyX5_ok nmX5 4 (by decide) uw_512 rfl rfl rfl rfl rfl rfl (Nat.le_of_ble_eq_true rfl) dX5_init_60 (fun H locs hR hS => ?_)
  refine lv_aload_n hx hb dX5_init_63 rfl (lv_at hl 0 rfl) ?_
  refine lv_bipush (v := 24) hx hb dX5_init_64 (by decide) ?_
  refine ct_newi C0 hR hS (n := 24) (by decide) rfl (by decide) (Nat.le_of_ble_eq_true rfl) (Nat.le_of_ble_eq_true rfl) dX5_init_66 (fun H hR hS => ?_)
  refine ct_putF C0 hR hS (x := 140) (by decide) ((ct_ne (by decide)).trans ct_eq) rfl lw_in_X5 tyX5 tyX5_ok nmX5 5 (by decide) uw_513 rfl rfl rfl rfl rfl rfl (Nat.le_of_ble_eq_true rfl) dX5_init_68 (fun H locs hR hS => ?_)
  refine lv_aload_n hx hb dX5_init_71 rfl (lv_at hl 0 rfl) ?_
  refine lv_bipush (v := 24) hx hb dX5_init_72 (by decide) ?_
  refine ct_newi C0 hR hS (n := 24) (by decide) rfl (by decide) (Nat.le_of_ble_eq_true rfl) (Nat.le_of_ble_eq_true rfl) dX5_init_74 (fun H hR hS => ?_)
  refine ct_putF C0 hR hS (x := 140) (by decide) ((ct_ne (by decide)).trans ct_eq) rfl lw_in_X5 tyX5 tyX5_ok nmX5 6 (by decide) uw_514 rfl rfl rfl rfl rfl rfl (Nat.le_of_ble_eq_true rfl) dX5_init_76 (fun H locs hR hS => ?_)
  refine lv_aload_n hx hb dX5_init_79 rfl (lv_at hl 0 rfl) ?_
  refine lv_bipush (v := 24) hx hb dX5_init_80 (by decide) ?_
  refine ct_newi C0 hR hS (n := 24) (by decide) rfl (by decide) (Nat.le_of_ble_eq_true rfl) (Nat.le_of_ble_eq_true rfl) dX5_init_82 (fun H hR hS => ?_)
  refine ct_putF C0 hR hS (x := 140) (by decide) ((ct_ne (by decide)).trans ct_eq) rfl lw_in_X5 tyX5 tyX5_ok nmX5 7 (by decide) uw_515 rfl rfl rfl rfl rfl rfl (Nat.le_of_ble_eq_true rfl) dX5_init_84 (fun H locs hR hS => ?_)
  refine lv_aload_n hx hb dX5_init_87 rfl (lv_at hl 0 rfl) ?_
  refine lv_sipush (v := 576) hx hb dX5_init_88 (by decide) ?_
  refine ct_newi C0 hR hS (n := 576) (by decide) rfl (by decide) (Nat.le_of_ble_eq_true rfl) (Nat.le_of_ble_eq_true rfl) dX5_init_91 (fun H hR hS => ?_)
  refine ct_putF C0 hR hS (x := 140) (by decide) ((ct_ne (by decide)).trans ct_eq) rfl lw_in_X5 tyX5 tyX5_ok nmX5 8 (by decide) uw_516 rfl rfl rfl rfl rfl rfl (Nat.le_of_ble_eq_true rfl) dX5_init_93 (fun H locs hR hS => ?_)
  refine lv_aload_n hx hb dX5_init_96 rfl (lv_at hl 0 rfl) ?_
  refine lv_bipush (v := 120) hx hb dX5_init_97 (by decide) ?_
  refine ct_newi C0 hR hS (n := 120) (by decide) rfl (by decide) (Nat.le_of_ble_eq_true rfl) (Nat.le_of_ble_eq_true rfl) dX5_init_99 (fun H hR hS => ?_)
  refine ct_putF C0 hR hS (x := 140) (by decide) ((ct_ne (by decide)).trans ct_eq) rfl lw_in_X5 tyX5 tyX5_ok nmX5 10 (by decide) uw_518 rfl rfl rfl rfl rfl rfl (Nat.le_of_ble_eq_true rfl) dX5_init_101 (fun H locs hR hS => ?_)
  refine lv_aload_n hx hb dX5_init_104 rfl (lv_at hl 0 rfl) ?_
  refine lv_bipush (v := 16) hx hb dX5_init_105 (by decide) ?_
  refine ct_newi C0 hR hS (n := 16) (by decide) rfl (by decide) (Nat.le_of_ble_eq_true rfl) (Nat.le_of_ble_eq_true rfl) dX5_init_107 (fun H hR hS => ?_)
  refine ct_putF C0 hR hS (x := 140) (by decide) ((ct_ne (by decide)).trans ct_eq) rfl lw_in_X5 tyX5 tyX5_ok nmX5 19 (by decide) uw_527 rfl rfl rfl rfl rfl rfl (Nat.le_of_ble_eq_true rfl) dX5_init_109 (fun H locs hR hS => ?_)
  refine lv_aload_n hx hb dX5_init_112 rfl (lv_at hl 0 rfl) ?_
  refine lv_iconst (v := 2) hx hb dX5_init_113 (by decide) ?_
  refine ct_newz C0 hR hS uw_535 (n := 2) (by decide) rfl (by decide) (Nat.le_of_ble_eq_true rfl) (Nat.le_of_ble_eq_true rfl) dX5_init_114 (fun H hR hS => ?_)
  refine ct_putF C0 hR hS (x := 140) (by decide) ((ct_ne (by decide)).trans ct_eq) rfl lw_in_X5 tyX5 tyX5_ok nmX5 23 (by decide) uw_531 rfl rfl rfl rfl rfl rfl (Nat.le_of_ble_eq_true rfl) dX5_init_116 (fun H locs hR hS => ?_)
  refine lv_aload_n hx hb dX5_init_119 rfl (lv_at hl 0 rfl) ?_
  refine lv_bipush (v := 48) hx hb dX5_init_120 (by decide) ?_
  refine ct_newi C0 hR hS (n := 48) (by decide) rfl (by decide) (Nat.le_of_ble_eq_true rfl) (Nat.le_of_ble_eq_true rfl) dX5_init_122 (fun H hR hS => ?_)
  refine ct_putF C0 hR hS (x := 140) (by decide) ((ct_ne (by decide)).trans ct_eq) rfl lw_in_X5 tyX5 tyX5_ok nmX5 24 (by decide) uw_532 rfl rfl rfl rfl rfl rfl (Nat.le_of_ble_eq_true rfl) dX5_init_124 (fun H locs hR hS => ?_)
  refine lv_aload_n hx hb dX5_init_127 rfl (lv_at hl 0 rfl) ?_
  refine lv_bipush (v := 16) hx hb dX5_init_128 (by decide) ?_
  refine ct_newi C0 hR hS (n := 16) (by decide) rfl (by decide) (Nat.le_of_ble_eq_true rfl) (Nat.le_of_ble_eq_true rfl) dX5_init_130 (fun H hR hS => ?_)
  refine ct_putF C0 hR hS (x := 140) (by decide) ((ct_ne (by decide)).trans ct_eq) rfl lw_in_X5 tyX5 tyX5_ok nmX5 25 (by decide) uw_533 rfl rfl rfl rfl rfl rfl (Nat.le_of_ble_eq_true rfl) dX5_init_132 (fun H locs hR hS => ?_)
  refine ct_ret C0 hR hS (fun x hx => ?_) dX5_init_135
  by_cases h1 : x < 140
  · simp only [va_up, ct_E5, h1, if_true, show ¬ x = 140 by omega, show ¬ x = 141 by omega, show ¬ x = 142 by omega, show ¬ x = 143 by omega, show ¬ x = 144 by omega, show ¬ x = 145 by omega, show ¬ x = 146 by omega, show ¬ x = 147 by omega, show ¬ x = 148 by omega, show ¬ x = 149 by omega, show ¬ x = 150 by omega, show ¬ x = 151 by omega, show ¬ x = 152 by omega, if_false]
  · have hz : x ≠ 141 → ct_t0 x = ct_z := fun h => by
      funext k
      simp [ct_t0, h]
    rcases (show x = 140 ∨ x = 141 ∨ x = 142 ∨ x = 143 ∨ x = 144 ∨ x = 145 ∨ x = 146 ∨ x = 147 ∨ x = 148 ∨ x = 149 ∨ x = 150 ∨ x = 151 ∨ x = 152 by omega) with rfl | rfl | rfl | rfl | rfl | rfl | rfl | rfl | rfl | rfl | rfl | rfl | rfl
    · simp [va_up, ct_E5, cell_140, hz, e_model]
    · have h2 : (upd (upd (upd (upd (upd (upd (upd (upd ct_z (0 : Int32).toNatClampNeg (-1)) (1 : Int32).toNatClampNeg (-1)) (2 : Int32).toNatClampNeg (-1)) (3 : Int32).toNatClampNeg (-1)) (4 : Int32).toNatClampNeg (-1)) (5 : Int32).toNatClampNeg (-1)) (6 : Int32).toNatClampNeg (-1)) (7 : Int32).toNatClampNeg (-1)) = ct_t0 141 := by
        funext k
        by_cases hk : k < 8
        · rcases (show k = 0 ∨ k = 1 ∨ k = 2 ∨ k = 3 ∨ k = 4 ∨ k = 5 ∨ k = 6 ∨ k = 7 by omega) with rfl | rfl | rfl | rfl | rfl | rfl | rfl | rfl <;> rfl
        · have e0 : (0 : Int32).toNatClampNeg = 0 := rfl
          have e1 : (1 : Int32).toNatClampNeg = 1 := rfl
          have e2 : (2 : Int32).toNatClampNeg = 2 := rfl
          have e3 : (3 : Int32).toNatClampNeg = 3 := rfl
          have e4 : (4 : Int32).toNatClampNeg = 4 := rfl
          have e5 : (5 : Int32).toNatClampNeg = 5 := rfl
          have e6 : (6 : Int32).toNatClampNeg = 6 := rfl
          have e7 : (7 : Int32).toNatClampNeg = 7 := rfl
          simp only [e0, e1, e2, e3, e4, e5, e6, e7, upd, ct_t0, hk, show ¬ k = 0 by omega, show ¬ k = 1 by omega, show ¬ k = 2 by omega, show ¬ k = 3 by omega, show ¬ k = 4 by omega, show ¬ k = 5 by omega, show ¬ k = 6 by omega, show ¬ k = 7 by omega, if_false, and_false]
      simp only [va_up, ct_E5, cell_141, if_true, if_false, show ¬ (141 < 140) by decide, show ¬ (141 = 140) by decide, show ¬ (141 = 142) by decide, show ¬ (141 = 143) by decide, show ¬ (141 = 144) by decide, show ¬ (141 = 145) by decide, show ¬ (141 = 146) by decide, show ¬ (141 = 147) by decide, show ¬ (141 = 148) by decide, show ¬ (141 = 149) by decide, show ¬ (141 = 150) by decide, show ¬ (141 = 151) by decide, show ¬ (141 = 152) by decide]
      rw [← h2]
      rfl
    all_goals simp [va_up, ct_E5, cell_142, cell_143, cell_144, cell_145, cell_146, cell_147, cell_148, cell_149, cell_150, cell_151, cell_152, hz]
end
end
