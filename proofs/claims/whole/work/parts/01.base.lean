-- ===== PART A: goes FIRST, ahead of the names: the tables' words, and 'selects' of the private methods out of them =====
/-- a private method of a class that the tables say can be made, by its rows of tables_1 -/
def lw_okq (q : MethodName × Nat) : Prop := (q.1.cls ≠ "java/lang/invoke/MethodHandle" ∧ q.1.cls ≠ "java/lang/invoke/VarHandle") ∧ Cond.instantiable q.1.cls q.2 ∈ tables_1 ∧ Cond.privateMethod q.1 ∈ tables_1 ∧ Cond.instanceMethod q.1 ∈ tables_1
theorem lw_p0 : lw_okq (⟨"BlameTown$Telling", "skipBlanks", "()V"⟩, 6) := ⟨⟨by decide +kernel, by decide +kernel⟩, List.mem_of_getElem? (i := 22) (by decide +kernel), List.mem_of_getElem? (i := 358) (by decide +kernel), List.mem_of_getElem? (i := 359) (by decide +kernel)⟩
theorem lw_p1 : lw_okq (⟨"BlameTown$Telling", "here", "()I"⟩, 6) := ⟨⟨by decide +kernel, by decide +kernel⟩, List.mem_of_getElem? (i := 22) (by decide +kernel), List.mem_of_getElem? (i := 362) (by decide +kernel), List.mem_of_getElem? (i := 363) (by decide +kernel)⟩
theorem lw_p2 : lw_okq (⟨"BlameTown$Telling", "readClause", "(LBlameTown$Facts;)V"⟩, 6) := ⟨⟨by decide +kernel, by decide +kernel⟩, List.mem_of_getElem? (i := 22) (by decide +kernel), List.mem_of_getElem? (i := 366) (by decide +kernel), List.mem_of_getElem? (i := 367) (by decide +kernel)⟩
theorem lw_p3 : lw_okq (⟨"BlameTown$Telling", "readJury", "(LBlameTown$Facts;)V"⟩, 6) := ⟨⟨by decide +kernel, by decide +kernel⟩, List.mem_of_getElem? (i := 22) (by decide +kernel), List.mem_of_getElem? (i := 370) (by decide +kernel), List.mem_of_getElem? (i := 371) (by decide +kernel)⟩
theorem lw_p4 : lw_okq (⟨"BlameTown$Telling", "mark", "(II)V"⟩, 6) := ⟨⟨by decide +kernel, by decide +kernel⟩, List.mem_of_getElem? (i := 22) (by decide +kernel), List.mem_of_getElem? (i := 374) (by decide +kernel), List.mem_of_getElem? (i := 375) (by decide +kernel)⟩
theorem lw_p5 : lw_okq (⟨"BlameTown$Telling", "readNumber", "(II)I"⟩, 6) := ⟨⟨by decide +kernel, by decide +kernel⟩, List.mem_of_getElem? (i := 22) (by decide +kernel), List.mem_of_getElem? (i := 378) (by decide +kernel), List.mem_of_getElem? (i := 379) (by decide +kernel)⟩
theorem lw_p6 : lw_okq (⟨"BlameTown$Telling", "readEnd", "()V"⟩, 6) := ⟨⟨by decide +kernel, by decide +kernel⟩, List.mem_of_getElem? (i := 22) (by decide +kernel), List.mem_of_getElem? (i := 387) (by decide +kernel), List.mem_of_getElem? (i := 388) (by decide +kernel)⟩
theorem lw_p7 : lw_okq (⟨"BlameTown$Telling", "readMan", "(LBlameTown$Facts;)V"⟩, 6) := ⟨⟨by decide +kernel, by decide +kernel⟩, List.mem_of_getElem? (i := 22) (by decide +kernel), List.mem_of_getElem? (i := 391) (by decide +kernel), List.mem_of_getElem? (i := 392) (by decide +kernel)⟩
theorem lw_p8 : lw_okq (⟨"BlameTown$Telling", "readRow", "(LBlameTown$Facts;I)V"⟩, 6) := ⟨⟨by decide +kernel, by decide +kernel⟩, List.mem_of_getElem? (i := 22) (by decide +kernel), List.mem_of_getElem? (i := 395) (by decide +kernel), List.mem_of_getElem? (i := 396) (by decide +kernel)⟩
theorem lw_p9 : lw_okq (⟨"BlameTown$Telling", "readMishap", "(LBlameTown$Facts;)V"⟩, 6) := ⟨⟨by decide +kernel, by decide +kernel⟩, List.mem_of_getElem? (i := 22) (by decide +kernel), List.mem_of_getElem? (i := 399) (by decide +kernel), List.mem_of_getElem? (i := 400) (by decide +kernel)⟩
theorem lw_p10 : lw_okq (⟨"BlameTown", "isMan", "(I)Z"⟩, 12) := ⟨⟨by decide +kernel, by decide +kernel⟩, List.mem_of_getElem? (i := 14) (by decide +kernel), List.mem_of_getElem? (i := 472) (by decide +kernel), List.mem_of_getElem? (i := 473) (by decide +kernel)⟩
theorem lw_p11 : lw_okq (⟨"BlameTown", "isMishap", "(I)Z"⟩, 12) := ⟨⟨by decide +kernel, by decide +kernel⟩, List.mem_of_getElem? (i := 14) (by decide +kernel), List.mem_of_getElem? (i := 497) (by decide +kernel), List.mem_of_getElem? (i := 498) (by decide +kernel)⟩
theorem lw_p12 : lw_okq (⟨"BlameTown", "putBlame", "(II)V"⟩, 12) := ⟨⟨by decide +kernel, by decide +kernel⟩, List.mem_of_getElem? (i := 14) (by decide +kernel), List.mem_of_getElem? (i := 551) (by decide +kernel), List.mem_of_getElem? (i := 552) (by decide +kernel)⟩
theorem lw_p13 : lw_okq (⟨"BlameTown", "endDay", "()I"⟩, 12) := ⟨⟨by decide +kernel, by decide +kernel⟩, List.mem_of_getElem? (i := 14) (by decide +kernel), List.mem_of_getElem? (i := 595) (by decide +kernel), List.mem_of_getElem? (i := 596) (by decide +kernel)⟩
theorem lw_p14 : lw_okq (⟨"BlameTown", "blameByDraws", "(I)V"⟩, 12) := ⟨⟨by decide +kernel, by decide +kernel⟩, List.mem_of_getElem? (i := 14) (by decide +kernel), List.mem_of_getElem? (i := 609) (by decide +kernel), List.mem_of_getElem? (i := 610) (by decide +kernel)⟩
theorem lw_p15 : lw_okq (⟨"BlameTown", "draw", "(I)I"⟩, 12) := ⟨⟨by decide +kernel, by decide +kernel⟩, List.mem_of_getElem? (i := 14) (by decide +kernel), List.mem_of_getElem? (i := 619) (by decide +kernel), List.mem_of_getElem? (i := 620) (by decide +kernel)⟩
def lw_privs_1 : List (MethodName × Nat) := [(⟨"BlameTown$Telling", "skipBlanks", "()V"⟩, 6), (⟨"BlameTown$Telling", "here", "()I"⟩, 6), (⟨"BlameTown$Telling", "readClause", "(LBlameTown$Facts;)V"⟩, 6), (⟨"BlameTown$Telling", "readJury", "(LBlameTown$Facts;)V"⟩, 6), (⟨"BlameTown$Telling", "mark", "(II)V"⟩, 6), (⟨"BlameTown$Telling", "readNumber", "(II)I"⟩, 6), (⟨"BlameTown$Telling", "readEnd", "()V"⟩, 6), (⟨"BlameTown$Telling", "readMan", "(LBlameTown$Facts;)V"⟩, 6), (⟨"BlameTown$Telling", "readRow", "(LBlameTown$Facts;I)V"⟩, 6), (⟨"BlameTown$Telling", "readMishap", "(LBlameTown$Facts;)V"⟩, 6), (⟨"BlameTown", "isMan", "(I)Z"⟩, 12), (⟨"BlameTown", "isMishap", "(I)Z"⟩, 12), (⟨"BlameTown", "putBlame", "(II)V"⟩, 12), (⟨"BlameTown", "endDay", "()I"⟩, 12), (⟨"BlameTown", "blameByDraws", "(I)V"⟩, 12), (⟨"BlameTown", "draw", "(I)I"⟩, 12)]
theorem lw_r1 : ∀ q ∈ lw_privs_1, lw_okq q := List.forall_mem_cons.mpr ⟨lw_p0, List.forall_mem_cons.mpr ⟨lw_p1, List.forall_mem_cons.mpr ⟨lw_p2, List.forall_mem_cons.mpr ⟨lw_p3, List.forall_mem_cons.mpr ⟨lw_p4, List.forall_mem_cons.mpr ⟨lw_p5, List.forall_mem_cons.mpr ⟨lw_p6, List.forall_mem_cons.mpr ⟨lw_p7, List.forall_mem_cons.mpr ⟨lw_p8, List.forall_mem_cons.mpr ⟨lw_p9, List.forall_mem_cons.mpr ⟨lw_p10, List.forall_mem_cons.mpr ⟨lw_p11, List.forall_mem_cons.mpr ⟨lw_p12, List.forall_mem_cons.mpr ⟨lw_p13, List.forall_mem_cons.mpr ⟨lw_p14, List.forall_mem_cons.mpr ⟨lw_p15, fun _ h => absurd h List.not_mem_nil⟩⟩⟩⟩⟩⟩⟩⟩⟩⟩⟩⟩⟩⟩⟩⟩
theorem lw_p16 : lw_okq (⟨"BlameTown$Sharing", "lookAt", "(I)V"⟩, 14) := ⟨⟨by decide +kernel, by decide +kernel⟩, List.mem_of_getElem? (i := 172) (by decide +kernel), List.mem_of_getElem? (i := 663) (by decide +kernel), List.mem_of_getElem? (i := 664) (by decide +kernel)⟩
theorem lw_p17 : lw_okq (⟨"BlameTown$Sharing", "listSets", "(I)V"⟩, 14) := ⟨⟨by decide +kernel, by decide +kernel⟩, List.mem_of_getElem? (i := 172) (by decide +kernel), List.mem_of_getElem? (i := 671) (by decide +kernel), List.mem_of_getElem? (i := 672) (by decide +kernel)⟩
theorem lw_p18 : lw_okq (⟨"BlameTown$Sharing", "addSet", "(III)V"⟩, 14) := ⟨⟨by decide +kernel, by decide +kernel⟩, List.mem_of_getElem? (i := 172) (by decide +kernel), List.mem_of_getElem? (i := 675) (by decide +kernel), List.mem_of_getElem? (i := 676) (by decide +kernel)⟩
theorem lw_p19 : lw_okq (⟨"BlameTown$Sharing", "allTake", "(II)Z"⟩, 14) := ⟨⟨by decide +kernel, by decide +kernel⟩, List.mem_of_getElem? (i := 172) (by decide +kernel), List.mem_of_getElem? (i := 679) (by decide +kernel), List.mem_of_getElem? (i := 680) (by decide +kernel)⟩
theorem lw_p20 : lw_okq (⟨"BlameTown$Sharing", "takes", "(II)Z"⟩, 14) := ⟨⟨by decide +kernel, by decide +kernel⟩, List.mem_of_getElem? (i := 172) (by decide +kernel), List.mem_of_getElem? (i := 684) (by decide +kernel), List.mem_of_getElem? (i := 685) (by decide +kernel)⟩
theorem lw_p21 : lw_okq (⟨"BlameTown$Sharing", "search", "(II)V"⟩, 14) := ⟨⟨by decide +kernel, by decide +kernel⟩, List.mem_of_getElem? (i := 172) (by decide +kernel), List.mem_of_getElem? (i := 695) (by decide +kernel), List.mem_of_getElem? (i := 696) (by decide +kernel)⟩
theorem lw_p22 : lw_okq (⟨"BlameTown$Sharing", "pick", "(III)V"⟩, 14) := ⟨⟨by decide +kernel, by decide +kernel⟩, List.mem_of_getElem? (i := 172) (by decide +kernel), List.mem_of_getElem? (i := 700) (by decide +kernel), List.mem_of_getElem? (i := 701) (by decide +kernel)⟩
theorem lw_p23 : lw_okq (⟨"BlameTown$Sharing", "give", "(II)V"⟩, 14) := ⟨⟨by decide +kernel, by decide +kernel⟩, List.mem_of_getElem? (i := 172) (by decide +kernel), List.mem_of_getElem? (i := 704) (by decide +kernel), List.mem_of_getElem? (i := 705) (by decide +kernel)⟩
theorem lw_p24 : lw_okq (⟨"BlameTown", "imageOf", "(I)LBlameTown$Image;"⟩, 12) := ⟨⟨by decide +kernel, by decide +kernel⟩, List.mem_of_getElem? (i := 14) (by decide +kernel), List.mem_of_getElem? (i := 802) (by decide +kernel), List.mem_of_getElem? (i := 803) (by decide +kernel)⟩
theorem lw_p25 : lw_okq (⟨"BlameTownModel", "skips", "()V"⟩, 36) := ⟨⟨by decide +kernel, by decide +kernel⟩, List.mem_of_getElem? (i := 811) (by decide +kernel), List.mem_of_getElem? (i := 940) (by decide +kernel), List.mem_of_getElem? (i := 941) (by decide +kernel)⟩
theorem lw_p26 : lw_okq (⟨"BlameTownModel", "look", "()I"⟩, 36) := ⟨⟨by decide +kernel, by decide +kernel⟩, List.mem_of_getElem? (i := 811) (by decide +kernel), List.mem_of_getElem? (i := 944) (by decide +kernel), List.mem_of_getElem? (i := 945) (by decide +kernel)⟩
theorem lw_p27 : lw_okq (⟨"BlameTownModel", "reads", "()V"⟩, 36) := ⟨⟨by decide +kernel, by decide +kernel⟩, List.mem_of_getElem? (i := 811) (by decide +kernel), List.mem_of_getElem? (i := 948) (by decide +kernel), List.mem_of_getElem? (i := 949) (by decide +kernel)⟩
theorem lw_p28 : lw_okq (⟨"BlameTownModel", "word", "(I)V"⟩, 36) := ⟨⟨by decide +kernel, by decide +kernel⟩, List.mem_of_getElem? (i := 811) (by decide +kernel), List.mem_of_getElem? (i := 952) (by decide +kernel), List.mem_of_getElem? (i := 953) (by decide +kernel)⟩
theorem lw_p29 : lw_okq (⟨"BlameTownModel", "fails", "(I)V"⟩, 36) := ⟨⟨by decide +kernel, by decide +kernel⟩, List.mem_of_getElem? (i := 811) (by decide +kernel), List.mem_of_getElem? (i := 956) (by decide +kernel), List.mem_of_getElem? (i := 957) (by decide +kernel)⟩
theorem lw_p30 : lw_okq (⟨"BlameTownModel", "number", "(II)I"⟩, 36) := ⟨⟨by decide +kernel, by decide +kernel⟩, List.mem_of_getElem? (i := 811) (by decide +kernel), List.mem_of_getElem? (i := 960) (by decide +kernel), List.mem_of_getElem? (i := 961) (by decide +kernel)⟩
theorem lw_p31 : lw_okq (⟨"BlameTownModel", "skipsIfWell", "()V"⟩, 36) := ⟨⟨by decide +kernel, by decide +kernel⟩, List.mem_of_getElem? (i := 811) (by decide +kernel), List.mem_of_getElem? (i := 964) (by decide +kernel), List.mem_of_getElem? (i := 965) (by decide +kernel)⟩
def lw_privs_2 : List (MethodName × Nat) := [(⟨"BlameTown$Sharing", "lookAt", "(I)V"⟩, 14), (⟨"BlameTown$Sharing", "listSets", "(I)V"⟩, 14), (⟨"BlameTown$Sharing", "addSet", "(III)V"⟩, 14), (⟨"BlameTown$Sharing", "allTake", "(II)Z"⟩, 14), (⟨"BlameTown$Sharing", "takes", "(II)Z"⟩, 14), (⟨"BlameTown$Sharing", "search", "(II)V"⟩, 14), (⟨"BlameTown$Sharing", "pick", "(III)V"⟩, 14), (⟨"BlameTown$Sharing", "give", "(II)V"⟩, 14), (⟨"BlameTown", "imageOf", "(I)LBlameTown$Image;"⟩, 12), (⟨"BlameTownModel", "skips", "()V"⟩, 36), (⟨"BlameTownModel", "look", "()I"⟩, 36), (⟨"BlameTownModel", "reads", "()V"⟩, 36), (⟨"BlameTownModel", "word", "(I)V"⟩, 36), (⟨"BlameTownModel", "fails", "(I)V"⟩, 36), (⟨"BlameTownModel", "number", "(II)I"⟩, 36), (⟨"BlameTownModel", "skipsIfWell", "()V"⟩, 36)]
theorem lw_r2 : ∀ q ∈ lw_privs_2, lw_okq q := List.forall_mem_cons.mpr ⟨lw_p16, List.forall_mem_cons.mpr ⟨lw_p17, List.forall_mem_cons.mpr ⟨lw_p18, List.forall_mem_cons.mpr ⟨lw_p19, List.forall_mem_cons.mpr ⟨lw_p20, List.forall_mem_cons.mpr ⟨lw_p21, List.forall_mem_cons.mpr ⟨lw_p22, List.forall_mem_cons.mpr ⟨lw_p23, List.forall_mem_cons.mpr ⟨lw_p24, List.forall_mem_cons.mpr ⟨lw_p25, List.forall_mem_cons.mpr ⟨lw_p26, List.forall_mem_cons.mpr ⟨lw_p27, List.forall_mem_cons.mpr ⟨lw_p28, List.forall_mem_cons.mpr ⟨lw_p29, List.forall_mem_cons.mpr ⟨lw_p30, List.forall_mem_cons.mpr ⟨lw_p31, fun _ h => absurd h List.not_mem_nil⟩⟩⟩⟩⟩⟩⟩⟩⟩⟩⟩⟩⟩⟩⟩⟩
theorem lw_p32 : lw_okq (⟨"BlameTownModel", "readsMan", "()V"⟩, 36) := ⟨⟨by decide +kernel, by decide +kernel⟩, List.mem_of_getElem? (i := 811) (by decide +kernel), List.mem_of_getElem? (i := 968) (by decide +kernel), List.mem_of_getElem? (i := 969) (by decide +kernel)⟩
theorem lw_p33 : lw_okq (⟨"BlameTownModel", "readsMishap", "()V"⟩, 36) := ⟨⟨by decide +kernel, by decide +kernel⟩, List.mem_of_getElem? (i := 811) (by decide +kernel), List.mem_of_getElem? (i := 972) (by decide +kernel), List.mem_of_getElem? (i := 973) (by decide +kernel)⟩
theorem lw_p34 : lw_okq (⟨"BlameTownModel", "takes", "()V"⟩, 36) := ⟨⟨by decide +kernel, by decide +kernel⟩, List.mem_of_getElem? (i := 811) (by decide +kernel), List.mem_of_getElem? (i := 976) (by decide +kernel), List.mem_of_getElem? (i := 977) (by decide +kernel)⟩
theorem lw_p35 : lw_okq (⟨"BlameTownModel", "allFree", "()I"⟩, 36) := ⟨⟨by decide +kernel, by decide +kernel⟩, List.mem_of_getElem? (i := 811) (by decide +kernel), List.mem_of_getElem? (i := 988) (by decide +kernel), List.mem_of_getElem? (i := 989) (by decide +kernel)⟩
theorem lw_p36 : lw_okq (⟨"BlameTownModel", "free", "(I)I"⟩, 36) := ⟨⟨by decide +kernel, by decide +kernel⟩, List.mem_of_getElem? (i := 811) (by decide +kernel), List.mem_of_getElem? (i := 992) (by decide +kernel), List.mem_of_getElem? (i := 993) (by decide +kernel)⟩
theorem lw_p37 : lw_okq (⟨"BlameTownModel", "blamedFor", "(I)I"⟩, 36) := ⟨⟨by decide +kernel, by decide +kernel⟩, List.mem_of_getElem? (i := 811) (by decide +kernel), List.mem_of_getElem? (i := 996) (by decide +kernel), List.mem_of_getElem? (i := 997) (by decide +kernel)⟩
theorem lw_p38 : lw_okq (⟨"BlameTownModel", "isMan", "(I)Z"⟩, 36) := ⟨⟨by decide +kernel, by decide +kernel⟩, List.mem_of_getElem? (i := 811) (by decide +kernel), List.mem_of_getElem? (i := 1007) (by decide +kernel), List.mem_of_getElem? (i := 1008) (by decide +kernel)⟩
theorem lw_p39 : lw_okq (⟨"BlameTownModel", "blamesOf", "(I)I"⟩, 36) := ⟨⟨by decide +kernel, by decide +kernel⟩, List.mem_of_getElem? (i := 811) (by decide +kernel), List.mem_of_getElem? (i := 1012) (by decide +kernel), List.mem_of_getElem? (i := 1013) (by decide +kernel)⟩
theorem lw_p40 : lw_okq (⟨"BlameTownModel", "isMishap", "(I)Z"⟩, 36) := ⟨⟨by decide +kernel, by decide +kernel⟩, List.mem_of_getElem? (i := 811) (by decide +kernel), List.mem_of_getElem? (i := 1023) (by decide +kernel), List.mem_of_getElem? (i := 1024) (by decide +kernel)⟩
theorem lw_p41 : lw_okq (⟨"BlameTownModel", "isNear", "(II)Z"⟩, 36) := ⟨⟨by decide +kernel, by decide +kernel⟩, List.mem_of_getElem? (i := 811) (by decide +kernel), List.mem_of_getElem? (i := 1031) (by decide +kernel), List.mem_of_getElem? (i := 1032) (by decide +kernel)⟩
theorem lw_p42 : lw_okq (⟨"BlameTownModel", "whereIs", "(II)I"⟩, 36) := ⟨⟨by decide +kernel, by decide +kernel⟩, List.mem_of_getElem? (i := 811) (by decide +kernel), List.mem_of_getElem? (i := 1035) (by decide +kernel), List.mem_of_getElem? (i := 1036) (by decide +kernel)⟩
theorem lw_p43 : lw_okq (⟨"BlameTownModel", "can", "(II)Z"⟩, 36) := ⟨⟨by decide +kernel, by decide +kernel⟩, List.mem_of_getElem? (i := 811) (by decide +kernel), List.mem_of_getElem? (i := 1042) (by decide +kernel), List.mem_of_getElem? (i := 1043) (by decide +kernel)⟩
theorem lw_p44 : lw_okq (⟨"BlameTownModel", "beliefAt", "(IIII)I"⟩, 36) := ⟨⟨by decide +kernel, by decide +kernel⟩, List.mem_of_getElem? (i := 811) (by decide +kernel), List.mem_of_getElem? (i := 1046) (by decide +kernel), List.mem_of_getElem? (i := 1047) (by decide +kernel)⟩
theorem lw_p45 : lw_okq (⟨"BlameTownModel", "mayBe", "(II)Z"⟩, 36) := ⟨⟨by decide +kernel, by decide +kernel⟩, List.mem_of_getElem? (i := 811) (by decide +kernel), List.mem_of_getElem? (i := 1054) (by decide +kernel), List.mem_of_getElem? (i := 1055) (by decide +kernel)⟩
theorem lw_p46 : lw_okq (⟨"BlameTownModel", "fits", "(III)Z"⟩, 36) := ⟨⟨by decide +kernel, by decide +kernel⟩, List.mem_of_getElem? (i := 811) (by decide +kernel), List.mem_of_getElem? (i := 1058) (by decide +kernel), List.mem_of_getElem? (i := 1059) (by decide +kernel)⟩
theorem lw_p47 : lw_okq (⟨"BlameTownModel", "areFar", "(II)Z"⟩, 36) := ⟨⟨by decide +kernel, by decide +kernel⟩, List.mem_of_getElem? (i := 811) (by decide +kernel), List.mem_of_getElem? (i := 1062) (by decide +kernel), List.mem_of_getElem? (i := 1063) (by decide +kernel)⟩
def lw_privs_3 : List (MethodName × Nat) := [(⟨"BlameTownModel", "readsMan", "()V"⟩, 36), (⟨"BlameTownModel", "readsMishap", "()V"⟩, 36), (⟨"BlameTownModel", "takes", "()V"⟩, 36), (⟨"BlameTownModel", "allFree", "()I"⟩, 36), (⟨"BlameTownModel", "free", "(I)I"⟩, 36), (⟨"BlameTownModel", "blamedFor", "(I)I"⟩, 36), (⟨"BlameTownModel", "isMan", "(I)Z"⟩, 36), (⟨"BlameTownModel", "blamesOf", "(I)I"⟩, 36), (⟨"BlameTownModel", "isMishap", "(I)Z"⟩, 36), (⟨"BlameTownModel", "isNear", "(II)Z"⟩, 36), (⟨"BlameTownModel", "whereIs", "(II)I"⟩, 36), (⟨"BlameTownModel", "can", "(II)Z"⟩, 36), (⟨"BlameTownModel", "beliefAt", "(IIII)I"⟩, 36), (⟨"BlameTownModel", "mayBe", "(II)Z"⟩, 36), (⟨"BlameTownModel", "fits", "(III)Z"⟩, 36), (⟨"BlameTownModel", "areFar", "(II)Z"⟩, 36)]
theorem lw_r3 : ∀ q ∈ lw_privs_3, lw_okq q := List.forall_mem_cons.mpr ⟨lw_p32, List.forall_mem_cons.mpr ⟨lw_p33, List.forall_mem_cons.mpr ⟨lw_p34, List.forall_mem_cons.mpr ⟨lw_p35, List.forall_mem_cons.mpr ⟨lw_p36, List.forall_mem_cons.mpr ⟨lw_p37, List.forall_mem_cons.mpr ⟨lw_p38, List.forall_mem_cons.mpr ⟨lw_p39, List.forall_mem_cons.mpr ⟨lw_p40, List.forall_mem_cons.mpr ⟨lw_p41, List.forall_mem_cons.mpr ⟨lw_p42, List.forall_mem_cons.mpr ⟨lw_p43, List.forall_mem_cons.mpr ⟨lw_p44, List.forall_mem_cons.mpr ⟨lw_p45, List.forall_mem_cons.mpr ⟨lw_p46, List.forall_mem_cons.mpr ⟨lw_p47, fun _ h => absurd h List.not_mem_nil⟩⟩⟩⟩⟩⟩⟩⟩⟩⟩⟩⟩⟩⟩⟩⟩
theorem lw_p48 : lw_okq (⟨"BlameTownModel", "notes", "()V"⟩, 36) := ⟨⟨by decide +kernel, by decide +kernel⟩, List.mem_of_getElem? (i := 811) (by decide +kernel), List.mem_of_getElem? (i := 1067) (by decide +kernel), List.mem_of_getElem? (i := 1068) (by decide +kernel)⟩
theorem lw_p49 : lw_okq (⟨"BlameTownModel", "blames", "(II)V"⟩, 36) := ⟨⟨by decide +kernel, by decide +kernel⟩, List.mem_of_getElem? (i := 811) (by decide +kernel), List.mem_of_getElem? (i := 1074) (by decide +kernel), List.mem_of_getElem? (i := 1075) (by decide +kernel)⟩
theorem lw_p50 : lw_okq (⟨"BlameTownModel", "sets", "()I"⟩, 36) := ⟨⟨by decide +kernel, by decide +kernel⟩, List.mem_of_getElem? (i := 811) (by decide +kernel), List.mem_of_getElem? (i := 1090) (by decide +kernel), List.mem_of_getElem? (i := 1091) (by decide +kernel)⟩
theorem lw_p51 : lw_okq (⟨"BlameTownModel", "mayFor", "(I)I"⟩, 36) := ⟨⟨by decide +kernel, by decide +kernel⟩, List.mem_of_getElem? (i := 811) (by decide +kernel), List.mem_of_getElem? (i := 1098) (by decide +kernel), List.mem_of_getElem? (i := 1099) (by decide +kernel)⟩
theorem lw_p52 : lw_okq (⟨"BlameTownModel", "draw", "(I)I"⟩, 36) := ⟨⟨by decide +kernel, by decide +kernel⟩, List.mem_of_getElem? (i := 811) (by decide +kernel), List.mem_of_getElem? (i := 1102) (by decide +kernel), List.mem_of_getElem? (i := 1103) (by decide +kernel)⟩
theorem lw_p53 : lw_okq (⟨"BlameTownModel", "shares", "()V"⟩, 36) := ⟨⟨by decide +kernel, by decide +kernel⟩, List.mem_of_getElem? (i := 811) (by decide +kernel), List.mem_of_getElem? (i := 1129) (by decide +kernel), List.mem_of_getElem? (i := 1130) (by decide +kernel)⟩
theorem lw_p54 : lw_okq (⟨"BlameTownModel", "costs", "()I"⟩, 36) := ⟨⟨by decide +kernel, by decide +kernel⟩, List.mem_of_getElem? (i := 811) (by decide +kernel), List.mem_of_getElem? (i := 1133) (by decide +kernel), List.mem_of_getElem? (i := 1134) (by decide +kernel)⟩
theorem lw_p55 : lw_okq (⟨"BlameTownModel", "canBe", "()Z"⟩, 36) := ⟨⟨by decide +kernel, by decide +kernel⟩, List.mem_of_getElem? (i := 811) (by decide +kernel), List.mem_of_getElem? (i := 1137) (by decide +kernel), List.mem_of_getElem? (i := 1138) (by decide +kernel)⟩
theorem lw_p56 : lw_okq (⟨"BlameTownModel", "counts", "()Z"⟩, 36) := ⟨⟨by decide +kernel, by decide +kernel⟩, List.mem_of_getElem? (i := 811) (by decide +kernel), List.mem_of_getElem? (i := 1141) (by decide +kernel), List.mem_of_getElem? (i := 1142) (by decide +kernel)⟩
theorem lw_p57 : lw_okq (⟨"BlameTownModel", "root", "(I)I"⟩, 36) := ⟨⟨by decide +kernel, by decide +kernel⟩, List.mem_of_getElem? (i := 811) (by decide +kernel), List.mem_of_getElem? (i := 1165) (by decide +kernel), List.mem_of_getElem? (i := 1166) (by decide +kernel)⟩
def lw_privs_4 : List (MethodName × Nat) := [(⟨"BlameTownModel", "notes", "()V"⟩, 36), (⟨"BlameTownModel", "blames", "(II)V"⟩, 36), (⟨"BlameTownModel", "sets", "()I"⟩, 36), (⟨"BlameTownModel", "mayFor", "(I)I"⟩, 36), (⟨"BlameTownModel", "draw", "(I)I"⟩, 36), (⟨"BlameTownModel", "shares", "()V"⟩, 36), (⟨"BlameTownModel", "costs", "()I"⟩, 36), (⟨"BlameTownModel", "canBe", "()Z"⟩, 36), (⟨"BlameTownModel", "counts", "()Z"⟩, 36), (⟨"BlameTownModel", "root", "(I)I"⟩, 36)]
theorem lw_r4 : ∀ q ∈ lw_privs_4, lw_okq q := List.forall_mem_cons.mpr ⟨lw_p48, List.forall_mem_cons.mpr ⟨lw_p49, List.forall_mem_cons.mpr ⟨lw_p50, List.forall_mem_cons.mpr ⟨lw_p51, List.forall_mem_cons.mpr ⟨lw_p52, List.forall_mem_cons.mpr ⟨lw_p53, List.forall_mem_cons.mpr ⟨lw_p54, List.forall_mem_cons.mpr ⟨lw_p55, List.forall_mem_cons.mpr ⟨lw_p56, List.forall_mem_cons.mpr ⟨lw_p57, fun _ h => absurd h List.not_mem_nil⟩⟩⟩⟩⟩⟩⟩⟩⟩⟩
def lw_privs : List (MethodName × Nat) := lw_privs_1 ++ (lw_privs_2 ++ (lw_privs_3 ++ (lw_privs_4)))
def lw_tbl : List Cond := k2_sels lw_privs ++ tables_1
theorem lw_privs_ok : ∀ q ∈ lw_privs, lw_okq q := by
  show ∀ q ∈ lw_privs_1 ++ (lw_privs_2 ++ (lw_privs_3 ++ (lw_privs_4))), lw_okq q
  exact List.forall_mem_append.mpr ⟨lw_r1, List.forall_mem_append.mpr ⟨lw_r2, List.forall_mem_append.mpr ⟨lw_r3, lw_r4⟩⟩⟩
def RX0 : String := "BlameTown$Court"
def TX0 : u_T := fun k => match k with
  | 0 => ("BlameTown$Court", "facts", "LBlameTown$Facts;", true)
  | _ => ("BlameTown$Court", "now", "LBlameTown$Standing;", true)
def tyX0 : Nat → FieldType := fun k => match k with
  | 0 => .object "BlameTown$Facts"
  | _ => .object "BlameTown$Standing"
abbrev wsX00 : List Cond := u_ws RX0 TX0 2
theorem nmX0 : ∀ a, a < 2 → ∀ b, b < 2 → a ≠ b → (TX0 a).2.1 ≠ (TX0 b).2.1 := by decide +kernel
theorem tyX0_ok : ∀ k, k < 2 → parseFieldDescriptor (TX0 k).2.2.1 = some (tyX0 k) := by decide +kernel
abbrev cX0_init : ByteArray := prog_2_method_1_code
def yX0_init : MethodName := ⟨RX0, "<init>", "(LBlameTown$Facts;LBlameTown$Standing;)V"⟩
abbrev cX0_isNear : ByteArray := prog_2_method_2_code
def yX0_isNear : MethodName := ⟨RX0, "isNear", "(II)Z"⟩
abbrev cX0_hasPowers : ByteArray := prog_2_method_3_code
def yX0_hasPowers : MethodName := ⟨RX0, "hasPowers", "(II)Z"⟩
abbrev cX0_freshBelief : ByteArray := prog_2_method_4_code
def yX0_freshBelief : MethodName := ⟨RX0, "freshBelief", "(III)I"⟩
abbrev cX0_wornLimit : ByteArray := prog_2_method_5_code
def yX0_wornLimit : MethodName := ⟨RX0, "wornLimit", "(III)I"⟩
abbrev cX0_freeOf : ByteArray := prog_2_method_6_code
def yX0_freeOf : MethodName := ⟨RX0, "freeOf", "(I)I"⟩
abbrev cX0_freeInAll : ByteArray := prog_2_method_7_code
def yX0_freeInAll : MethodName := ⟨RX0, "freeInAll", "()I"⟩
abbrev cX0_blamesOf : ByteArray := prog_2_method_8_code
def yX0_blamesOf : MethodName := ⟨RX0, "blamesOf", "(I)I"⟩
abbrev cX0_mayTake : ByteArray := prog_2_method_9_code
def yX0_mayTake : MethodName := ⟨RX0, "mayTake", "(II)Z"⟩
abbrev cX0_takers : ByteArray := prog_2_method_10_code
def yX0_takers : MethodName := ⟨RX0, "takers", "(I)I"⟩
abbrev cX0_cheapestFor : ByteArray := prog_2_method_11_code
def yX0_cheapestFor : MethodName := ⟨RX0, "cheapestFor", "(I)I"⟩
abbrev cX0_nearestFit : ByteArray := prog_2_method_12_code
def yX0_nearestFit : MethodName := ⟨RX0, "nearestFit", "(III)I"⟩
def RX1 : String := "BlameTown$Facts"
def TX1 : u_T := fun k => match k with
  | 0 => ("BlameTown$Facts", "there", "Z", false)
  | 1 => ("BlameTown$Facts", "jury", "I", false)
  | 2 => ("BlameTown$Facts", "pay", "I", false)
  | 3 => ("BlameTown$Facts", "men", "I", false)
  | 4 => ("BlameTown$Facts", "mishaps", "I", false)
  | 5 => ("BlameTown$Facts", "powers", "[I", true)
  | 6 => ("BlameTown$Facts", "hates", "[I", true)
  | 7 => ("BlameTown$Facts", "rates", "[I", true)
  | 8 => ("BlameTown$Facts", "rows", "[I", true)
  | 9 => ("BlameTown$Facts", "places", "[I", true)
  | 10 => ("BlameTown$Facts", "hours", "[I", true)
  | 11 => ("BlameTown$Facts", "needs", "[I", true)
  | 12 => ("BlameTown$Facts", "victims", "[I", true)
  | 13 => ("BlameTown$Facts", "sharers", "[I", true)
  | _ => ("BlameTown$Facts", "origins", "[I", true)
def tyX1 : Nat → FieldType := fun k => match k with
  | 0 => .boolean
  | 1 => .int
  | 2 => .int
  | 3 => .int
  | 4 => .int
  | 5 => .array .int
  | 6 => .array .int
  | 7 => .array .int
  | 8 => .array .int
  | 9 => .array .int
  | 10 => .array .int
  | 11 => .array .int
  | 12 => .array .int
  | 13 => .array .int
  | _ => .array .int
abbrev wsX10 : List Cond := u_ws RX1 TX1 15
theorem nmX1 : ∀ a, a < 15 → ∀ b, b < 15 → a ≠ b → (TX1 a).2.1 ≠ (TX1 b).2.1 := by decide +kernel
theorem tyX1_ok : ∀ k, k < 15 → parseFieldDescriptor (TX1 k).2.2.1 = some (tyX1 k) := by decide +kernel
abbrev cX1_init : ByteArray := prog_3_method_1_code
def yX1_init : MethodName := ⟨RX1, "<init>", "()V"⟩
abbrev cX1_empty : ByteArray := prog_3_method_2_code
def yX1_empty : MethodName := ⟨RX1, "empty", "()V"⟩
abbrev cX1_become : ByteArray := prog_3_method_3_code
def yX1_become : MethodName := ⟨RX1, "become", "(LBlameTown$Facts;)V"⟩
abbrev cX1_areFar : ByteArray := prog_3_method_4_code
def yX1_areFar : MethodName := ⟨RX1, "areFar", "(II)Z"⟩
abbrev cX1_ratesOf : ByteArray := prog_3_method_5_code
def yX1_ratesOf : MethodName := ⟨RX1, "ratesOf", "(I)I"⟩
abbrev cX1_chainOf : ByteArray := prog_3_method_6_code
def yX1_chainOf : MethodName := ⟨RX1, "chainOf", "(I)I"⟩
abbrev cX1_rootOf : ByteArray := prog_3_method_7_code
def yX1_rootOf : MethodName := ⟨RX1, "rootOf", "(I)I"⟩
abbrev cX1_wholeOf : ByteArray := prog_3_method_8_code
def yX1_wholeOf : MethodName := ⟨RX1, "wholeOf", "(I)I"⟩
def RX2 : String := "BlameTown$Image"
def TX2 : u_T := fun k => match k with
  | 0 => ("BlameTown$Image", "cells", "[I", true)
  | 1 => ("BlameTown$Image", "draws", "I", false)
  | _ => ("BlameTown$Image", "kept", "Z", false)
def tyX2 : Nat → FieldType := fun k => match k with
  | 0 => .array .int
  | 1 => .int
  | _ => .boolean
abbrev wsX20 : List Cond := u_ws RX2 TX2 3
theorem nmX2 : ∀ a, a < 3 → ∀ b, b < 3 → a ≠ b → (TX2 a).2.1 ≠ (TX2 b).2.1 := by decide +kernel
theorem tyX2_ok : ∀ k, k < 3 → parseFieldDescriptor (TX2 k).2.2.1 = some (tyX2 k) := by decide +kernel
abbrev cX2_init : ByteArray := prog_4_method_1_code
def yX2_init : MethodName := ⟨RX2, "<init>", "()V"⟩
def RX3 : String := "BlameTown$Papers"
def TX3 : u_T := fun k => match k with
  | 0 => ("BlameTown$Papers", "seenMan", "[I", true)
  | 1 => ("BlameTown$Papers", "seenHour", "[I", true)
  | 2 => ("BlameTown$Papers", "seenPlace", "[I", true)
  | 3 => ("BlameTown$Papers", "seen", "I", false)
  | 4 => ("BlameTown$Papers", "entryMan", "[I", true)
  | 5 => ("BlameTown$Papers", "entryMishap", "[I", true)
  | _ => ("BlameTown$Papers", "entries", "I", false)
def tyX3 : Nat → FieldType := fun k => match k with
  | 0 => .array .int
  | 1 => .array .int
  | 2 => .array .int
  | 3 => .int
  | 4 => .array .int
  | 5 => .array .int
  | _ => .int
abbrev wsX30 : List Cond := u_ws RX3 TX3 7
theorem nmX3 : ∀ a, a < 7 → ∀ b, b < 7 → a ≠ b → (TX3 a).2.1 ≠ (TX3 b).2.1 := by decide +kernel
theorem tyX3_ok : ∀ k, k < 7 → parseFieldDescriptor (TX3 k).2.2.1 = some (tyX3 k) := by decide +kernel
abbrev cX3_init : ByteArray := prog_5_method_1_code
def yX3_init : MethodName := ⟨RX3, "<init>", "()V"⟩
abbrev cX3_burn : ByteArray := prog_5_method_2_code
def yX3_burn : MethodName := ⟨RX3, "burn", "()V"⟩
abbrev cX3_addSeen : ByteArray := prog_5_method_3_code
def yX3_addSeen : MethodName := ⟨RX3, "addSeen", "(III)I"⟩
abbrev cX3_addEntry : ByteArray := prog_5_method_4_code
def yX3_addEntry : MethodName := ⟨RX3, "addEntry", "(II)I"⟩
abbrev cX3_excludes : ByteArray := prog_5_method_5_code
def yX3_excludes : MethodName := ⟨RX3, "excludes", "(III)Z"⟩
def RX4 : String := "BlameTown$Past"
def TX4 : u_T := fun k => match k with
  | 0 => ("BlameTown$Past", "rows", "[[I", true)
  | 1 => ("BlameTown$Past", "next", "I", false)
  | _ => ("BlameTown$Past", "count", "I", false)
def tyX4 : Nat → FieldType := fun k => match k with
  | 0 => .array (.array .int)
  | 1 => .int
  | _ => .int
abbrev wsX40 : List Cond := u_ws RX4 TX4 3
theorem nmX4 : ∀ a, a < 3 → ∀ b, b < 3 → a ≠ b → (TX4 a).2.1 ≠ (TX4 b).2.1 := by decide +kernel
theorem tyX4_ok : ∀ k, k < 3 → parseFieldDescriptor (TX4 k).2.2.1 = some (tyX4 k) := by decide +kernel
abbrev cX4_init : ByteArray := prog_6_method_1_code
def yX4_init : MethodName := ⟨RX4, "<init>", "()V"⟩
abbrev cX4_forget : ByteArray := prog_6_method_2_code
def yX4_forget : MethodName := ⟨RX4, "forget", "()V"⟩
abbrev cX4_remember : ByteArray := prog_6_method_3_code
def yX4_remember : MethodName := ⟨RX4, "remember", "(LBlameTown$Standing;)V"⟩
abbrev cX4_giveBack : ByteArray := prog_6_method_4_code
def yX4_giveBack : MethodName := ⟨RX4, "giveBack", "(ILBlameTown$Standing;)V"⟩
def RX5 : String := "BlameTown$Sharing"
def TX5 : u_T := fun k => match k with
  | 0 => ("BlameTown$Sharing", "facts", "LBlameTown$Facts;", true)
  | 1 => ("BlameTown$Sharing", "now", "LBlameTown$Standing;", true)
  | 2 => ("BlameTown$Sharing", "court", "LBlameTown$Court;", true)
  | 3 => ("BlameTown$Sharing", "wornBefore", "[I", true)
  | 4 => ("BlameTown$Sharing", "wornLimits", "[I", true)
  | 5 => ("BlameTown$Sharing", "farFrom", "[I", true)
  | 6 => ("BlameTown$Sharing", "sets", "[I", true)
  | 7 => ("BlameTown$Sharing", "prices", "[I", true)
  | 8 => ("BlameTown$Sharing", "setCounts", "[I", true)
  | 9 => ("BlameTown$Sharing", "restCosts", "[I", true)
  | 10 => ("BlameTown$Sharing", "given", "[I", true)
  | 11 => ("BlameTown$Sharing", "picked", "[I", true)
  | 12 => ("BlameTown$Sharing", "found", "[I", true)
  | _ => ("BlameTown$Sharing", "least", "I", false)
def tyX5 : Nat → FieldType := fun k => match k with
  | 0 => .object "BlameTown$Facts"
  | 1 => .object "BlameTown$Standing"
  | 2 => .object "BlameTown$Court"
  | 3 => .array .int
  | 4 => .array .int
  | 5 => .array .int
  | 6 => .array .int
  | 7 => .array .int
  | 8 => .array .int
  | 9 => .array .int
  | 10 => .array .int
  | 11 => .array .int
  | 12 => .array .int
  | _ => .int
abbrev wsX50 : List Cond := u_ws RX5 TX5 14
theorem nmX5 : ∀ a, a < 14 → ∀ b, b < 14 → a ≠ b → (TX5 a).2.1 ≠ (TX5 b).2.1 := by decide +kernel
theorem tyX5_ok : ∀ k, k < 14 → parseFieldDescriptor (TX5 k).2.2.1 = some (tyX5 k) := by decide +kernel
abbrev cX5_init : ByteArray := prog_7_method_1_code
def yX5_init : MethodName := ⟨RX5, "<init>", "(LBlameTown$Facts;LBlameTown$Standing;LBlameTown$Court;)V"⟩
abbrev cX5_solve : ByteArray := prog_7_method_2_code
def yX5_solve : MethodName := ⟨RX5, "solve", "()V"⟩
abbrev cX5_lookAt : ByteArray := prog_7_method_3_code
def yX5_lookAt : MethodName := ⟨RX5, "lookAt", "(I)V"⟩
abbrev cX5_listSets : ByteArray := prog_7_method_4_code
def yX5_listSets : MethodName := ⟨RX5, "listSets", "(I)V"⟩
abbrev cX5_addSet : ByteArray := prog_7_method_5_code
def yX5_addSet : MethodName := ⟨RX5, "addSet", "(III)V"⟩
abbrev cX5_allTake : ByteArray := prog_7_method_6_code
def yX5_allTake : MethodName := ⟨RX5, "allTake", "(II)Z"⟩
abbrev cX5_takes : ByteArray := prog_7_method_7_code
def yX5_takes : MethodName := ⟨RX5, "takes", "(II)Z"⟩
abbrev cX5_search : ByteArray := prog_7_method_8_code
def yX5_search : MethodName := ⟨RX5, "search", "(II)V"⟩
abbrev cX5_pick : ByteArray := prog_7_method_9_code
def yX5_pick : MethodName := ⟨RX5, "pick", "(III)V"⟩
abbrev cX5_give : ByteArray := prog_7_method_10_code
def yX5_give : MethodName := ⟨RX5, "give", "(II)V"⟩
def RX6 : String := "BlameTown$Standing"
def TX6 : u_T := fun k => match k with
  | _ => ("BlameTown$Standing", "cells", "[I", true)
def tyX6 : Nat → FieldType := fun k => match k with
  | _ => .array .int
abbrev wsX60 : List Cond := u_ws RX6 TX6 1
theorem nmX6 : ∀ a, a < 1 → ∀ b, b < 1 → a ≠ b → (TX6 a).2.1 ≠ (TX6 b).2.1 := by decide +kernel
theorem tyX6_ok : ∀ k, k < 1 → parseFieldDescriptor (TX6 k).2.2.1 = some (tyX6 k) := by decide +kernel
abbrev cX6_init : ByteArray := prog_8_method_1_code
def yX6_init : MethodName := ⟨RX6, "<init>", "()V"⟩
abbrev cX6_begin : ByteArray := prog_8_method_2_code
def yX6_begin : MethodName := ⟨RX6, "begin", "(LBlameTown$Facts;)V"⟩
abbrev cX6_takeRows : ByteArray := prog_8_method_3_code
def yX6_takeRows : MethodName := ⟨RX6, "takeRows", "(LBlameTown$Facts;)V"⟩
abbrev cX6_placeOf : ByteArray := prog_8_method_4_code
def yX6_placeOf : MethodName := ⟨RX6, "placeOf", "(II)I"⟩
abbrev cX6_setPlace : ByteArray := prog_8_method_5_code
def yX6_setPlace : MethodName := ⟨RX6, "setPlace", "(III)V"⟩
abbrev cX6_wornOf : ByteArray := prog_8_method_6_code
def yX6_wornOf : MethodName := ⟨RX6, "wornOf", "(I)I"⟩
abbrev cX6_wear : ByteArray := prog_8_method_7_code
def yX6_wear : MethodName := ⟨RX6, "wear", "(II)V"⟩
abbrev cX6_blamedFor : ByteArray := prog_8_method_8_code
def yX6_blamedFor : MethodName := ⟨RX6, "blamedFor", "(I)I"⟩
abbrev cX6_setBlamed : ByteArray := prog_8_method_9_code
def yX6_setBlamed : MethodName := ⟨RX6, "setBlamed", "(II)V"⟩
abbrev cX6_spent : ByteArray := prog_8_method_10_code
def yX6_spent : MethodName := ⟨RX6, "spent", "()I"⟩
abbrev cX6_spend : ByteArray := prog_8_method_11_code
def yX6_spend : MethodName := ⟨RX6, "spend", "(I)V"⟩
abbrev cX6_days : ByteArray := prog_8_method_12_code
def yX6_days : MethodName := ⟨RX6, "days", "()I"⟩
abbrev cX6_countDay : ByteArray := prog_8_method_13_code
def yX6_countDay : MethodName := ⟨RX6, "countDay", "()V"⟩
def RX7 : String := "BlameTown$Telling"
def TX7 : u_T := fun k => match k with
  | 0 => ("BlameTown$Telling", "text", "[I", true)
  | 1 => ("BlameTown$Telling", "letters", "I", false)
  | 2 => ("BlameTown$Telling", "faultAt", "I", false)
  | 3 => ("BlameTown$Telling", "fault", "I", false)
  | 4 => ("BlameTown$Telling", "next", "I", false)
  | _ => ("BlameTown$Telling", "numberAt", "I", false)
def tyX7 : Nat → FieldType := fun k => match k with
  | 0 => .array .int
  | 1 => .int
  | 2 => .int
  | 3 => .int
  | 4 => .int
  | _ => .int
abbrev wsX70 : List Cond := u_ws RX7 TX7 6
theorem nmX7 : ∀ a, a < 6 → ∀ b, b < 6 → a ≠ b → (TX7 a).2.1 ≠ (TX7 b).2.1 := by decide +kernel
theorem tyX7_ok : ∀ k, k < 6 → parseFieldDescriptor (TX7 k).2.2.1 = some (tyX7 k) := by decide +kernel
abbrev cX7_init : ByteArray := prog_9_method_1_code
def yX7_init : MethodName := ⟨RX7, "<init>", "()V"⟩
abbrev cX7_add : ByteArray := prog_9_method_2_code
def yX7_add : MethodName := ⟨RX7, "add", "(I)I"⟩
abbrev cX7_readInto : ByteArray := prog_9_method_3_code
def yX7_readInto : MethodName := ⟨RX7, "readInto", "(LBlameTown$Facts;)I"⟩
abbrev cX7_readClause : ByteArray := prog_9_method_4_code
def yX7_readClause : MethodName := ⟨RX7, "readClause", "(LBlameTown$Facts;)V"⟩
abbrev cX7_readJury : ByteArray := prog_9_method_5_code
def yX7_readJury : MethodName := ⟨RX7, "readJury", "(LBlameTown$Facts;)V"⟩
abbrev cX7_readMan : ByteArray := prog_9_method_6_code
def yX7_readMan : MethodName := ⟨RX7, "readMan", "(LBlameTown$Facts;)V"⟩
abbrev cX7_readMishap : ByteArray := prog_9_method_7_code
def yX7_readMishap : MethodName := ⟨RX7, "readMishap", "(LBlameTown$Facts;)V"⟩
abbrev cX7_readNumber : ByteArray := prog_9_method_8_code
def yX7_readNumber : MethodName := ⟨RX7, "readNumber", "(II)I"⟩
abbrev cX7_readRow : ByteArray := prog_9_method_9_code
def yX7_readRow : MethodName := ⟨RX7, "readRow", "(LBlameTown$Facts;I)V"⟩
abbrev cX7_readEnd : ByteArray := prog_9_method_10_code
def yX7_readEnd : MethodName := ⟨RX7, "readEnd", "()V"⟩
abbrev cX7_skipBlanks : ByteArray := prog_9_method_11_code
def yX7_skipBlanks : MethodName := ⟨RX7, "skipBlanks", "()V"⟩
abbrev cX7_here : ByteArray := prog_9_method_12_code
def yX7_here : MethodName := ⟨RX7, "here", "()I"⟩
abbrev cX7_mark : ByteArray := prog_9_method_13_code
def yX7_mark : MethodName := ⟨RX7, "mark", "(II)V"⟩
def RX8 : String := "BlameTown"
def TX8 : u_T := fun k => match k with
  | 0 => ("BlameTown", "telling", "LBlameTown$Telling;", true)
  | 1 => ("BlameTown", "draft", "LBlameTown$Facts;", true)
  | 2 => ("BlameTown", "facts", "LBlameTown$Facts;", true)
  | 3 => ("BlameTown", "now", "LBlameTown$Standing;", true)
  | 4 => ("BlameTown", "court", "LBlameTown$Court;", true)
  | 5 => ("BlameTown", "sharing", "LBlameTown$Sharing;", true)
  | 6 => ("BlameTown", "past", "LBlameTown$Past;", true)
  | 7 => ("BlameTown", "papers", "LBlameTown$Papers;", true)
  | 8 => ("BlameTown", "firstImage", "LBlameTown$Image;", true)
  | 9 => ("BlameTown", "secondImage", "LBlameTown$Image;", true)
  | 10 => ("BlameTown", "faultAt", "I", false)
  | _ => ("BlameTown", "draws", "I", false)
def tyX8 : Nat → FieldType := fun k => match k with
  | 0 => .object "BlameTown$Telling"
  | 1 => .object "BlameTown$Facts"
  | 2 => .object "BlameTown$Facts"
  | 3 => .object "BlameTown$Standing"
  | 4 => .object "BlameTown$Court"
  | 5 => .object "BlameTown$Sharing"
  | 6 => .object "BlameTown$Past"
  | 7 => .object "BlameTown$Papers"
  | 8 => .object "BlameTown$Image"
  | 9 => .object "BlameTown$Image"
  | 10 => .int
  | _ => .int
abbrev wsX80 : List Cond := u_ws RX8 TX8 12
theorem nmX8 : ∀ a, a < 12 → ∀ b, b < 12 → a ≠ b → (TX8 a).2.1 ≠ (TX8 b).2.1 := by decide +kernel
theorem tyX8_ok : ∀ k, k < 12 → parseFieldDescriptor (TX8 k).2.2.1 = some (tyX8 k) := by decide +kernel
abbrev cX8_init : ByteArray := prog_1_method_1_code
def yX8_init : MethodName := ⟨RX8, "<init>", "()V"⟩
abbrev cX8_feed : ByteArray := prog_1_method_2_code
def yX8_feed : MethodName := ⟨RX8, "feed", "(I)I"⟩
abbrev cX8_town : ByteArray := prog_1_method_3_code
def yX8_town : MethodName := ⟨RX8, "town", "()I"⟩
abbrev cX8_fault : ByteArray := prog_1_method_4_code
def yX8_fault : MethodName := ⟨RX8, "fault", "()I"⟩
abbrev cX8_told : ByteArray := prog_1_method_5_code
def yX8_told : MethodName := ⟨RX8, "told", "(I)I"⟩
abbrev cX8_man : ByteArray := prog_1_method_6_code
def yX8_man : MethodName := ⟨RX8, "man", "(II)I"⟩
abbrev cX8_mishap : ByteArray := prog_1_method_7_code
def yX8_mishap : MethodName := ⟨RX8, "mishap", "(II)I"⟩
abbrev cX8_belief : ByteArray := prog_1_method_8_code
def yX8_belief : MethodName := ⟨RX8, "belief", "(II)I"⟩
abbrev cX8_blame : ByteArray := prog_1_method_9_code
def yX8_blame : MethodName := ⟨RX8, "blame", "(II)I"⟩
abbrev cX8_clear : ByteArray := prog_1_method_10_code
def yX8_clear : MethodName := ⟨RX8, "clear", "(II)I"⟩
abbrev cX8_walk : ByteArray := prog_1_method_11_code
def yX8_walk : MethodName := ⟨RX8, "walk", "(III)I"⟩
abbrev cX8_sunset : ByteArray := prog_1_method_12_code
def yX8_sunset : MethodName := ⟨RX8, "sunset", "()I"⟩
abbrev cX8_drift : ByteArray := prog_1_method_13_code
def yX8_drift : MethodName := ⟨RX8, "drift", "(I)I"⟩
abbrev cX8_undo : ByteArray := prog_1_method_14_code
def yX8_undo : MethodName := ⟨RX8, "undo", "(I)I"⟩
abbrev cX8_may : ByteArray := prog_1_method_15_code
def yX8_may : MethodName := ⟨RX8, "may", "(I)I"⟩
abbrev cX8_orphans : ByteArray := prog_1_method_16_code
def yX8_orphans : MethodName := ⟨RX8, "orphans", "()I"⟩
abbrev cX8_shared : ByteArray := prog_1_method_17_code
def yX8_shared : MethodName := ⟨RX8, "shared", "(I)I"⟩
abbrev cX8_cheapest : ByteArray := prog_1_method_18_code
def yX8_cheapest : MethodName := ⟨RX8, "cheapest", "(I)I"⟩
abbrev cX8_culprits : ByteArray := prog_1_method_19_code
def yX8_culprits : MethodName := ⟨RX8, "culprits", "(I)I"⟩
abbrev cX8_idle : ByteArray := prog_1_method_20_code
def yX8_idle : MethodName := ⟨RX8, "idle", "()I"⟩
abbrev cX8_nearer : ByteArray := prog_1_method_21_code
def yX8_nearer : MethodName := ⟨RX8, "nearer", "(III)I"⟩
abbrev cX8_chain : ByteArray := prog_1_method_22_code
def yX8_chain : MethodName := ⟨RX8, "chain", "(II)I"⟩
abbrev cX8_quiet : ByteArray := prog_1_method_23_code
def yX8_quiet : MethodName := ⟨RX8, "quiet", "(II)I"⟩
abbrev cX8_see : ByteArray := prog_1_method_24_code
def yX8_see : MethodName := ⟨RX8, "see", "(III)I"⟩
abbrev cX8_alibi : ByteArray := prog_1_method_25_code
def yX8_alibi : MethodName := ⟨RX8, "alibi", "(I)I"⟩
abbrev cX8_write : ByteArray := prog_1_method_26_code
def yX8_write : MethodName := ⟨RX8, "write", "(II)I"⟩
abbrev cX8_judge : ByteArray := prog_1_method_27_code
def yX8_judge : MethodName := ⟨RX8, "judge", "()I"⟩
abbrev cX8_tear : ByteArray := prog_1_method_28_code
def yX8_tear : MethodName := ⟨RX8, "tear", "()I"⟩
abbrev cX8_seed : ByteArray := prog_1_method_29_code
def yX8_seed : MethodName := ⟨RX8, "seed", "(I)I"⟩
abbrev cX8_keep : ByteArray := prog_1_method_30_code
def yX8_keep : MethodName := ⟨RX8, "keep", "(I)I"⟩
abbrev cX8_goBack : ByteArray := prog_1_method_31_code
def yX8_goBack : MethodName := ⟨RX8, "goBack", "(I)I"⟩
abbrev cX8_isMan : ByteArray := prog_1_method_32_code
def yX8_isMan : MethodName := ⟨RX8, "isMan", "(I)Z"⟩
abbrev cX8_isMishap : ByteArray := prog_1_method_33_code
def yX8_isMishap : MethodName := ⟨RX8, "isMishap", "(I)Z"⟩
abbrev cX8_imageOf : ByteArray := prog_1_method_34_code
def yX8_imageOf : MethodName := ⟨RX8, "imageOf", "(I)LBlameTown$Image;"⟩
abbrev cX8_putBlame : ByteArray := prog_1_method_35_code
def yX8_putBlame : MethodName := ⟨RX8, "putBlame", "(II)V"⟩
abbrev cX8_blameByDraws : ByteArray := prog_1_method_36_code
def yX8_blameByDraws : MethodName := ⟨RX8, "blameByDraws", "(I)V"⟩
abbrev cX8_draw : ByteArray := prog_1_method_37_code
def yX8_draw : MethodName := ⟨RX8, "draw", "(I)I"⟩
abbrev cX8_endDay : ByteArray := prog_1_method_38_code
def yX8_endDay : MethodName := ⟨RX8, "endDay", "()I"⟩
abbrev cX8_isHour : ByteArray := prog_1_method_39_code
def yX8_isHour : MethodName := ⟨RX8, "isHour", "(I)Z"⟩
abbrev cX8_isPlace : ByteArray := prog_1_method_40_code
def yX8_isPlace : MethodName := ⟨RX8, "isPlace", "(I)Z"⟩
abbrev cX8_isWithin : ByteArray := prog_1_method_41_code
def yX8_isWithin : MethodName := ⟨RX8, "isWithin", "(III)Z"⟩
abbrev cX8_isIn : ByteArray := prog_1_method_42_code
def yX8_isIn : MethodName := ⟨RX8, "isIn", "(II)Z"⟩
abbrev cX8_memberOf : ByteArray := prog_1_method_43_code
def yX8_memberOf : MethodName := ⟨RX8, "memberOf", "(II)I"⟩
abbrev cX8_at : ByteArray := prog_1_method_44_code
def yX8_at : MethodName := ⟨RX8, "at", "([II)I"⟩
abbrev cX8_put : ByteArray := prog_1_method_45_code
def yX8_put : MethodName := ⟨RX8, "put", "([III)V"⟩
abbrev cX8_copyRow : ByteArray := prog_1_method_46_code
def yX8_copyRow : MethodName := ⟨RX8, "copyRow", "([I[I)V"⟩
def RX9 : String := "BlameTownModel"
def TX9 : u_T := fun k => match k with
  | 0 => ("BlameTownModel", "text", "[I", true)
  | 1 => ("BlameTownModel", "letters", "I", false)
  | 2 => ("BlameTownModel", "faultAt", "I", false)
  | 3 => ("BlameTownModel", "isTown", "Z", false)
  | 4 => ("BlameTownModel", "jury", "I", false)
  | 5 => ("BlameTownModel", "mayor", "I", false)
  | 6 => ("BlameTownModel", "men", "I", false)
  | 7 => ("BlameTownModel", "mishaps", "I", false)
  | 8 => ("BlameTownModel", "man", "[I", true)
  | 9 => ("BlameTownModel", "rows", "[I", true)
  | 10 => ("BlameTownModel", "mishap", "[I", true)
  | 11 => ("BlameTownModel", "draftJury", "I", false)
  | 12 => ("BlameTownModel", "draftMayor", "I", false)
  | 13 => ("BlameTownModel", "draftMen", "I", false)
  | 14 => ("BlameTownModel", "draftMishaps", "I", false)
  | 15 => ("BlameTownModel", "draftMan", "[I", true)
  | 16 => ("BlameTownModel", "draftRows", "[I", true)
  | 17 => ("BlameTownModel", "draftMishap", "[I", true)
  | 18 => ("BlameTownModel", "now", "[I", true)
  | 19 => ("BlameTownModel", "past", "[I", true)
  | 20 => ("BlameTownModel", "deeds", "I", false)
  | 21 => ("BlameTownModel", "images", "[I", true)
  | 22 => ("BlameTownModel", "imageSeeds", "[I", true)
  | 23 => ("BlameTownModel", "kept", "[Z", true)
  | 24 => ("BlameTownModel", "seed", "I", false)
  | 25 => ("BlameTownModel", "seen", "[I", true)
  | 26 => ("BlameTownModel", "sights", "I", false)
  | 27 => ("BlameTownModel", "book", "[I", true)
  | 28 => ("BlameTownModel", "entries", "I", false)
  | 29 => ("BlameTownModel", "at", "I", false)
  | 30 => ("BlameTownModel", "wrong", "I", false)
  | 31 => ("BlameTownModel", "options", "[I", true)
  | 32 => ("BlameTownModel", "many", "[I", true)
  | 33 => ("BlameTownModel", "place", "[I", true)
  | 34 => ("BlameTownModel", "best", "[I", true)
  | _ => ("BlameTownModel", "least", "I", false)
def tyX9 : Nat → FieldType := fun k => match k with
  | 0 => .array .int
  | 1 => .int
  | 2 => .int
  | 3 => .boolean
  | 4 => .int
  | 5 => .int
  | 6 => .int
  | 7 => .int
  | 8 => .array .int
  | 9 => .array .int
  | 10 => .array .int
  | 11 => .int
  | 12 => .int
  | 13 => .int
  | 14 => .int
  | 15 => .array .int
  | 16 => .array .int
  | 17 => .array .int
  | 18 => .array .int
  | 19 => .array .int
  | 20 => .int
  | 21 => .array .int
  | 22 => .array .int
  | 23 => .array .boolean
  | 24 => .int
  | 25 => .array .int
  | 26 => .int
  | 27 => .array .int
  | 28 => .int
  | 29 => .int
  | 30 => .int
  | 31 => .array .int
  | 32 => .array .int
  | 33 => .array .int
  | 34 => .array .int
  | _ => .int
abbrev wsX90 : List Cond := u_ws RX9 TX9 36
theorem nmX9 : ∀ a, a < 36 → ∀ b, b < 36 → a ≠ b → (TX9 a).2.1 ≠ (TX9 b).2.1 := by decide +kernel
theorem tyX9_ok : ∀ k, k < 36 → parseFieldDescriptor (TX9 k).2.2.1 = some (tyX9 k) := by decide +kernel
abbrev cX9_init : ByteArray := prog_11_method_1_code
def yX9_init : MethodName := ⟨RX9, "<init>", "()V"⟩
abbrev cX9_in : ByteArray := prog_11_method_3_code
def yX9_in : MethodName := ⟨RX9, "in", "(III)Z"⟩
abbrev cX9_has : ByteArray := prog_11_method_4_code
def yX9_has : MethodName := ⟨RX9, "has", "(II)Z"⟩
abbrev cX9_ones : ByteArray := prog_11_method_5_code
def yX9_ones : MethodName := ⟨RX9, "ones", "(I)I"⟩
abbrev cX9_off : ByteArray := prog_11_method_6_code
def yX9_off : MethodName := ⟨RX9, "off", "(II)I"⟩
abbrev cX9_feed : ByteArray := prog_11_method_7_code
def yX9_feed : MethodName := ⟨RX9, "feed", "(I)I"⟩
abbrev cX9_look : ByteArray := prog_11_method_8_code
def yX9_look : MethodName := ⟨RX9, "look", "()I"⟩
abbrev cX9_skips : ByteArray := prog_11_method_9_code
def yX9_skips : MethodName := ⟨RX9, "skips", "()V"⟩
abbrev cX9_fails : ByteArray := prog_11_method_10_code
def yX9_fails : MethodName := ⟨RX9, "fails", "(I)V"⟩
abbrev cX9_word : ByteArray := prog_11_method_11_code
def yX9_word : MethodName := ⟨RX9, "word", "(I)V"⟩
abbrev cX9_number : ByteArray := prog_11_method_12_code
def yX9_number : MethodName := ⟨RX9, "number", "(II)I"⟩
abbrev cX9_readsMan : ByteArray := prog_11_method_13_code
def yX9_readsMan : MethodName := ⟨RX9, "readsMan", "()V"⟩
abbrev cX9_readsMishap : ByteArray := prog_11_method_14_code
def yX9_readsMishap : MethodName := ⟨RX9, "readsMishap", "()V"⟩
abbrev cX9_reads : ByteArray := prog_11_method_15_code
def yX9_reads : MethodName := ⟨RX9, "reads", "()V"⟩
abbrev cX9_skipsIfWell : ByteArray := prog_11_method_16_code
def yX9_skipsIfWell : MethodName := ⟨RX9, "skipsIfWell", "()V"⟩
abbrev cX9_takes : ByteArray := prog_11_method_17_code
def yX9_takes : MethodName := ⟨RX9, "takes", "()V"⟩
abbrev cX9_town : ByteArray := prog_11_method_18_code
def yX9_town : MethodName := ⟨RX9, "town", "()I"⟩
abbrev cX9_fault : ByteArray := prog_11_method_19_code
def yX9_fault : MethodName := ⟨RX9, "fault", "()I"⟩
abbrev cX9_isMan : ByteArray := prog_11_method_20_code
def yX9_isMan : MethodName := ⟨RX9, "isMan", "(I)Z"⟩
abbrev cX9_isMishap : ByteArray := prog_11_method_21_code
def yX9_isMishap : MethodName := ⟨RX9, "isMishap", "(I)Z"⟩
abbrev cX9_blamedFor : ByteArray := prog_11_method_22_code
def yX9_blamedFor : MethodName := ⟨RX9, "blamedFor", "(I)I"⟩
abbrev cX9_free : ByteArray := prog_11_method_23_code
def yX9_free : MethodName := ⟨RX9, "free", "(I)I"⟩
abbrev cX9_allFree : ByteArray := prog_11_method_24_code
def yX9_allFree : MethodName := ⟨RX9, "allFree", "()I"⟩
abbrev cX9_told : ByteArray := prog_11_method_25_code
def yX9_told : MethodName := ⟨RX9, "told", "(I)I"⟩
abbrev cX9_blamesOf : ByteArray := prog_11_method_26_code
def yX9_blamesOf : MethodName := ⟨RX9, "blamesOf", "(I)I"⟩
abbrev cX9_man : ByteArray := prog_11_method_27_code
def yX9_man : MethodName := ⟨RX9, "man", "(II)I"⟩
abbrev cX9_mishap : ByteArray := prog_11_method_28_code
def yX9_mishap : MethodName := ⟨RX9, "mishap", "(II)I"⟩
abbrev cX9_whereIs : ByteArray := prog_11_method_29_code
def yX9_whereIs : MethodName := ⟨RX9, "whereIs", "(II)I"⟩
abbrev cX9_isNear : ByteArray := prog_11_method_30_code
def yX9_isNear : MethodName := ⟨RX9, "isNear", "(II)Z"⟩
abbrev cX9_can : ByteArray := prog_11_method_31_code
def yX9_can : MethodName := ⟨RX9, "can", "(II)Z"⟩
abbrev cX9_beliefAt : ByteArray := prog_11_method_32_code
def yX9_beliefAt : MethodName := ⟨RX9, "beliefAt", "(IIII)I"⟩
abbrev cX9_fits : ByteArray := prog_11_method_33_code
def yX9_fits : MethodName := ⟨RX9, "fits", "(III)Z"⟩
abbrev cX9_belief : ByteArray := prog_11_method_34_code
def yX9_belief : MethodName := ⟨RX9, "belief", "(II)I"⟩
abbrev cX9_areFar : ByteArray := prog_11_method_35_code
def yX9_areFar : MethodName := ⟨RX9, "areFar", "(II)Z"⟩
abbrev cX9_mayBe : ByteArray := prog_11_method_36_code
def yX9_mayBe : MethodName := ⟨RX9, "mayBe", "(II)Z"⟩
abbrev cX9_mayFor : ByteArray := prog_11_method_37_code
def yX9_mayFor : MethodName := ⟨RX9, "mayFor", "(I)I"⟩
abbrev cX9_copies : ByteArray := prog_11_method_38_code
def yX9_copies : MethodName := ⟨RX9, "copies", "([II[II)V"⟩
abbrev cX9_notes : ByteArray := prog_11_method_39_code
def yX9_notes : MethodName := ⟨RX9, "notes", "()V"⟩
abbrev cX9_blames : ByteArray := prog_11_method_40_code
def yX9_blames : MethodName := ⟨RX9, "blames", "(II)V"⟩
abbrev cX9_blame : ByteArray := prog_11_method_41_code
def yX9_blame : MethodName := ⟨RX9, "blame", "(II)I"⟩
abbrev cX9_clear : ByteArray := prog_11_method_42_code
def yX9_clear : MethodName := ⟨RX9, "clear", "(II)I"⟩
abbrev cX9_walk : ByteArray := prog_11_method_43_code
def yX9_walk : MethodName := ⟨RX9, "walk", "(III)I"⟩
abbrev cX9_sets : ByteArray := prog_11_method_44_code
def yX9_sets : MethodName := ⟨RX9, "sets", "()I"⟩
abbrev cX9_sunset : ByteArray := prog_11_method_45_code
def yX9_sunset : MethodName := ⟨RX9, "sunset", "()I"⟩
abbrev cX9_draw : ByteArray := prog_11_method_46_code
def yX9_draw : MethodName := ⟨RX9, "draw", "(I)I"⟩
abbrev cX9_member : ByteArray := prog_11_method_47_code
def yX9_member : MethodName := ⟨RX9, "member", "(II)I"⟩
abbrev cX9_drift : ByteArray := prog_11_method_48_code
def yX9_drift : MethodName := ⟨RX9, "drift", "(I)I"⟩
abbrev cX9_undo : ByteArray := prog_11_method_49_code
def yX9_undo : MethodName := ⟨RX9, "undo", "(I)I"⟩
abbrev cX9_may : ByteArray := prog_11_method_50_code
def yX9_may : MethodName := ⟨RX9, "may", "(I)I"⟩
abbrev cX9_orphans : ByteArray := prog_11_method_51_code
def yX9_orphans : MethodName := ⟨RX9, "orphans", "()I"⟩
abbrev cX9_canBe : ByteArray := prog_11_method_52_code
def yX9_canBe : MethodName := ⟨RX9, "canBe", "()Z"⟩
abbrev cX9_costs : ByteArray := prog_11_method_53_code
def yX9_costs : MethodName := ⟨RX9, "costs", "()I"⟩
abbrev cX9_counts : ByteArray := prog_11_method_54_code
def yX9_counts : MethodName := ⟨RX9, "counts", "()Z"⟩
abbrev cX9_shares : ByteArray := prog_11_method_55_code
def yX9_shares : MethodName := ⟨RX9, "shares", "()V"⟩
abbrev cX9_shared : ByteArray := prog_11_method_56_code
def yX9_shared : MethodName := ⟨RX9, "shared", "(I)I"⟩
abbrev cX9_cheapest : ByteArray := prog_11_method_57_code
def yX9_cheapest : MethodName := ⟨RX9, "cheapest", "(I)I"⟩
abbrev cX9_culprits : ByteArray := prog_11_method_58_code
def yX9_culprits : MethodName := ⟨RX9, "culprits", "(I)I"⟩
abbrev cX9_idle : ByteArray := prog_11_method_59_code
def yX9_idle : MethodName := ⟨RX9, "idle", "()I"⟩
abbrev cX9_nearer : ByteArray := prog_11_method_60_code
def yX9_nearer : MethodName := ⟨RX9, "nearer", "(III)I"⟩
abbrev cX9_root : ByteArray := prog_11_method_61_code
def yX9_root : MethodName := ⟨RX9, "root", "(I)I"⟩
abbrev cX9_chain : ByteArray := prog_11_method_62_code
def yX9_chain : MethodName := ⟨RX9, "chain", "(II)I"⟩
abbrev cX9_quiet : ByteArray := prog_11_method_63_code
def yX9_quiet : MethodName := ⟨RX9, "quiet", "(II)I"⟩
abbrev cX9_see : ByteArray := prog_11_method_64_code
def yX9_see : MethodName := ⟨RX9, "see", "(III)I"⟩
abbrev cX9_alibi : ByteArray := prog_11_method_65_code
def yX9_alibi : MethodName := ⟨RX9, "alibi", "(I)I"⟩
abbrev cX9_write : ByteArray := prog_11_method_66_code
def yX9_write : MethodName := ⟨RX9, "write", "(II)I"⟩
abbrev cX9_judge : ByteArray := prog_11_method_67_code
def yX9_judge : MethodName := ⟨RX9, "judge", "()I"⟩
abbrev cX9_tear : ByteArray := prog_11_method_68_code
def yX9_tear : MethodName := ⟨RX9, "tear", "()I"⟩
abbrev cX9_seed : ByteArray := prog_11_method_69_code
def yX9_seed : MethodName := ⟨RX9, "seed", "(I)I"⟩
abbrev cX9_keep : ByteArray := prog_11_method_70_code
def yX9_keep : MethodName := ⟨RX9, "keep", "(I)I"⟩
abbrev cX9_goBack : ByteArray := prog_11_method_71_code
def yX9_goBack : MethodName := ⟨RX9, "goBack", "(I)I"⟩
def RJ6 : String := "java/lang/Integer"
abbrev cJ6_bitCount_0f7a4 : ByteArray := prog_12_method_49_code
def yJ6_bitCount_0f7a4 : MethodName := ⟨RJ6, "bitCount", "(I)I"⟩
def RJ9 : String := "java/lang/Math"
abbrev cJ9_floorMod_7cf53 : ByteArray := prog_13_method_50_code
def yJ9_floorMod_7cf53 : MethodName := ⟨RJ9, "floorMod", "(II)I"⟩
abbrev cJ9_abs_0f7a4 : ByteArray := prog_13_method_59_code
def yJ9_abs_0f7a4 : MethodName := ⟨RJ9, "abs", "(I)I"⟩
abbrev cJ9_max_7cf53 : ByteArray := prog_13_method_65_code
def yJ9_max_7cf53 : MethodName := ⟨RJ9, "max", "(II)I"⟩
abbrev cJ9_min_7cf53 : ByteArray := prog_13_method_69_code
def yJ9_min_7cf53 : MethodName := ⟨RJ9, "min", "(II)I"⟩
def RL : String := "BlameTownLaw"
def yL_law : MethodName := ⟨RL, "law", "([I)Z"⟩
abbrev zCl : List vw_C := [(RX0, TX0, 2), (RX1, TX1, 15), (RX2, TX2, 3), (RX3, TX3, 7), (RX4, TX4, 3), (RX5, TX5, 14), (RX6, TX6, 1), (RX7, TX7, 6), (RX8, TX8, 12), (RX9, TX9, 36)]
