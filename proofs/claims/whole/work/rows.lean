section
-- ===== PART A: goes FIRST, ahead of the names: the tables' words, and 'selects' of the private methods out of them =====
/-- a private method of a class that the tables say can be made, by its rows of tables_1 -/
def lw_okq (q : MethodName × Nat) : Prop := (q.1.cls ≠ "java/lang/invoke/MethodHandle" ∧ q.1.cls ≠ "java/lang/invoke/VarHandle") ∧ Cond.instantiable q.1.cls q.2 ∈ tables_1 ∧ Cond.privateMethod q.1 ∈ tables_1 ∧ Cond.instanceMethod q.1 ∈ tables_1
theorem lw_p0 : lw_okq (⟨"BlameTown$Telling", "skipBlanks", "()V"⟩, 6) := ⟨⟨by decide +kernel, by decide +kernel⟩, List.mem_of_getElem? (i := 22) (by decide +kernel), List.mem_of_getElem? (i := 358) (by decide +kernel), List.mem_of_getElem? (i := 359) (by decide +kernel)⟩
theorem lw_p1 : lw_okq (⟨"BlameTown$Telling", "here", "()I"⟩, 6) := ⟨⟨by decide +kernel, by decide +kernel⟩, List.mem_of_getElem? (i := 22) (by decide +kernel), List.mem_of_getElem? (i := 362) (by decide +kernel), List.mem_of_getElem? (i := 363) (by decide +kernel)⟩
theorem lw_p2 : lw_okq (⟨"BlameTown$Telling", "readClause", "(LBlameTown$Facts;)V"⟩, 6) := ⟨⟨by decide +kernel, by decide +kernel⟩, List.mem_of_getElem? (i := 22) (by decide +kernel), List.mem_of_getElem? (i := 366) (by decide +kernel), List.mem_of_getElem? (i := 367) (by decide +kernel)⟩
theorem lw_p3 : lw_okq (⟨"BlameTown$Telling", "readJury", "(LBlameTown$Facts;)V"⟩, 6) := ⟨⟨by decide +kernel, by decide +kernel⟩, List.mem_of_getElem? (i := 22) (by decide +kernel), List.mem_of_getElem? (i := 370) (by decide +kernel), List.mem_of_getElem? (i := 371) (by decide +kernel)⟩
theorem lw_p4 : lw_okq (⟨"BlameTown$Telling", "mark", "(II)V"⟩, 6) := ⟨⟨by decide +kernel, by decide +kernel⟩, List.mem_of_getElem? (i := 22) (by decide +kernel), List.mem_of_getElem? (i := 374) (by decide +kernel), List.mem_of_getElem? (i := 375) (by decide +kernel)⟩
theorem lw_p5 : lw_okq (⟨"BlameTown$Telling", "readNumber", "(II)I"⟩, 6) := ⟨⟨by decide +kernel, by decide +kernel⟩, List.mem_of_getElem? (i := 22) (by decide +kernel), List.mem_of_getElem? (i := 378) (by decide +kernel), List.mem_of_getElem? (i := 379) (by decide +kernel)⟩
theorem lw_p6 : lw_okq (⟨"BlameTown$Telling", "readEnd", "()V"⟩, 6) := ⟨⟨by decide +kernel, by decide +kernel⟩, List.mem_of_getElem? (i := 22) (by decide +kernel), List.mem_of_getElem? (i := 387) (by decide +kernel), List.mem_of_getElem? (i := 388) (by decide +kernel)⟩
theorem lw_p7 : lw_okq (⟨"BlameTown$Telling", "readMan", "(LBlameTown$Facts;)V"⟩, 6) := ⟨⟨by decide +kernel, by decide +kernel⟩, List.mem_of_getElem? (i := 22) (by decide +kernel), List.mem_of_getElem? (i := 391) (by decide +kernel), List.mem_of_getElem? (i := 392) (by decide +kernel)⟩
theorem lw_p8 : lw_okq (⟨"BlameTown$Telling", "readRow", "(LBlameTown$Facts;I)V"⟩, 6) := ⟨⟨by decide +kernel, by decide +kernel⟩, List.mem_of_getElem? (i := 22) (by decide +kernel), List.mem_of_getElem? (i := 395) (by decide +kernel), List.mem_of_getElem? (i := 396) (by decide +kernel)⟩
theorem lw_p9 : lw_okq (⟨"BlameTown$Telling", "readMishap", "(LBlameTown$Facts;)V"⟩, 6) := ⟨⟨by decide +kernel, by decide +kernel⟩, List.mem_of_getElem? (i := 22) (by decide +kernel), List.mem_of_getElem? (i := 399) (by decide +kernel), List.mem_of_getElem? (i := 400) (by decide +kernel)⟩
theorem lw_p10 : lw_okq (⟨"BlameTown", "isMan", "(I)Z"⟩, 12) := ⟨⟨by decide +kernel, by decide +kernel⟩, List.mem_of_getElem? (i := 14) (by decide +kernel), List.mem_of_getElem? (i := 472) (by decide +kernel), List.mem_of_getElem? (i := 473) (by decide +kernel)⟩
theorem lw_p11 : lw_okq (⟨"BlameTown", "isMishap", "(I)Z"⟩, 12) := ⟨⟨by decide +kernel, by decide +kernel⟩, List.mem_of_getElem? (i := 14) (by decide +kernel), List.mem_of_getElem? (i := 497) (by decide +kernel), List.mem_of_getElem? (i := 498) (by decide +kernel)⟩
theorem lw_p12 : lw_okq (⟨"BlameTown", "putBlame", "(II)V"⟩, 12) := ⟨⟨by decide +kernel, by decide +kernel⟩, List.mem_of_getElem? (i := 14) (by decide +kernel), List.mem_of_getElem? (i := 551) (by decide +kernel), List.mem_of_getElem? (i := 552) (by decide +kernel)⟩
theorem lw_p13 : lw_okq (⟨"BlameTown", "endDay", "()I"⟩, 12) := ⟨⟨by decide +kernel, by decide +kernel⟩, List.mem_of_getElem? (i := 14) (by decide +kernel), List.mem_of_getElem? (i := 595) (by decide +kernel), List.mem_of_getElem? (i := 596) (by decide +kernel)⟩
theorem lw_p14 : lw_okq (⟨"BlameTown", "blameByDraws", "(I)V"⟩, 12) := ⟨⟨by decide +kernel, by decide +kernel⟩, List.mem_of_getElem? (i := 14) (by decide +kernel), List.mem_of_getElem? (i := 609) (by decide +kernel), List.mem_of_getElem? (i := 610) (by decide +kernel)⟩
theorem lw_p15 : lw_okq (⟨"BlameTown", "draw", "(I)I"⟩, 12) := ⟨⟨by decide +kernel, by decide +kernel⟩, List.mem_of_getElem? (i := 14) (by decide +kernel), List.mem_of_getElem? (i := 619) (by decide +kernel), List.mem_of_getElem? (i := 620) (by decide +kernel)⟩
def lw_privs_1 : List (MethodName × Nat) := [(⟨"BlameTown$Telling", "skipBlanks", "()V"⟩, 6), (⟨"BlameTown$Telling", "here", "()I"⟩, 6), (⟨"BlameTown$Telling", "readClause", "(LBlameTown$Facts;)V"⟩, 6), (⟨"BlameTown$Telling", "readJury", "(LBlameTown$Facts;)V"⟩, 6), (⟨"BlameTown$Telling", "mark", "(II)V"⟩, 6), (⟨"BlameTown$Telling", "readNumber", "(II)I"⟩, 6), (⟨"BlameTown$Telling", "readEnd", "()V"⟩, 6), (⟨"BlameTown$Telling", "readMan", "(LBlameTown$Facts;)V"⟩, 6), (⟨"BlameTown$Telling", "readRow", "(LBlameTown$Facts;I)V"⟩, 6), (⟨"BlameTown$Telling", "readMishap", "(LBlameTown$Facts;)V"⟩, 6), (⟨"BlameTown", "isMan", "(I)Z"⟩, 12), (⟨"BlameTown", "isMishap", "(I)Z"⟩, 12), (⟨"BlameTown", "putBlame", "(II)V"⟩, 12), (⟨"BlameTown", "endDay", "()I"⟩, 12), (⟨"BlameTown", "blameByDraws", "(I)V"⟩, 12), (⟨"BlameTown", "draw", "(I)I"⟩, 12)]
theorem lw_r1 : ∀ q ∈ lw_privs_1, lw_okq q := List.forall_mem_cons.mpr ⟨lw_p0, List.forall_mem_cons.mpr ⟨lw_p1, List.forall_mem_cons.mpr ⟨lw_p2, List.forall_mem_cons.mpr ⟨lw_p3, List.forall_mem_cons.mpr ⟨lw_p4, List.forall_mem_cons.mpr ⟨lw_p5, List.forall_mem_cons.mpr ⟨lw_p6, List.forall_mem_cons.mpr ⟨lw_p7, List.forall_mem_cons.mpr ⟨lw_p8, List.forall_mem_cons.mpr ⟨lw_p9, List.forall_mem_cons.mpr ⟨lw_p10, List.forall_mem_cons.mpr ⟨lw_p11, List.forall_mem_cons.mpr ⟨lw_p12, List.forall_mem_cons.mpr ⟨lw_p13, List.forall_mem_cons.mpr ⟨lw_p14, List.forall_mem_cons.mpr ⟨lw_p15, fun _ h => absurd h List.not_mem_nil⟩⟩⟩⟩⟩⟩⟩⟩⟩⟩⟩⟩⟩⟩⟩⟩
theorem lw_p16 : lw_okq (⟨"BlameTown$Sharing", "lookAt", "(I)V"⟩, 14) := ⟨⟨by decide +kernel, by decide +kernel⟩, List.mem_of_getElem? (i := 172) (by decide +kernel), List.mem_of_getElem? (i := 663) (by decide +kernel), List.mem_of_getElem? (i := 664) (by decide +kernel)⟩
theorem lw_p17 : lw_okq (⟨"BlameTown$Sharing", "listSets", "(I)V"⟩, 14) := ⟨⟨by decide +kernel, by decide +kernel⟩, List.mem_of_getElem? (i := 172) (by decide +kernel), List.mem_of_getElem? (i := 671) (by decide +kernel), List.mem_of_getElem? (i := 672) (by decide +kernel)⟩
theorem lw_p18 : lw_okq (⟨"BlameTown$Sharing", "addSet", "(III)V"⟩, 14) := ⟨⟨by decide +kernel, by decide +kernel⟩, List.mem_of_getElem? (i := 172) (by decide +kernel), List.mem_of_getElem? (i := 675) (by decide +kernel), List.mem_of_getElem? (i := 676) (by decide +kernel)⟩
theorem lw_p19 : lw_okq (⟨"BlameTown$Sharing", "allTake", "(II)Z"⟩, 14) := ⟨⟨by decide +kernel, by decide +kernel⟩, List.mem_of_getElem? (i := 172) (by decide +kernel), List.mem_of_getElem? (i := 679) (by decide +kernel), List.mem_of_getElem? (i := 680) (by decide +kernel)⟩
theorem lw_p20 : lw_okq (⟨"BlameTown$Sharing", "takes", "(II)Z"⟩, 14) := ⟨⟨by decide +kernel, by decide +kernel⟩, List.mem_of_getElem? (i := 172) (by decide +kernel), List.mem_of_getElem? (i := 684) (by decide +kernel), List.mem_of_getElem? (i := 685) (by decide +kernel)⟩
theorem lw_p21 : lw_okq (⟨"BlameTown$Sharing", "search", "(II)V"⟩, 14) := ⟨⟨by decide +kernel, by decide +kernel⟩, List.mem_of_getElem? (i := 172) (by decide +kernel), List.mem_of_getElem? (i := 695) (by decide +kernel), List.mem_of_getElem? (i := 696) (by decide +kernel)⟩
theorem lw_p22 : lw_okq (⟨"BlameTown$Sharing", "pick", "(III)V"⟩, 14) := ⟨⟨by decide +kernel, by decide +kernel⟩, List.mem_of_getElem? (i := 172) (by decide +kernel), List.mem_of_getElem? (i := 700) (by decide +kernel), List.mem_of_getElem? (i := 701) (by decide +kernel)⟩
theorem lw_p23 : lw_okq (⟨"BlameTown$Sharing", "give", "(II)V"⟩, 14) := ⟨⟨by decide +kernel, by decide +kernel⟩, List.mem_of_getElem? (i := 172) (by decide +kernel), List.mem_of_getElem? (i := 704) (by decide +kernel), List.mem_of_getElem? (i := 705) (by decide +kernel)⟩
theorem lw_p24 : lw_okq (⟨"BlameTown", "imageOf", "(I)LBlameTown$Image;"⟩, 12) := ⟨⟨by decide +kernel, by decide +kernel⟩, List.mem_of_getElem? (i := 14) (by decide +kernel), List.mem_of_getElem? (i := 802) (by decide +kernel), List.mem_of_getElem? (i := 803) (by decide +kernel)⟩
theorem lw_p25 : lw_okq (⟨"BlameTownModel", "skips", "()V"⟩, 36) := ⟨⟨by decide +kernel, by decide +kernel⟩, List.mem_of_getElem? (i := 811) (by decide +kernel), List.mem_of_getElem? (i := 940) (by decide +kernel), List.mem_of_getElem? (i := 941) (by decide +kernel)⟩
theorem lw_p26 : lw_okq (⟨"BlameTownModel", "look", "()I"⟩, 36) := ⟨⟨by decide +kernel, by decide +kernel⟩, List.mem_of_getElem? (i := 811) (by decide +kernel), List.mem_of_getElem? (i := 944) (by decide +kernel), List.mem_of_getElem? (i := 945) (by decide +kernel)⟩
theorem lw_p27 : lw_okq (⟨"BlameTownModel", "reads", "()V"⟩, 36) := ⟨⟨by decide +kernel, by decide +kernel⟩, List.mem_of_getElem? (i := 811) (by decide +kernel), List.mem_of_getElem? (i := 948) (by decide +kernel), List.mem_of_getElem? (i := 949) (by decide +kernel)⟩
theorem lw_p28 : lw_okq (⟨"BlameTownModel", "word", "(I)V"⟩, 36) := ⟨⟨by decide +kernel, by decide +kernel⟩, List.mem_of_getElem? (i := 811) (by decide +kernel), List.mem_of_getElem? (i := 952) (by decide +kernel), List.mem_of_getElem? (i := 953) (by decide +kernel)⟩
theorem lw_p29 : lw_okq (⟨"BlameTownModel", "fails", "(I)V"⟩, 36) := ⟨⟨by decide +kernel, by decide +kernel⟩, List.mem_of_getElem? (i := 811) (by decide +kernel), List.mem_of_getElem? (i := 956) (by decide +kernel), List.mem_of_getElem? (i := 957) (by decide +kernel)⟩
theorem lw_p30 : lw_okq (⟨"BlameTownModel", "number", "(II)I"⟩, 36) := ⟨⟨by decide +kernel, by decide +kernel⟩, List.mem_of_getElem? (i := 811) (by decide +kernel), List.mem_of_getElem? (i := 960) (by decide +kernel), List.mem_of_getElem? (i := 961) (by decide +kernel)⟩
theorem lw_p31 : lw_okq (⟨"BlameTownModel", "skipsIfWell", "()V"⟩, 36) := ⟨⟨by decide +kernel, by decide +kernel⟩, List.mem_of_getElem? (i := 811) (by decide +kernel), List.mem_of_getElem? (i := 964) (by decide +kernel), List.mem_of_getElem? (i := 965) (by decide +kernel)⟩
def lw_privs_2 : List (MethodName × Nat) := [(⟨"BlameTown$Sharing", "lookAt", "(I)V"⟩, 14), (⟨"BlameTown$Sharing", "listSets", "(I)V"⟩, 14), (⟨"BlameTown$Sharing", "addSet", "(III)V"⟩, 14), (⟨"BlameTown$Sharing", "allTake", "(II)Z"⟩, 14), (⟨"BlameTown$Sharing", "takes", "(II)Z"⟩, 14), (⟨"BlameTown$Sharing", "search", "(II)V"⟩, 14), (⟨"BlameTown$Sharing", "pick", "(III)V"⟩, 14), (⟨"BlameTown$Sharing", "give", "(II)V"⟩, 14), (⟨"BlameTown", "imageOf", "(I)LBlameTown$Image;"⟩, 12), (⟨"BlameTownModel", "skips", "()V"⟩, 36), (⟨"BlameTownModel", "look", "()I"⟩, 36), (⟨"BlameTownModel", "reads", "()V"⟩, 36), (⟨"BlameTownModel", "word", "(I)V"⟩, 36), (⟨"BlameTownModel", "fails", "(I)V"⟩, 36), (⟨"BlameTownModel", "number", "(II)I"⟩, 36), (⟨"BlameTownModel", "skipsIfWell", "()V"⟩, 36)]
theorem lw_r2 : ∀ q ∈ lw_privs_2, lw_okq q := List.forall_mem_cons.mpr ⟨lw_p16, List.forall_mem_cons.mpr ⟨lw_p17, List.forall_mem_cons.mpr ⟨lw_p18, List.forall_mem_cons.mpr ⟨lw_p19, List.forall_mem_cons.mpr ⟨lw_p20, List.forall_mem_cons.mpr ⟨lw_p21, List.forall_mem_cons.mpr ⟨lw_p22, List.forall_mem_cons.mpr ⟨lw_p23, List.forall_mem_cons.mpr ⟨lw_p24, List.forall_mem_cons.mpr ⟨lw_p25, List.forall_mem_cons.mpr ⟨lw_p26, List.forall_mem_cons.mpr ⟨lw_p27, List.forall_mem_cons.mpr ⟨lw_p28, List.forall_mem_cons.mpr ⟨lw_p29, List.forall_mem_cons.mpr ⟨lw_p30, List.forall_mem_cons.mpr ⟨lw_p31, fun _ h => absurd h List.not_mem_nil⟩⟩⟩⟩⟩⟩⟩⟩⟩⟩⟩⟩⟩⟩⟩⟩
theorem lw_p32 : lw_okq (⟨"BlameTownModel", "readsMan", "()V"⟩, 36) := ⟨⟨by decide +kernel, by decide +kernel⟩, List.mem_of_getElem? (i := 811) (by decide +kernel), List.mem_of_getElem? (i := 968) (by decide +kernel), List.mem_of_getElem? (i := 969) (by decide +kernel)⟩
theorem lw_p33 : lw_okq (⟨"BlameTownModel", "readsMishap", "()V"⟩, 36) := ⟨⟨by decide +kernel, by decide +kernel⟩, List.mem_of_getElem? (i := 811) (by decide +kernel), List.mem_of_getElem? (i := 972) (by decide +kernel), List.mem_of_getElem? (i := 973) (by decide +kernel)⟩
theorem lw_p34 : lw_okq (⟨"BlameTownModel", "takes", "()V"⟩, 36) := ⟨⟨by decide +kernel, by decide +kernel⟩, List.mem_of_getElem? (i := 811) (by decide +kernel), List.mem_of_getElem? (i := 976) (by decide +kernel), List.mem_of_getElem? (i := 977) (by decide +kernel)⟩
theorem lw_p35 : lw_okq (⟨"BlameTownModel", "allFree", "()I"⟩, 36) := ⟨⟨by decide +kernel, by decide +kernel⟩, List.mem_of_getElem? (i := 811) (by decide +kernel), List.mem_of_getElem? (i := 988) (by decide +kernel), List.mem_of_getElem? (i := 989) (by decide +kernel)⟩
theorem lw_p36 : lw_okq (⟨"BlameTownModel", "free", "(I)I"⟩, 36) := ⟨⟨by decide +kernel, by decide +kernel⟩, List.mem_of_getElem? (i := 811) (by decide +kernel), List.mem_of_getElem? (i := 992) (by decide +kernel), List.mem_of_getElem? (i := 993) (by decide +kernel)⟩
theorem lw_p37 : lw_okq (⟨"BlameTownModel", "blamedFor", "(I)I"⟩, 36) := ⟨⟨by decide +kernel, by decide +kernel⟩, List.mem_of_getElem? (i := 811) (by decide +kernel), List.mem_of_getElem? (i := 996) (by decide +kernel), List.mem_of_getElem? (i := 997) (by decide +kernel)⟩
theorem lw_p38 : lw_okq (⟨"BlameTownModel", "isMan", "(I)Z"⟩, 36) := ⟨⟨by decide +kernel, by decide +kernel⟩, List.mem_of_getElem? (i := 811) (by decide +kernel), List.mem_of_getElem? (i := 1007) (by decide +kernel), List.mem_of_getElem? (i := 1008) (by decide +kernel)⟩
theorem lw_p39 : lw_okq (⟨"BlameTownModel", "blamesOf", "(I)I"⟩, 36) := ⟨⟨by decide +kernel, by decide +kernel⟩, List.mem_of_getElem? (i := 811) (by decide +kernel), List.mem_of_getElem? (i := 1012) (by decide +kernel), List.mem_of_getElem? (i := 1013) (by decide +kernel)⟩
theorem lw_p40 : lw_okq (⟨"BlameTownModel", "isMishap", "(I)Z"⟩, 36) := ⟨⟨by decide +kernel, by decide +kernel⟩, List.mem_of_getElem? (i := 811) (by decide +kernel), List.mem_of_getElem? (i := 1023) (by decide +kernel), List.mem_of_getElem? (i := 1024) (by decide +kernel)⟩
theorem lw_p41 : lw_okq (⟨"BlameTownModel", "isNear", "(II)Z"⟩, 36) := ⟨⟨by decide +kernel, by decide +kernel⟩, List.mem_of_getElem? (i := 811) (by decide +kernel), List.mem_of_getElem? (i := 1031) (by decide +kernel), List.mem_of_getElem? (i := 1032) (by decide +kernel)⟩
theorem lw_p42 : lw_okq (⟨"BlameTownModel", "whereIs", "(II)I"⟩, 36) := ⟨⟨by decide +kernel, by decide +kernel⟩, List.mem_of_getElem? (i := 811) (by decide +kernel), List.mem_of_getElem? (i := 1035) (by decide +kernel), List.mem_of_getElem? (i := 1036) (by decide +kernel)⟩
theorem lw_p43 : lw_okq (⟨"BlameTownModel", "can", "(II)Z"⟩, 36) := ⟨⟨by decide +kernel, by decide +kernel⟩, List.mem_of_getElem? (i := 811) (by decide +kernel), List.mem_of_getElem? (i := 1042) (by decide +kernel), List.mem_of_getElem? (i := 1043) (by decide +kernel)⟩
theorem lw_p44 : lw_okq (⟨"BlameTownModel", "beliefAt", "(IIII)I"⟩, 36) := ⟨⟨by decide +kernel, by decide +kernel⟩, List.mem_of_getElem? (i := 811) (by decide +kernel), List.mem_of_getElem? (i := 1046) (by decide +kernel), List.mem_of_getElem? (i := 1047) (by decide +kernel)⟩
theorem lw_p45 : lw_okq (⟨"BlameTownModel", "mayBe", "(II)Z"⟩, 36) := ⟨⟨by decide +kernel, by decide +kernel⟩, List.mem_of_getElem? (i := 811) (by decide +kernel), List.mem_of_getElem? (i := 1054) (by decide +kernel), List.mem_of_getElem? (i := 1055) (by decide +kernel)⟩
theorem lw_p46 : lw_okq (⟨"BlameTownModel", "fits", "(III)Z"⟩, 36) := ⟨⟨by decide +kernel, by decide +kernel⟩, List.mem_of_getElem? (i := 811) (by decide +kernel), List.mem_of_getElem? (i := 1058) (by decide +kernel), List.mem_of_getElem? (i := 1059) (by decide +kernel)⟩
theorem lw_p47 : lw_okq (⟨"BlameTownModel", "areFar", "(II)Z"⟩, 36) := ⟨⟨by decide +kernel, by decide +kernel⟩, List.mem_of_getElem? (i := 811) (by decide +kernel), List.mem_of_getElem? (i := 1062) (by decide +kernel), List.mem_of_getElem? (i := 1063) (by decide +kernel)⟩
def lw_privs_3 : List (MethodName × Nat) := [(⟨"BlameTownModel", "readsMan", "()V"⟩, 36), (⟨"BlameTownModel", "readsMishap", "()V"⟩, 36), (⟨"BlameTownModel", "takes", "()V"⟩, 36), (⟨"BlameTownModel", "allFree", "()I"⟩, 36), (⟨"BlameTownModel", "free", "(I)I"⟩, 36), (⟨"BlameTownModel", "blamedFor", "(I)I"⟩, 36), (⟨"BlameTownModel", "isMan", "(I)Z"⟩, 36), (⟨"BlameTownModel", "blamesOf", "(I)I"⟩, 36), (⟨"BlameTownModel", "isMishap", "(I)Z"⟩, 36), (⟨"BlameTownModel", "isNear", "(II)Z"⟩, 36), (⟨"BlameTownModel", "whereIs", "(II)I"⟩, 36), (⟨"BlameTownModel", "can", "(II)Z"⟩, 36), (⟨"BlameTownModel", "beliefAt", "(IIII)I"⟩, 36), (⟨"BlameTownModel", "mayBe", "(II)Z"⟩, 36), (⟨"BlameTownModel", "fits", "(III)Z"⟩, 36), (⟨"BlameTownModel", "areFar", "(II)Z"⟩, 36)]
theorem lw_r3 : ∀ q ∈ lw_privs_3, lw_okq q := List.forall_mem_cons.mpr ⟨lw_p32, List.forall_mem_cons.mpr ⟨lw_p33, List.forall_mem_cons.mpr ⟨lw_p34, List.forall_mem_cons.mpr ⟨lw_p35, List.forall_mem_cons.mpr ⟨lw_p36, List.forall_mem_cons.mpr ⟨lw_p37, List.forall_mem_cons.mpr ⟨lw_p38, List.forall_mem_cons.mpr ⟨lw_p39, List.forall_mem_cons.mpr ⟨lw_p40, List.forall_mem_cons.mpr ⟨lw_p41, List.forall_mem_cons.mpr ⟨lw_p42, List.forall_mem_cons.mpr ⟨lw_p43, List.forall_mem_cons.mpr ⟨lw_p44, List.forall_mem_cons.mpr ⟨lw_p45, List.forall_mem_cons.mpr ⟨lw_p46, List.forall_mem_cons.mpr ⟨lw_p47, fun _ h => absurd h List.not_mem_nil⟩⟩⟩⟩⟩⟩⟩⟩⟩⟩⟩⟩⟩⟩⟩⟩
theorem lw_p48 : lw_okq (⟨"BlameTownModel", "notes", "()V"⟩, 36) := ⟨⟨by decide +kernel, by decide +kernel⟩, List.mem_of_getElem? (i := 811) (by decide +kernel), List.mem_of_getElem? (i := 1067) (by decide +kernel), List.mem_of_getElem? (i := 1068) (by decide +kernel)⟩
theorem lw_p49 : lw_okq (⟨"BlameTownModel", "blames", "(II)V"⟩, 36) := ⟨⟨by decide +kernel, by decide +kernel⟩, List.mem_of_getElem? (i := 811) (by decide +kernel), List.mem_of_getElem? (i := 1074) (by decide +kernel), List.mem_of_getElem? (i := 1075) (by decide +kernel)⟩
theorem lw_p50 : lw_okq (⟨"BlameTownModel", "sets", "()I"⟩, 36) := ⟨⟨by decide +kernel, by decide +kernel⟩, List.mem_of_getElem? (i := 811) (by decide +kernel), List.mem_of_getElem? (i := 1090) (by decide +kernel), List.mem_of_getElem? (i := 1091) (by decide +kernel)⟩
theorem lw_p51 : lw_okq (⟨"BlameTownModel", "mayFor", "(I)I"⟩, 36) := ⟨⟨by decide +kernel, by decide +kernel⟩, List.mem_of_getElem? (i := 811) (by decide +kernel), List.mem_of_getElem? (i := 1098) (by decide +kernel), List.mem_of_getElem? (i := 1099) (by decide +kernel)⟩
theorem lw_p52 : lw_okq (⟨"BlameTownModel", "draw", "(I)I"⟩, 36) := ⟨⟨by decide +kernel, by decide +kernel⟩, List.mem_of_getElem? (i := 811) (by decide +kernel), List.mem_of_getElem? (i := 1102) (by decide +kernel), List.mem_of_getElem? (i := 1103) (by decide +kernel)⟩
theorem lw_p53 : lw_okq (⟨"BlameTownModel", "shares", "()V"⟩, 36) := ⟨⟨by decide +kernel, by decide +kernel⟩, List.mem_of_getElem? (i := 811) (by decide +kernel), List.mem_of_getElem? (i := 1129) (by decide +kernel), List.mem_of_getElem? (i := 1130) (by decide +kernel)⟩
theorem lw_p54 : lw_okq (⟨"BlameTownModel", "costs", "()I"⟩, 36) := ⟨⟨by decide +kernel, by decide +kernel⟩, List.mem_of_getElem? (i := 811) (by decide +kernel), List.mem_of_getElem? (i := 1133) (by decide +kernel), List.mem_of_getElem? (i := 1134) (by decide +kernel)⟩
theorem lw_p55 : lw_okq (⟨"BlameTownModel", "canBe", "()Z"⟩, 36) := ⟨⟨by decide +kernel, by decide +kernel⟩, List.mem_of_getElem? (i := 811) (by decide +kernel), List.mem_of_getElem? (i := 1137) (by decide +kernel), List.mem_of_getElem? (i := 1138) (by decide +kernel)⟩
theorem lw_p56 : lw_okq (⟨"BlameTownModel", "counts", "()Z"⟩, 36) := ⟨⟨by decide +kernel, by decide +kernel⟩, List.mem_of_getElem? (i := 811) (by decide +kernel), List.mem_of_getElem? (i := 1141) (by decide +kernel), List.mem_of_getElem? (i := 1142) (by decide +kernel)⟩
theorem lw_p57 : lw_okq (⟨"BlameTownModel", "root", "(I)I"⟩, 36) := ⟨⟨by decide +kernel, by decide +kernel⟩, List.mem_of_getElem? (i := 811) (by decide +kernel), List.mem_of_getElem? (i := 1165) (by decide +kernel), List.mem_of_getElem? (i := 1166) (by decide +kernel)⟩
def lw_privs_4 : List (MethodName × Nat) := [(⟨"BlameTownModel", "notes", "()V"⟩, 36), (⟨"BlameTownModel", "blames", "(II)V"⟩, 36), (⟨"BlameTownModel", "sets", "()I"⟩, 36), (⟨"BlameTownModel", "mayFor", "(I)I"⟩, 36), (⟨"BlameTownModel", "draw", "(I)I"⟩, 36), (⟨"BlameTownModel", "shares", "()V"⟩, 36), (⟨"BlameTownModel", "costs", "()I"⟩, 36), (⟨"BlameTownModel", "canBe", "()Z"⟩, 36), (⟨"BlameTownModel", "counts", "()Z"⟩, 36), (⟨"BlameTownModel", "root", "(I)I"⟩, 36)]
theorem lw_r4 : ∀ q ∈ lw_privs_4, lw_okq q := List.forall_mem_cons.mpr ⟨lw_p48, List.forall_mem_cons.mpr ⟨lw_p49, List.forall_mem_cons.mpr ⟨lw_p50, List.forall_mem_cons.mpr ⟨lw_p51, List.forall_mem_cons.mpr ⟨lw_p52, List.forall_mem_cons.mpr ⟨lw_p53, List.forall_mem_cons.mpr ⟨lw_p54, List.forall_mem_cons.mpr ⟨lw_p55, List.forall_mem_cons.mpr ⟨lw_p56, List.forall_mem_cons.mpr ⟨lw_p57, fun _ h => absurd h List.not_mem_nil⟩⟩⟩⟩⟩⟩⟩⟩⟩⟩
def lw_privs : List (MethodName × Nat) := lw_privs_1 ++ (lw_privs_2 ++ (lw_privs_3 ++ (lw_privs_4)))
def lw_tbl : List Cond := k2_sels lw_privs ++ tables_1
theorem lw_privs_ok : ∀ q ∈ lw_privs, lw_okq q := by
  show ∀ q ∈ lw_privs_1 ++ (lw_privs_2 ++ (lw_privs_3 ++ (lw_privs_4))), lw_okq q
  exact List.forall_mem_append.mpr ⟨lw_r1, List.forall_mem_append.mpr ⟨lw_r2, List.forall_mem_append.mpr ⟨lw_r3, lw_r4⟩⟩⟩
def RX0 : String := "BlameTown$Court"
def TX0 : u_T := fun k => match k with
  | 0 => ("BlameTown$Court", "facts", "LBlameTown$Facts;", true)
  | _ => ("BlameTown$Court", "now", "LBlameTown$Standing;", true)
def tyX0 : Nat → FieldType := fun k => match k with
  | 0 => .object "BlameTown$Facts"
  | _ => .object "BlameTown$Standing"
abbrev wsX00 : List Cond := u_ws RX0 TX0 2
theorem nmX0 : ∀ a, a < 2 → ∀ b, b < 2 → a ≠ b → (TX0 a).2.1 ≠ (TX0 b).2.1 := by decide +kernel
theorem tyX0_ok : ∀ k, k < 2 → parseFieldDescriptor (TX0 k).2.2.1 = some (tyX0 k) := by decide +kernel
abbrev cX0_init : ByteArray := prog_2_method_1_code
def yX0_init : MethodName := ⟨RX0, "<init>", "(LBlameTown$Facts;LBlameTown$Standing;)V"⟩
abbrev cX0_isNear : ByteArray := prog_2_method_2_code
def yX0_isNear : MethodName := ⟨RX0, "isNear", "(II)Z"⟩
abbrev cX0_hasPowers : ByteArray := prog_2_method_3_code
def yX0_hasPowers : MethodName := ⟨RX0, "hasPowers", "(II)Z"⟩
abbrev cX0_freshBelief : ByteArray := prog_2_method_4_code
def yX0_freshBelief : MethodName := ⟨RX0, "freshBelief", "(III)I"⟩
abbrev cX0_wornLimit : ByteArray := prog_2_method_5_code
def yX0_wornLimit : MethodName := ⟨RX0, "wornLimit", "(III)I"⟩
abbrev cX0_freeOf : ByteArray := prog_2_method_6_code
def yX0_freeOf : MethodName := ⟨RX0, "freeOf", "(I)I"⟩
abbrev cX0_freeInAll : ByteArray := prog_2_method_7_code
def yX0_freeInAll : MethodName := ⟨RX0, "freeInAll", "()I"⟩
abbrev cX0_blamesOf : ByteArray := prog_2_method_8_code
def yX0_blamesOf : MethodName := ⟨RX0, "blamesOf", "(I)I"⟩
abbrev cX0_mayTake : ByteArray := prog_2_method_9_code
def yX0_mayTake : MethodName := ⟨RX0, "mayTake", "(II)Z"⟩
abbrev cX0_takers : ByteArray := prog_2_method_10_code
def yX0_takers : MethodName := ⟨RX0, "takers", "(I)I"⟩
abbrev cX0_cheapestFor : ByteArray := prog_2_method_11_code
def yX0_cheapestFor : MethodName := ⟨RX0, "cheapestFor", "(I)I"⟩
abbrev cX0_nearestFit : ByteArray := prog_2_method_12_code
def yX0_nearestFit : MethodName := ⟨RX0, "nearestFit", "(III)I"⟩
def RX1 : String := "BlameTown$Facts"
def TX1 : u_T := fun k => match k with
  | 0 => ("BlameTown$Facts", "there", "Z", false)
  | 1 => ("BlameTown$Facts", "jury", "I", false)
  | 2 => ("BlameTown$Facts", "pay", "I", false)
  | 3 => ("BlameTown$Facts", "men", "I", false)
  | 4 => ("BlameTown$Facts", "mishaps", "I", false)
  | 5 => ("BlameTown$Facts", "powers", "[I", true)
  | 6 => ("BlameTown$Facts", "hates", "[I", true)
  | 7 => ("BlameTown$Facts", "rates", "[I", true)
  | 8 => ("BlameTown$Facts", "rows", "[I", true)
  | 9 => ("BlameTown$Facts", "places", "[I", true)
  | 10 => ("BlameTown$Facts", "hours", "[I", true)
  | 11 => ("BlameTown$Facts", "needs", "[I", true)
  | 12 => ("BlameTown$Facts", "victims", "[I", true)
  | 13 => ("BlameTown$Facts", "sharers", "[I", true)
  | _ => ("BlameTown$Facts", "origins", "[I", true)
def tyX1 : Nat → FieldType := fun k => match k with
  | 0 => .boolean
  | 1 => .int
  | 2 => .int
  | 3 => .int
  | 4 => .int
  | 5 => .array .int
  | 6 => .array .int
  | 7 => .array .int
  | 8 => .array .int
  | 9 => .array .int
  | 10 => .array .int
  | 11 => .array .int
  | 12 => .array .int
  | 13 => .array .int
  | _ => .array .int
abbrev wsX10 : List Cond := u_ws RX1 TX1 15
theorem nmX1 : ∀ a, a < 15 → ∀ b, b < 15 → a ≠ b → (TX1 a).2.1 ≠ (TX1 b).2.1 := by decide +kernel
theorem tyX1_ok : ∀ k, k < 15 → parseFieldDescriptor (TX1 k).2.2.1 = some (tyX1 k) := by decide +kernel
abbrev cX1_init : ByteArray := prog_3_method_1_code
def yX1_init : MethodName := ⟨RX1, "<init>", "()V"⟩
abbrev cX1_empty : ByteArray := prog_3_method_2_code
def yX1_empty : MethodName := ⟨RX1, "empty", "()V"⟩
abbrev cX1_become : ByteArray := prog_3_method_3_code
def yX1_become : MethodName := ⟨RX1, "become", "(LBlameTown$Facts;)V"⟩
abbrev cX1_areFar : ByteArray := prog_3_method_4_code
def yX1_areFar : MethodName := ⟨RX1, "areFar", "(II)Z"⟩
abbrev cX1_ratesOf : ByteArray := prog_3_method_5_code
def yX1_ratesOf : MethodName := ⟨RX1, "ratesOf", "(I)I"⟩
abbrev cX1_chainOf : ByteArray := prog_3_method_6_code
def yX1_chainOf : MethodName := ⟨RX1, "chainOf", "(I)I"⟩
abbrev cX1_rootOf : ByteArray := prog_3_method_7_code
def yX1_rootOf : MethodName := ⟨RX1, "rootOf", "(I)I"⟩
abbrev cX1_wholeOf : ByteArray := prog_3_method_8_code
def yX1_wholeOf : MethodName := ⟨RX1, "wholeOf", "(I)I"⟩
def RX2 : String := "BlameTown$Image"
def TX2 : u_T := fun k => match k with
  | 0 => ("BlameTown$Image", "cells", "[I", true)
  | 1 => ("BlameTown$Image", "draws", "I", false)
  | _ => ("BlameTown$Image", "kept", "Z", false)
def tyX2 : Nat → FieldType := fun k => match k with
  | 0 => .array .int
  | 1 => .int
  | _ => .boolean
abbrev wsX20 : List Cond := u_ws RX2 TX2 3
theorem nmX2 : ∀ a, a < 3 → ∀ b, b < 3 → a ≠ b → (TX2 a).2.1 ≠ (TX2 b).2.1 := by decide +kernel
theorem tyX2_ok : ∀ k, k < 3 → parseFieldDescriptor (TX2 k).2.2.1 = some (tyX2 k) := by decide +kernel
abbrev cX2_init : ByteArray := prog_4_method_1_code
def yX2_init : MethodName := ⟨RX2, "<init>", "()V"⟩
def RX3 : String := "BlameTown$Papers"
def TX3 : u_T := fun k => match k with
  | 0 => ("BlameTown$Papers", "seenMan", "[I", true)
  | 1 => ("BlameTown$Papers", "seenHour", "[I", true)
  | 2 => ("BlameTown$Papers", "seenPlace", "[I", true)
  | 3 => ("BlameTown$Papers", "seen", "I", false)
  | 4 => ("BlameTown$Papers", "entryMan", "[I", true)
  | 5 => ("BlameTown$Papers", "entryMishap", "[I", true)
  | _ => ("BlameTown$Papers", "entries", "I", false)
def tyX3 : Nat → FieldType := fun k => match k with
  | 0 => .array .int
  | 1 => .array .int
  | 2 => .array .int
  | 3 => .int
  | 4 => .array .int
  | 5 => .array .int
  | _ => .int
abbrev wsX30 : List Cond := u_ws RX3 TX3 7
theorem nmX3 : ∀ a, a < 7 → ∀ b, b < 7 → a ≠ b → (TX3 a).2.1 ≠ (TX3 b).2.1 := by decide +kernel
theorem tyX3_ok : ∀ k, k < 7 → parseFieldDescriptor (TX3 k).2.2.1 = some (tyX3 k) := by decide +kernel
abbrev cX3_init : ByteArray := prog_5_method_1_code
def yX3_init : MethodName := ⟨RX3, "<init>", "()V"⟩
abbrev cX3_burn : ByteArray := prog_5_method_2_code
def yX3_burn : MethodName := ⟨RX3, "burn", "()V"⟩
abbrev cX3_addSeen : ByteArray := prog_5_method_3_code
def yX3_addSeen : MethodName := ⟨RX3, "addSeen", "(III)I"⟩
abbrev cX3_addEntry : ByteArray := prog_5_method_4_code
def yX3_addEntry : MethodName := ⟨RX3, "addEntry", "(II)I"⟩
abbrev cX3_excludes : ByteArray := prog_5_method_5_code
def yX3_excludes : MethodName := ⟨RX3, "excludes", "(III)Z"⟩
def RX4 : String := "BlameTown$Past"
def TX4 : u_T := fun k => match k with
  | 0 => ("BlameTown$Past", "rows", "[[I", true)
  | 1 => ("BlameTown$Past", "next", "I", false)
  | _ => ("BlameTown$Past", "count", "I", false)
def tyX4 : Nat → FieldType := fun k => match k with
  | 0 => .array (.array .int)
  | 1 => .int
  | _ => .int
abbrev wsX40 : List Cond := u_ws RX4 TX4 3
theorem nmX4 : ∀ a, a < 3 → ∀ b, b < 3 → a ≠ b → (TX4 a).2.1 ≠ (TX4 b).2.1 := by decide +kernel
theorem tyX4_ok : ∀ k, k < 3 → parseFieldDescriptor (TX4 k).2.2.1 = some (tyX4 k) := by decide +kernel
abbrev cX4_init : ByteArray := prog_6_method_1_code
def yX4_init : MethodName := ⟨RX4, "<init>", "()V"⟩
abbrev cX4_forget : ByteArray := prog_6_method_2_code
def yX4_forget : MethodName := ⟨RX4, "forget", "()V"⟩
abbrev cX4_remember : ByteArray := prog_6_method_3_code
def yX4_remember : MethodName := ⟨RX4, "remember", "(LBlameTown$Standing;)V"⟩
abbrev cX4_giveBack : ByteArray := prog_6_method_4_code
def yX4_giveBack : MethodName := ⟨RX4, "giveBack", "(ILBlameTown$Standing;)V"⟩
def RX5 : String := "BlameTown$Sharing"
def TX5 : u_T := fun k => match k with
  | 0 => ("BlameTown$Sharing", "facts", "LBlameTown$Facts;", true)
  | 1 => ("BlameTown$Sharing", "now", "LBlameTown$Standing;", true)
  | 2 => ("BlameTown$Sharing", "court", "LBlameTown$Court;", true)
  | 3 => ("BlameTown$Sharing", "wornBefore", "[I", true)
  | 4 => ("BlameTown$Sharing", "wornLimits", "[I", true)
  | 5 => ("BlameTown$Sharing", "farFrom", "[I", true)
  | 6 => ("BlameTown$Sharing", "sets", "[I", true)
  | 7 => ("BlameTown$Sharing", "prices", "[I", true)
  | 8 => ("BlameTown$Sharing", "setCounts", "[I", true)
  | 9 => ("BlameTown$Sharing", "restCosts", "[I", true)
  | 10 => ("BlameTown$Sharing", "given", "[I", true)
  | 11 => ("BlameTown$Sharing", "picked", "[I", true)
  | 12 => ("BlameTown$Sharing", "found", "[I", true)
  | _ => ("BlameTown$Sharing", "least", "I", false)
def tyX5 : Nat → FieldType := fun k => match k with
  | 0 => .object "BlameTown$Facts"
  | 1 => .object "BlameTown$Standing"
  | 2 => .object "BlameTown$Court"
  | 3 => .array .int
  | 4 => .array .int
  | 5 => .array .int
  | 6 => .array .int
  | 7 => .array .int
  | 8 => .array .int
  | 9 => .array .int
  | 10 => .array .int
  | 11 => .array .int
  | 12 => .array .int
  | _ => .int
abbrev wsX50 : List Cond := u_ws RX5 TX5 14
theorem nmX5 : ∀ a, a < 14 → ∀ b, b < 14 → a ≠ b → (TX5 a).2.1 ≠ (TX5 b).2.1 := by decide +kernel
theorem tyX5_ok : ∀ k, k < 14 → parseFieldDescriptor (TX5 k).2.2.1 = some (tyX5 k) := by decide +kernel
abbrev cX5_init : ByteArray := prog_7_method_1_code
def yX5_init : MethodName := ⟨RX5, "<init>", "(LBlameTown$Facts;LBlameTown$Standing;LBlameTown$Court;)V"⟩
abbrev cX5_solve : ByteArray := prog_7_method_2_code
def yX5_solve : MethodName := ⟨RX5, "solve", "()V"⟩
abbrev cX5_lookAt : ByteArray := prog_7_method_3_code
def yX5_lookAt : MethodName := ⟨RX5, "lookAt", "(I)V"⟩
abbrev cX5_listSets : ByteArray := prog_7_method_4_code
def yX5_listSets : MethodName := ⟨RX5, "listSets", "(I)V"⟩
abbrev cX5_addSet : ByteArray := prog_7_method_5_code
def yX5_addSet : MethodName := ⟨RX5, "addSet", "(III)V"⟩
abbrev cX5_allTake : ByteArray := prog_7_method_6_code
def yX5_allTake : MethodName := ⟨RX5, "allTake", "(II)Z"⟩
abbrev cX5_takes : ByteArray := prog_7_method_7_code
def yX5_takes : MethodName := ⟨RX5, "takes", "(II)Z"⟩
abbrev cX5_search : ByteArray := prog_7_method_8_code
def yX5_search : MethodName := ⟨RX5, "search", "(II)V"⟩
abbrev cX5_pick : ByteArray := prog_7_method_9_code
def yX5_pick : MethodName := ⟨RX5, "pick", "(III)V"⟩
abbrev cX5_give : ByteArray := prog_7_method_10_code
def yX5_give : MethodName := ⟨RX5, "give", "(II)V"⟩
def RX6 : String := "BlameTown$Standing"
def TX6 : u_T := fun k => match k with
  | _ => ("BlameTown$Standing", "cells", "[I", true)
def tyX6 : Nat → FieldType := fun k => match k with
  | _ => .array .int
abbrev wsX60 : List Cond := u_ws RX6 TX6 1
theorem nmX6 : ∀ a, a < 1 → ∀ b, b < 1 → a ≠ b → (TX6 a).2.1 ≠ (TX6 b).2.1 := by decide +kernel
theorem tyX6_ok : ∀ k, k < 1 → parseFieldDescriptor (TX6 k).2.2.1 = some (tyX6 k) := by decide +kernel
abbrev cX6_init : ByteArray := prog_8_method_1_code
def yX6_init : MethodName := ⟨RX6, "<init>", "()V"⟩
abbrev cX6_begin : ByteArray := prog_8_method_2_code
def yX6_begin : MethodName := ⟨RX6, "begin", "(LBlameTown$Facts;)V"⟩
abbrev cX6_takeRows : ByteArray := prog_8_method_3_code
def yX6_takeRows : MethodName := ⟨RX6, "takeRows", "(LBlameTown$Facts;)V"⟩
abbrev cX6_placeOf : ByteArray := prog_8_method_4_code
def yX6_placeOf : MethodName := ⟨RX6, "placeOf", "(II)I"⟩
abbrev cX6_setPlace : ByteArray := prog_8_method_5_code
def yX6_setPlace : MethodName := ⟨RX6, "setPlace", "(III)V"⟩
abbrev cX6_wornOf : ByteArray := prog_8_method_6_code
def yX6_wornOf : MethodName := ⟨RX6, "wornOf", "(I)I"⟩
abbrev cX6_wear : ByteArray := prog_8_method_7_code
def yX6_wear : MethodName := ⟨RX6, "wear", "(II)V"⟩
abbrev cX6_blamedFor : ByteArray := prog_8_method_8_code
def yX6_blamedFor : MethodName := ⟨RX6, "blamedFor", "(I)I"⟩
abbrev cX6_setBlamed : ByteArray := prog_8_method_9_code
def yX6_setBlamed : MethodName := ⟨RX6, "setBlamed", "(II)V"⟩
abbrev cX6_spent : ByteArray := prog_8_method_10_code
def yX6_spent : MethodName := ⟨RX6, "spent", "()I"⟩
abbrev cX6_spend : ByteArray := prog_8_method_11_code
def yX6_spend : MethodName := ⟨RX6, "spend", "(I)V"⟩
abbrev cX6_days : ByteArray := prog_8_method_12_code
def yX6_days : MethodName := ⟨RX6, "days", "()I"⟩
abbrev cX6_countDay : ByteArray := prog_8_method_13_code
def yX6_countDay : MethodName := ⟨RX6, "countDay", "()V"⟩
def RX7 : String := "BlameTown$Telling"
def TX7 : u_T := fun k => match k with
  | 0 => ("BlameTown$Telling", "text", "[I", true)
  | 1 => ("BlameTown$Telling", "letters", "I", false)
  | 2 => ("BlameTown$Telling", "faultAt", "I", false)
  | 3 => ("BlameTown$Telling", "fault", "I", false)
  | 4 => ("BlameTown$Telling", "next", "I", false)
  | _ => ("BlameTown$Telling", "numberAt", "I", false)
def tyX7 : Nat → FieldType := fun k => match k with
  | 0 => .array .int
  | 1 => .int
  | 2 => .int
  | 3 => .int
  | 4 => .int
  | _ => .int
abbrev wsX70 : List Cond := u_ws RX7 TX7 6
theorem nmX7 : ∀ a, a < 6 → ∀ b, b < 6 → a ≠ b → (TX7 a).2.1 ≠ (TX7 b).2.1 := by decide +kernel
theorem tyX7_ok : ∀ k, k < 6 → parseFieldDescriptor (TX7 k).2.2.1 = some (tyX7 k) := by decide +kernel
abbrev cX7_init : ByteArray := prog_9_method_1_code
def yX7_init : MethodName := ⟨RX7, "<init>", "()V"⟩
abbrev cX7_add : ByteArray := prog_9_method_2_code
def yX7_add : MethodName := ⟨RX7, "add", "(I)I"⟩
abbrev cX7_readInto : ByteArray := prog_9_method_3_code
def yX7_readInto : MethodName := ⟨RX7, "readInto", "(LBlameTown$Facts;)I"⟩
abbrev cX7_readClause : ByteArray := prog_9_method_4_code
def yX7_readClause : MethodName := ⟨RX7, "readClause", "(LBlameTown$Facts;)V"⟩
abbrev cX7_readJury : ByteArray := prog_9_method_5_code
def yX7_readJury : MethodName := ⟨RX7, "readJury", "(LBlameTown$Facts;)V"⟩
abbrev cX7_readMan : ByteArray := prog_9_method_6_code
def yX7_readMan : MethodName := ⟨RX7, "readMan", "(LBlameTown$Facts;)V"⟩
abbrev cX7_readMishap : ByteArray := prog_9_method_7_code
def yX7_readMishap : MethodName := ⟨RX7, "readMishap", "(LBlameTown$Facts;)V"⟩
abbrev cX7_readNumber : ByteArray := prog_9_method_8_code
def yX7_readNumber : MethodName := ⟨RX7, "readNumber", "(II)I"⟩
abbrev cX7_readRow : ByteArray := prog_9_method_9_code
def yX7_readRow : MethodName := ⟨RX7, "readRow", "(LBlameTown$Facts;I)V"⟩
abbrev cX7_readEnd : ByteArray := prog_9_method_10_code
def yX7_readEnd : MethodName := ⟨RX7, "readEnd", "()V"⟩
abbrev cX7_skipBlanks : ByteArray := prog_9_method_11_code
def yX7_skipBlanks : MethodName := ⟨RX7, "skipBlanks", "()V"⟩
abbrev cX7_here : ByteArray := prog_9_method_12_code
def yX7_here : MethodName := ⟨RX7, "here", "()I"⟩
abbrev cX7_mark : ByteArray := prog_9_method_13_code
def yX7_mark : MethodName := ⟨RX7, "mark", "(II)V"⟩
def RX8 : String := "BlameTown"
def TX8 : u_T := fun k => match k with
  | 0 => ("BlameTown", "telling", "LBlameTown$Telling;", true)
  | 1 => ("BlameTown", "draft", "LBlameTown$Facts;", true)
  | 2 => ("BlameTown", "facts", "LBlameTown$Facts;", true)
  | 3 => ("BlameTown", "now", "LBlameTown$Standing;", true)
  | 4 => ("BlameTown", "court", "LBlameTown$Court;", true)
  | 5 => ("BlameTown", "sharing", "LBlameTown$Sharing;", true)
  | 6 => ("BlameTown", "past", "LBlameTown$Past;", true)
  | 7 => ("BlameTown", "papers", "LBlameTown$Papers;", true)
  | 8 => ("BlameTown", "firstImage", "LBlameTown$Image;", true)
  | 9 => ("BlameTown", "secondImage", "LBlameTown$Image;", true)
  | 10 => ("BlameTown", "faultAt", "I", false)
  | _ => ("BlameTown", "draws", "I", false)
def tyX8 : Nat → FieldType := fun k => match k with
  | 0 => .object "BlameTown$Telling"
  | 1 => .object "BlameTown$Facts"
  | 2 => .object "BlameTown$Facts"
  | 3 => .object "BlameTown$Standing"
  | 4 => .object "BlameTown$Court"
  | 5 => .object "BlameTown$Sharing"
  | 6 => .object "BlameTown$Past"
  | 7 => .object "BlameTown$Papers"
  | 8 => .object "BlameTown$Image"
  | 9 => .object "BlameTown$Image"
  | 10 => .int
  | _ => .int
abbrev wsX80 : List Cond := u_ws RX8 TX8 12
theorem nmX8 : ∀ a, a < 12 → ∀ b, b < 12 → a ≠ b → (TX8 a).2.1 ≠ (TX8 b).2.1 := by decide +kernel
theorem tyX8_ok : ∀ k, k < 12 → parseFieldDescriptor (TX8 k).2.2.1 = some (tyX8 k) := by decide +kernel
abbrev cX8_init : ByteArray := prog_1_method_1_code
def yX8_init : MethodName := ⟨RX8, "<init>", "()V"⟩
abbrev cX8_feed : ByteArray := prog_1_method_2_code
def yX8_feed : MethodName := ⟨RX8, "feed", "(I)I"⟩
abbrev cX8_town : ByteArray := prog_1_method_3_code
def yX8_town : MethodName := ⟨RX8, "town", "()I"⟩
abbrev cX8_fault : ByteArray := prog_1_method_4_code
def yX8_fault : MethodName := ⟨RX8, "fault", "()I"⟩
abbrev cX8_told : ByteArray := prog_1_method_5_code
def yX8_told : MethodName := ⟨RX8, "told", "(I)I"⟩
abbrev cX8_man : ByteArray := prog_1_method_6_code
def yX8_man : MethodName := ⟨RX8, "man", "(II)I"⟩
abbrev cX8_mishap : ByteArray := prog_1_method_7_code
def yX8_mishap : MethodName := ⟨RX8, "mishap", "(II)I"⟩
abbrev cX8_belief : ByteArray := prog_1_method_8_code
def yX8_belief : MethodName := ⟨RX8, "belief", "(II)I"⟩
abbrev cX8_blame : ByteArray := prog_1_method_9_code
def yX8_blame : MethodName := ⟨RX8, "blame", "(II)I"⟩
abbrev cX8_clear : ByteArray := prog_1_method_10_code
def yX8_clear : MethodName := ⟨RX8, "clear", "(II)I"⟩
abbrev cX8_walk : ByteArray := prog_1_method_11_code
def yX8_walk : MethodName := ⟨RX8, "walk", "(III)I"⟩
abbrev cX8_sunset : ByteArray := prog_1_method_12_code
def yX8_sunset : MethodName := ⟨RX8, "sunset", "()I"⟩
abbrev cX8_drift : ByteArray := prog_1_method_13_code
def yX8_drift : MethodName := ⟨RX8, "drift", "(I)I"⟩
abbrev cX8_undo : ByteArray := prog_1_method_14_code
def yX8_undo : MethodName := ⟨RX8, "undo", "(I)I"⟩
abbrev cX8_may : ByteArray := prog_1_method_15_code
def yX8_may : MethodName := ⟨RX8, "may", "(I)I"⟩
abbrev cX8_orphans : ByteArray := prog_1_method_16_code
def yX8_orphans : MethodName := ⟨RX8, "orphans", "()I"⟩
abbrev cX8_shared : ByteArray := prog_1_method_17_code
def yX8_shared : MethodName := ⟨RX8, "shared", "(I)I"⟩
abbrev cX8_cheapest : ByteArray := prog_1_method_18_code
def yX8_cheapest : MethodName := ⟨RX8, "cheapest", "(I)I"⟩
abbrev cX8_culprits : ByteArray := prog_1_method_19_code
def yX8_culprits : MethodName := ⟨RX8, "culprits", "(I)I"⟩
abbrev cX8_idle : ByteArray := prog_1_method_20_code
def yX8_idle : MethodName := ⟨RX8, "idle", "()I"⟩
abbrev cX8_nearer : ByteArray := prog_1_method_21_code
def yX8_nearer : MethodName := ⟨RX8, "nearer", "(III)I"⟩
abbrev cX8_chain : ByteArray := prog_1_method_22_code
def yX8_chain : MethodName := ⟨RX8, "chain", "(II)I"⟩
abbrev cX8_quiet : ByteArray := prog_1_method_23_code
def yX8_quiet : MethodName := ⟨RX8, "quiet", "(II)I"⟩
abbrev cX8_see : ByteArray := prog_1_method_24_code
def yX8_see : MethodName := ⟨RX8, "see", "(III)I"⟩
abbrev cX8_alibi : ByteArray := prog_1_method_25_code
def yX8_alibi : MethodName := ⟨RX8, "alibi", "(I)I"⟩
abbrev cX8_write : ByteArray := prog_1_method_26_code
def yX8_write : MethodName := ⟨RX8, "write", "(II)I"⟩
abbrev cX8_judge : ByteArray := prog_1_method_27_code
def yX8_judge : MethodName := ⟨RX8, "judge", "()I"⟩
abbrev cX8_tear : ByteArray := prog_1_method_28_code
def yX8_tear : MethodName := ⟨RX8, "tear", "()I"⟩
abbrev cX8_seed : ByteArray := prog_1_method_29_code
def yX8_seed : MethodName := ⟨RX8, "seed", "(I)I"⟩
abbrev cX8_keep : ByteArray := prog_1_method_30_code
def yX8_keep : MethodName := ⟨RX8, "keep", "(I)I"⟩
abbrev cX8_goBack : ByteArray := prog_1_method_31_code
def yX8_goBack : MethodName := ⟨RX8, "goBack", "(I)I"⟩
abbrev cX8_isMan : ByteArray := prog_1_method_32_code
def yX8_isMan : MethodName := ⟨RX8, "isMan", "(I)Z"⟩
abbrev cX8_isMishap : ByteArray := prog_1_method_33_code
def yX8_isMishap : MethodName := ⟨RX8, "isMishap", "(I)Z"⟩
abbrev cX8_imageOf : ByteArray := prog_1_method_34_code
def yX8_imageOf : MethodName := ⟨RX8, "imageOf", "(I)LBlameTown$Image;"⟩
abbrev cX8_putBlame : ByteArray := prog_1_method_35_code
def yX8_putBlame : MethodName := ⟨RX8, "putBlame", "(II)V"⟩
abbrev cX8_blameByDraws : ByteArray := prog_1_method_36_code
def yX8_blameByDraws : MethodName := ⟨RX8, "blameByDraws", "(I)V"⟩
abbrev cX8_draw : ByteArray := prog_1_method_37_code
def yX8_draw : MethodName := ⟨RX8, "draw", "(I)I"⟩
abbrev cX8_endDay : ByteArray := prog_1_method_38_code
def yX8_endDay : MethodName := ⟨RX8, "endDay", "()I"⟩
abbrev cX8_isHour : ByteArray := prog_1_method_39_code
def yX8_isHour : MethodName := ⟨RX8, "isHour", "(I)Z"⟩
abbrev cX8_isPlace : ByteArray := prog_1_method_40_code
def yX8_isPlace : MethodName := ⟨RX8, "isPlace", "(I)Z"⟩
abbrev cX8_isWithin : ByteArray := prog_1_method_41_code
def yX8_isWithin : MethodName := ⟨RX8, "isWithin", "(III)Z"⟩
abbrev cX8_isIn : ByteArray := prog_1_method_42_code
def yX8_isIn : MethodName := ⟨RX8, "isIn", "(II)Z"⟩
abbrev cX8_memberOf : ByteArray := prog_1_method_43_code
def yX8_memberOf : MethodName := ⟨RX8, "memberOf", "(II)I"⟩
abbrev cX8_at : ByteArray := prog_1_method_44_code
def yX8_at : MethodName := ⟨RX8, "at", "([II)I"⟩
abbrev cX8_put : ByteArray := prog_1_method_45_code
def yX8_put : MethodName := ⟨RX8, "put", "([III)V"⟩
abbrev cX8_copyRow : ByteArray := prog_1_method_46_code
def yX8_copyRow : MethodName := ⟨RX8, "copyRow", "([I[I)V"⟩
def RX9 : String := "BlameTownModel"
def TX9 : u_T := fun k => match k with
  | 0 => ("BlameTownModel", "text", "[I", true)
  | 1 => ("BlameTownModel", "letters", "I", false)
  | 2 => ("BlameTownModel", "faultAt", "I", false)
  | 3 => ("BlameTownModel", "isTown", "Z", false)
  | 4 => ("BlameTownModel", "jury", "I", false)
  | 5 => ("BlameTownModel", "mayor", "I", false)
  | 6 => ("BlameTownModel", "men", "I", false)
  | 7 => ("BlameTownModel", "mishaps", "I", false)
  | 8 => ("BlameTownModel", "man", "[I", true)
  | 9 => ("BlameTownModel", "rows", "[I", true)
  | 10 => ("BlameTownModel", "mishap", "[I", true)
  | 11 => ("BlameTownModel", "draftJury", "I", false)
  | 12 => ("BlameTownModel", "draftMayor", "I", false)
  | 13 => ("BlameTownModel", "draftMen", "I", false)
  | 14 => ("BlameTownModel", "draftMishaps", "I", false)
  | 15 => ("BlameTownModel", "draftMan", "[I", true)
  | 16 => ("BlameTownModel", "draftRows", "[I", true)
  | 17 => ("BlameTownModel", "draftMishap", "[I", true)
  | 18 => ("BlameTownModel", "now", "[I", true)
  | 19 => ("BlameTownModel", "past", "[I", true)
  | 20 => ("BlameTownModel", "deeds", "I", false)
  | 21 => ("BlameTownModel", "images", "[I", true)
  | 22 => ("BlameTownModel", "imageSeeds", "[I", true)
  | 23 => ("BlameTownModel", "kept", "[Z", true)
  | 24 => ("BlameTownModel", "seed", "I", false)
  | 25 => ("BlameTownModel", "seen", "[I", true)
  | 26 => ("BlameTownModel", "sights", "I", false)
  | 27 => ("BlameTownModel", "book", "[I", true)
  | 28 => ("BlameTownModel", "entries", "I", false)
  | 29 => ("BlameTownModel", "at", "I", false)
  | 30 => ("BlameTownModel", "wrong", "I", false)
  | 31 => ("BlameTownModel", "options", "[I", true)
  | 32 => ("BlameTownModel", "many", "[I", true)
  | 33 => ("BlameTownModel", "place", "[I", true)
  | 34 => ("BlameTownModel", "best", "[I", true)
  | _ => ("BlameTownModel", "least", "I", false)
def tyX9 : Nat → FieldType := fun k => match k with
  | 0 => .array .int
  | 1 => .int
  | 2 => .int
  | 3 => .boolean
  | 4 => .int
  | 5 => .int
  | 6 => .int
  | 7 => .int
  | 8 => .array .int
  | 9 => .array .int
  | 10 => .array .int
  | 11 => .int
  | 12 => .int
  | 13 => .int
  | 14 => .int
  | 15 => .array .int
  | 16 => .array .int
  | 17 => .array .int
  | 18 => .array .int
  | 19 => .array .int
  | 20 => .int
  | 21 => .array .int
  | 22 => .array .int
  | 23 => .array .boolean
  | 24 => .int
  | 25 => .array .int
  | 26 => .int
  | 27 => .array .int
  | 28 => .int
  | 29 => .int
  | 30 => .int
  | 31 => .array .int
  | 32 => .array .int
  | 33 => .array .int
  | 34 => .array .int
  | _ => .int
abbrev wsX90 : List Cond := u_ws RX9 TX9 36
theorem nmX9 : ∀ a, a < 36 → ∀ b, b < 36 → a ≠ b → (TX9 a).2.1 ≠ (TX9 b).2.1 := by decide +kernel
theorem tyX9_ok : ∀ k, k < 36 → parseFieldDescriptor (TX9 k).2.2.1 = some (tyX9 k) := by decide +kernel
abbrev cX9_init : ByteArray := prog_11_method_1_code
def yX9_init : MethodName := ⟨RX9, "<init>", "()V"⟩
abbrev cX9_in : ByteArray := prog_11_method_3_code
def yX9_in : MethodName := ⟨RX9, "in", "(III)Z"⟩
abbrev cX9_has : ByteArray := prog_11_method_4_code
def yX9_has : MethodName := ⟨RX9, "has", "(II)Z"⟩
abbrev cX9_ones : ByteArray := prog_11_method_5_code
def yX9_ones : MethodName := ⟨RX9, "ones", "(I)I"⟩
abbrev cX9_off : ByteArray := prog_11_method_6_code
def yX9_off : MethodName := ⟨RX9, "off", "(II)I"⟩
abbrev cX9_feed : ByteArray := prog_11_method_7_code
def yX9_feed : MethodName := ⟨RX9, "feed", "(I)I"⟩
abbrev cX9_look : ByteArray := prog_11_method_8_code
def yX9_look : MethodName := ⟨RX9, "look", "()I"⟩
abbrev cX9_skips : ByteArray := prog_11_method_9_code
def yX9_skips : MethodName := ⟨RX9, "skips", "()V"⟩
abbrev cX9_fails : ByteArray := prog_11_method_10_code
def yX9_fails : MethodName := ⟨RX9, "fails", "(I)V"⟩
abbrev cX9_word : ByteArray := prog_11_method_11_code
def yX9_word : MethodName := ⟨RX9, "word", "(I)V"⟩
abbrev cX9_number : ByteArray := prog_11_method_12_code
def yX9_number : MethodName := ⟨RX9, "number", "(II)I"⟩
abbrev cX9_readsMan : ByteArray := prog_11_method_13_code
def yX9_readsMan : MethodName := ⟨RX9, "readsMan", "()V"⟩
abbrev cX9_readsMishap : ByteArray := prog_11_method_14_code
def yX9_readsMishap : MethodName := ⟨RX9, "readsMishap", "()V"⟩
abbrev cX9_reads : ByteArray := prog_11_method_15_code
def yX9_reads : MethodName := ⟨RX9, "reads", "()V"⟩
abbrev cX9_skipsIfWell : ByteArray := prog_11_method_16_code
def yX9_skipsIfWell : MethodName := ⟨RX9, "skipsIfWell", "()V"⟩
abbrev cX9_takes : ByteArray := prog_11_method_17_code
def yX9_takes : MethodName := ⟨RX9, "takes", "()V"⟩
abbrev cX9_town : ByteArray := prog_11_method_18_code
def yX9_town : MethodName := ⟨RX9, "town", "()I"⟩
abbrev cX9_fault : ByteArray := prog_11_method_19_code
def yX9_fault : MethodName := ⟨RX9, "fault", "()I"⟩
abbrev cX9_isMan : ByteArray := prog_11_method_20_code
def yX9_isMan : MethodName := ⟨RX9, "isMan", "(I)Z"⟩
abbrev cX9_isMishap : ByteArray := prog_11_method_21_code
def yX9_isMishap : MethodName := ⟨RX9, "isMishap", "(I)Z"⟩
abbrev cX9_blamedFor : ByteArray := prog_11_method_22_code
def yX9_blamedFor : MethodName := ⟨RX9, "blamedFor", "(I)I"⟩
abbrev cX9_free : ByteArray := prog_11_method_23_code
def yX9_free : MethodName := ⟨RX9, "free", "(I)I"⟩
abbrev cX9_allFree : ByteArray := prog_11_method_24_code
def yX9_allFree : MethodName := ⟨RX9, "allFree", "()I"⟩
abbrev cX9_told : ByteArray := prog_11_method_25_code
def yX9_told : MethodName := ⟨RX9, "told", "(I)I"⟩
abbrev cX9_blamesOf : ByteArray := prog_11_method_26_code
def yX9_blamesOf : MethodName := ⟨RX9, "blamesOf", "(I)I"⟩
abbrev cX9_man : ByteArray := prog_11_method_27_code
def yX9_man : MethodName := ⟨RX9, "man", "(II)I"⟩
abbrev cX9_mishap : ByteArray := prog_11_method_28_code
def yX9_mishap : MethodName := ⟨RX9, "mishap", "(II)I"⟩
abbrev cX9_whereIs : ByteArray := prog_11_method_29_code
def yX9_whereIs : MethodName := ⟨RX9, "whereIs", "(II)I"⟩
abbrev cX9_isNear : ByteArray := prog_11_method_30_code
def yX9_isNear : MethodName := ⟨RX9, "isNear", "(II)Z"⟩
abbrev cX9_can : ByteArray := prog_11_method_31_code
def yX9_can : MethodName := ⟨RX9, "can", "(II)Z"⟩
abbrev cX9_beliefAt : ByteArray := prog_11_method_32_code
def yX9_beliefAt : MethodName := ⟨RX9, "beliefAt", "(IIII)I"⟩
abbrev cX9_fits : ByteArray := prog_11_method_33_code
def yX9_fits : MethodName := ⟨RX9, "fits", "(III)Z"⟩
abbrev cX9_belief : ByteArray := prog_11_method_34_code
def yX9_belief : MethodName := ⟨RX9, "belief", "(II)I"⟩
abbrev cX9_areFar : ByteArray := prog_11_method_35_code
def yX9_areFar : MethodName := ⟨RX9, "areFar", "(II)Z"⟩
abbrev cX9_mayBe : ByteArray := prog_11_method_36_code
def yX9_mayBe : MethodName := ⟨RX9, "mayBe", "(II)Z"⟩
abbrev cX9_mayFor : ByteArray := prog_11_method_37_code
def yX9_mayFor : MethodName := ⟨RX9, "mayFor", "(I)I"⟩
abbrev cX9_copies : ByteArray := prog_11_method_38_code
def yX9_copies : MethodName := ⟨RX9, "copies", "([II[II)V"⟩
abbrev cX9_notes : ByteArray := prog_11_method_39_code
def yX9_notes : MethodName := ⟨RX9, "notes", "()V"⟩
abbrev cX9_blames : ByteArray := prog_11_method_40_code
def yX9_blames : MethodName := ⟨RX9, "blames", "(II)V"⟩
abbrev cX9_blame : ByteArray := prog_11_method_41_code
def yX9_blame : MethodName := ⟨RX9, "blame", "(II)I"⟩
abbrev cX9_clear : ByteArray := prog_11_method_42_code
def yX9_clear : MethodName := ⟨RX9, "clear", "(II)I"⟩
abbrev cX9_walk : ByteArray := prog_11_method_43_code
def yX9_walk : MethodName := ⟨RX9, "walk", "(III)I"⟩
abbrev cX9_sets : ByteArray := prog_11_method_44_code
def yX9_sets : MethodName := ⟨RX9, "sets", "()I"⟩
abbrev cX9_sunset : ByteArray := prog_11_method_45_code
def yX9_sunset : MethodName := ⟨RX9, "sunset", "()I"⟩
abbrev cX9_draw : ByteArray := prog_11_method_46_code
def yX9_draw : MethodName := ⟨RX9, "draw", "(I)I"⟩
abbrev cX9_member : ByteArray := prog_11_method_47_code
def yX9_member : MethodName := ⟨RX9, "member", "(II)I"⟩
abbrev cX9_drift : ByteArray := prog_11_method_48_code
def yX9_drift : MethodName := ⟨RX9, "drift", "(I)I"⟩
abbrev cX9_undo : ByteArray := prog_11_method_49_code
def yX9_undo : MethodName := ⟨RX9, "undo", "(I)I"⟩
abbrev cX9_may : ByteArray := prog_11_method_50_code
def yX9_may : MethodName := ⟨RX9, "may", "(I)I"⟩
abbrev cX9_orphans : ByteArray := prog_11_method_51_code
def yX9_orphans : MethodName := ⟨RX9, "orphans", "()I"⟩
abbrev cX9_canBe : ByteArray := prog_11_method_52_code
def yX9_canBe : MethodName := ⟨RX9, "canBe", "()Z"⟩
abbrev cX9_costs : ByteArray := prog_11_method_53_code
def yX9_costs : MethodName := ⟨RX9, "costs", "()I"⟩
abbrev cX9_counts : ByteArray := prog_11_method_54_code
def yX9_counts : MethodName := ⟨RX9, "counts", "()Z"⟩
abbrev cX9_shares : ByteArray := prog_11_method_55_code
def yX9_shares : MethodName := ⟨RX9, "shares", "()V"⟩
abbrev cX9_shared : ByteArray := prog_11_method_56_code
def yX9_shared : MethodName := ⟨RX9, "shared", "(I)I"⟩
abbrev cX9_cheapest : ByteArray := prog_11_method_57_code
def yX9_cheapest : MethodName := ⟨RX9, "cheapest", "(I)I"⟩
abbrev cX9_culprits : ByteArray := prog_11_method_58_code
def yX9_culprits : MethodName := ⟨RX9, "culprits", "(I)I"⟩
abbrev cX9_idle : ByteArray := prog_11_method_59_code
def yX9_idle : MethodName := ⟨RX9, "idle", "()I"⟩
abbrev cX9_nearer : ByteArray := prog_11_method_60_code
def yX9_nearer : MethodName := ⟨RX9, "nearer", "(III)I"⟩
abbrev cX9_root : ByteArray := prog_11_method_61_code
def yX9_root : MethodName := ⟨RX9, "root", "(I)I"⟩
abbrev cX9_chain : ByteArray := prog_11_method_62_code
def yX9_chain : MethodName := ⟨RX9, "chain", "(II)I"⟩
abbrev cX9_quiet : ByteArray := prog_11_method_63_code
def yX9_quiet : MethodName := ⟨RX9, "quiet", "(II)I"⟩
abbrev cX9_see : ByteArray := prog_11_method_64_code
def yX9_see : MethodName := ⟨RX9, "see", "(III)I"⟩
abbrev cX9_alibi : ByteArray := prog_11_method_65_code
def yX9_alibi : MethodName := ⟨RX9, "alibi", "(I)I"⟩
abbrev cX9_write : ByteArray := prog_11_method_66_code
def yX9_write : MethodName := ⟨RX9, "write", "(II)I"⟩
abbrev cX9_judge : ByteArray := prog_11_method_67_code
def yX9_judge : MethodName := ⟨RX9, "judge", "()I"⟩
abbrev cX9_tear : ByteArray := prog_11_method_68_code
def yX9_tear : MethodName := ⟨RX9, "tear", "()I"⟩
abbrev cX9_seed : ByteArray := prog_11_method_69_code
def yX9_seed : MethodName := ⟨RX9, "seed", "(I)I"⟩
abbrev cX9_keep : ByteArray := prog_11_method_70_code
def yX9_keep : MethodName := ⟨RX9, "keep", "(I)I"⟩
abbrev cX9_goBack : ByteArray := prog_11_method_71_code
def yX9_goBack : MethodName := ⟨RX9, "goBack", "(I)I"⟩
def RJ6 : String := "java/lang/Integer"
abbrev cJ6_bitCount_0f7a4 : ByteArray := prog_12_method_49_code
def yJ6_bitCount_0f7a4 : MethodName := ⟨RJ6, "bitCount", "(I)I"⟩
def RJ9 : String := "java/lang/Math"
abbrev cJ9_floorMod_7cf53 : ByteArray := prog_13_method_50_code
def yJ9_floorMod_7cf53 : MethodName := ⟨RJ9, "floorMod", "(II)I"⟩
abbrev cJ9_abs_0f7a4 : ByteArray := prog_13_method_59_code
def yJ9_abs_0f7a4 : MethodName := ⟨RJ9, "abs", "(I)I"⟩
abbrev cJ9_max_7cf53 : ByteArray := prog_13_method_65_code
def yJ9_max_7cf53 : MethodName := ⟨RJ9, "max", "(II)I"⟩
abbrev cJ9_min_7cf53 : ByteArray := prog_13_method_69_code
def yJ9_min_7cf53 : MethodName := ⟨RJ9, "min", "(II)I"⟩
def RL : String := "BlameTownLaw"
def yL_law : MethodName := ⟨RL, "law", "([I)Z"⟩
abbrev zCl : List vw_C := [(RX0, TX0, 2), (RX1, TX1, 15), (RX2, TX2, 3), (RX3, TX3, 7), (RX4, TX4, 3), (RX5, TX5, 14), (RX6, TX6, 1), (RX7, TX7, 6), (RX8, TX8, 12), (RX9, TX9, 36)]
end
section
/-! The heap as a list of cells: a reference is a place in the list; 'ad' gives each place its address. Q: what is to hold of the answer and the list behind it. -/
def zT : List Jvm.Cond := lw_tbl.filter goodWord
def zIsN : Jvm.Cond → Bool
  | .methodLinkNest .. => true
  | _ => false
def zN : List Jvm.Cond := lw_tbl.filter zIsN
abbrev zG : Type := MethodName × ByteArray × Nat × Option FieldType × Nat × Nat
def zCd (g : zG) : Jvm.Cond := .code g.1 g.2.1 g.2.2.1 g.2.2.2.1
def zWs (g : zG) : List Jvm.Cond := zCd g :: zT
def zRm (g : zG) (d : Nat) : Room := { frames := d, cells := g.2.2.2.2.1, slots := g.2.2.2.2.2, locals := 40 * d }
theorem zT_good {w : Jvm.Cond} (h : w ∈ zT) : w ∈ lw_tbl ∧ goodWord w = true := List.mem_filter.mp h
theorem zT_app {g : zG} {ws : List Jvm.Cond} (h : ∀ w ∈ ws, w ∈ zT) : GoodIn (zWs g) ws := fun w hw => ⟨List.mem_cons_of_mem _ (h w hw), good_of_word (zT_good (h w hw)).2⟩
theorem zWs_in {g : zG} (h : zCd g ∈ zT) : ∀ w ∈ zWs g, w ∈ zT := fun w hw => by
  rcases List.mem_cons.mp hw with rfl | h2
  · exact h
  · exact h2
-- values, cells, worlds
def zRe (ad : Nat → Nat) : Value → Value
  | .ref k => .ref (ad k)
  | v => v
theorem zRe_cat (ad : Nat → Nat) (v : Value) : (zRe ad v).category = v.category := by cases v <;> rfl
def zE (cs : ClassId × ClassId × ClassId) (ad : Nat → Nat) : va_E → va_E
  | .inl (t, n, .inl f) => .inl (bif Nat.beq t 0 then cs.1 else cs.2.1, n, .inl f)
  | .inl (_, n, .inr (.inr (.inr (.inr f)))) => .inl (cs.2.2, n, .inr (.inr (.inr (.inr (fun j => if j < n then (f j).map ad else none)))))
  | .inl (_, x) => .inl (cs.1, x)
  | .inr (ci, fs) => .inr (ci, fs.map (zRe ad))
def zW (cs : ClassId × ClassId × ClassId) (ad : Nat → Nat) (σ : List va_E) : va_W := σ.mapIdx (fun k e => (ad k, zE cs ad e))
theorem zW_get {cs : ClassId × ClassId × ClassId} {ad : Nat → Nat} {σ : List va_E} {k : Nat} {e : va_E} (h : σ[k]? = some e) : (zW cs ad σ)[k]? = some (ad k, zE cs ad e) := by
  simp [zW, List.getElem?_mapIdx, h]
theorem zW_set {cs : ClassId × ClassId × ClassId} {ad : Nat → Nat} {σ : List va_E} {k : Nat} {e : va_E} : zW cs ad (σ.set k e) = (zW cs ad σ).set k (ad k, zE cs ad e) := by
  apply List.ext_getElem?
  intro j
  simp only [zW, List.getElem?_mapIdx, List.getElem?_set, List.length_mapIdx]
  by_cases h : k = j
  · subst h
    by_cases h2 : k < σ.length <;> simp [h2]
  · simp [h]
theorem zW_push {cs : ClassId × ClassId × ClassId} {ad : Nat → Nat} {σ : List va_E} {e : va_E} : zW cs ad (σ ++ [e]) = zW cs ad σ ++ [(ad σ.length, zE cs ad e)] := by
  simp [zW, List.mapIdx_append]
-- references below a bound
def zBV (n : Nat) : Value → Bool
  | .ref k => Nat.blt k n
  | _ => true
def zBL (n : Nat) : List Value → Bool
  | [] => true
  | v :: r => zBV n v && zBL n r
def zBO (n : Nat) : List (Option Value) → Bool
  | [] => true
  | some v :: r => zBV n v && zBO n r
  | none :: r => zBO n r
def zBF (n : Nat) (f : Nat → Option Nat) : Nat → Bool
  | 0 => true
  | m + 1 => (match f m with | some k => Nat.blt k n | none => true) && zBF n f m
def zBE (n : Nat) : va_E → Bool
  | .inr (_, fs) => zBL n fs
  | .inl (_, m, .inr (.inr (.inr (.inr f)))) => zBF n f m
  | _ => true
def zBS (n : Nat) : List va_E → Bool
  | [] => true
  | e :: r => zBE n e && zBS n r
theorem zBV_re {ad ad' : Nat → Nat} {n : Nat} (hk : ∀ k, k < n → ad' k = ad k) {v : Value} (h : zBV n v = true) : zRe ad' v = zRe ad v := by
  cases v <;> first | rfl | (rename_i k; exact congrArg Value.ref (hk k (by simpa [zBV] using h)))
theorem zBL_re {ad ad' : Nat → Nat} {n : Nat} (hk : ∀ k, k < n → ad' k = ad k) : ∀ {l : List Value}, zBL n l = true → l.map (zRe ad') = l.map (zRe ad)
  | [], _ => rfl
  | v :: r, h => by
    have h2 : zBV n v = true ∧ zBL n r = true := by simpa [zBL] using h
    rw [List.map_cons, List.map_cons, zBV_re hk h2.1, zBL_re hk h2.2]
theorem zBF_re {ad ad' : Nat → Nat} {n : Nat} (hk : ∀ k, k < n → ad' k = ad k) {f : Nat → Option Nat} : ∀ {m : Nat}, zBF n f m = true → ∀ j, j < m → (f j).map ad' = (f j).map ad
  | 0, _ => fun j hj => absurd hj (Nat.not_lt_zero j)
  | m + 1, h => fun j hj => by
    have h2 : (match f m with | some k => Nat.blt k n | none => true) = true ∧ zBF n f m = true := by
      unfold zBF at h
      exact Bool.and_eq_true_iff.mp h
    by_cases e : j = m
    · subst e
      cases hf : f j with
      | none => rfl
      | some k =>
        have h3 := h2.1
        rw [hf] at h3
        exact congrArg some (hk k (by simpa using h3))
    · exact zBF_re hk h2.2 j (by omega)
theorem zBE_re {cs : ClassId × ClassId × ClassId} {ad ad' : Nat → Nat} {n : Nat} (hk : ∀ k, k < n → ad' k = ad k) {e : va_E} (h : zBE n e = true) : zE cs ad' e = zE cs ad e := by
  rcases e with ⟨t, m, f | f | f | f | f⟩ | ⟨ci, fs⟩
  · rfl
  · rfl
  · rfl
  · rfl
  · have h2 := zBF_re hk (f := f) (m := m) h
    have h3 : (fun j => if j < m then (f j).map ad' else none) = (fun j => if j < m then (f j).map ad else none) := funext fun j => by
      by_cases hj : j < m
      · simp [hj, h2 j hj]
      · simp [hj]
    simp only [zE]
    rw [h3]
  · simp only [zE]
    rw [zBL_re hk h]
theorem zBS_re {cs : ClassId × ClassId × ClassId} {ad ad' : Nat → Nat} {n : Nat} (hk : ∀ k, k < n → ad' k = ad k) {σ : List va_E} (hl : σ.length ≤ n) (h : zBS n σ = true) : zW cs ad' σ = zW cs ad σ := by
  have key : ∀ (σ : List va_E), zBS n σ = true → ∀ e ∈ σ, zE cs ad' e = zE cs ad e := by
    intro σ
    induction σ with
    | nil => intro _ e he; cases he
    | cons a r ih =>
      intro h e he
      have h2 : zBE n a = true ∧ zBS n r = true := by simpa [zBS] using h
      rcases List.mem_cons.mp he with rfl | he
      · exact zBE_re hk h2.1
      · exact ih h2.2 e he
  apply List.ext_getElem?
  intro j
  simp only [zW, List.getElem?_mapIdx]
  cases hj : σ[j]? with
  | none => rfl
  | some e =>
    have hlt : j < σ.length := (List.getElem?_eq_some_iff.mp hj).1
    simp only [Option.map_some]
    rw [hk j (by omega), key σ h e (List.mem_of_getElem? hj)]
-- what the tables say all along
def zAO (U : State) : Prop := (Jvm.Cond.arrayOver (.array .int)).before #[] U = true
theorem zAO_moved {u U : State} (hvm : u.vm.Alike U.vm) (h : zAO u) : zAO U := by
  obtain ⟨comp, c, k, h1, h2, h3, h4, h5⟩ := arrayOverA_spec h
  obtain ⟨k', hk', he⟩ := hvm.2.2 _ _ h3
  have hi : (U.vm.classes.findIdx? fun (x : Class) => match x.kind with | .array component _ => component == comp | _ => false) = some c := by
    have e1 := va_idx_bare U.vm comp
    have e2 := va_idx_bare u.vm comp
    have e3 : u.vm.bare = U.vm.bare := by first | exact hvm.bare_eq | exact hvm.bare_eq.symm
    rw [e3] at e2
    exact e1.symm.trans (e2.trans h2)
  have hkind : k'.kind = .array comp (.array .int) := by rw [he]; exact h4
  have f1 : U.vm.findClass (FieldType.array .int).toString = some comp := by rw [hvm.findClass]; exact h1
  have f2 : U.vm.findClass ("[" ++ (FieldType.array .int).toString) = some c := by rw [hvm.findClass]; exact h5
  unfold zAO Jvm.Cond.before Jvm.Cond.holds
  simp only [Jvm.Cond.value]
  rw [f1, Option.bind_some]
  refine (congrArg (fun o : Option Nat => (o.bind (fun c => (U.vm.classes[c]?).map fun (k : Class) => match k.kind with | .array _ ty => decide (ty = FieldType.array .int) && decide (U.vm.findClass ("[" ++ (FieldType.array .int).toString) = some c) | _ => false) == some true)) hi).trans ?_
  simp [hk', hkind, f2]
def zTy (cs : ClassId × ClassId × ClassId) : List (ClassId × FieldType) := [(cs.1, .int), (cs.2.1, .boolean), (cs.2.2, .array .int)]
def zK (cs : ClassId × ClassId × ClassId) (D : va_G) (U : State) : Prop := va_K D zCl (zTy cs) U ∧ (∀ w ∈ zN, va_Nw w U) ∧ zAO U
theorem zK_warm {cs : ClassId × ClassId × ClassId} {D : va_G} {u U : State} (hW : u.WarmedH U.vm) (h : zK cs D u) : zK cs D U := by
  refine ⟨va_K.moved hW.alike h.1, fun w hw => ?_, zAO_moved hW.alike h.2.2⟩
  have h1 := h.2.1 w hw
  have h2 : zIsN w = true := (List.mem_filter.mp hw).2
  cases w <;> first | exact va_Nw.warmM hW h1 | (exact absurd h2 (by simp [zIsN]))
theorem zK_same {cs : ClassId × ClassId × ClassId} {D : va_G} {u U : State} (hv : u.vm = U.vm) (h : zK cs D u) : zK cs D U := by
  have ha : u.vm.Alike U.vm := hv ▸ Vm.Alike.refl u.vm
  refine ⟨va_K.moved ha h.1, fun w hw => ?_, zAO_moved ha h.2.2⟩
  have h2 : zIsN w = true := (List.mem_filter.mp hw).2
  exact va_Nw.same (by cases w <;> first | rfl | (exact absurd h2 (by simp [zIsN]))) hv (h.2.1 w hw)
-- locals
def zGet : List (Option Value) → Nat → Option Value
  | [], _ => none
  | a :: _, 0 => a
  | _ :: r, k + 1 => zGet r k
def zClr (i : Nat) (a : Option Value) : Option Value := match i with
  | 0 => match a with
    | some (.long _) => none
    | some (.double _) => none
    | a => a
  | _ + 1 => a
def zPut : List (Option Value) → Nat → Value → List (Option Value)
  | [], _, _ => []
  | _ :: r, 0, v => some v :: r
  | a :: r, i + 1, v => zClr i a :: zPut r i v
def zDel : List (Option Value) → Nat → List (Option Value)
  | [], _ => []
  | _ :: r, 0 => none :: r
  | a :: r, i + 1 => a :: zDel r i
theorem zClr_eq : ∀ {i : Nat} {a : Option Value} {w : Value}, zClr i a = some w → a = some w ∧ ¬ (i = 0 ∧ w.category = 2)
  | _ + 1, _, _, h => ⟨h, fun q => by have := q.1; omega⟩
  | 0, none, _, h => by cases (show (none : Option Value) = some _ from h)
  | 0, some (.long _), _, h => by cases (show (none : Option Value) = some _ from h)
  | 0, some (.double _), _, h => by cases (show (none : Option Value) = some _ from h)
  | 0, some (.int x), w, h => by cases (show some (Value.int x) = some w from h); exact ⟨rfl, by simp [Value.category]⟩
  | 0, some (.float x), w, h => by cases (show some (Value.float x) = some w from h); exact ⟨rfl, by simp [Value.category]⟩
  | 0, some .null, w, h => by cases (show some Value.null = some w from h); exact ⟨rfl, by simp [Value.category]⟩
  | 0, some (.ref x), w, h => by cases (show some (Value.ref x) = some w from h); exact ⟨rfl, by simp [Value.category]⟩
  | 0, some (.retAddr x), w, h => by cases (show some (Value.retAddr x) = some w from h); exact ⟨rfl, by simp [Value.category]⟩
theorem zPut_get : ∀ {ls : List (Option Value)} {i k : Nat} {v w : Value}, zGet (zPut ls i v) k = some w → (k = i ∧ w = v) ∨ (k ≠ i ∧ zGet ls k = some w ∧ ¬ (k + 1 = i ∧ w.category = 2))
  | [], i, k, v, w, h => by cases h
  | a :: r, 0, 0, v, w, h => by cases h; exact Or.inl ⟨rfl, rfl⟩
  | a :: r, 0, k + 1, v, w, h => Or.inr ⟨by omega, h, fun q => by have := q.1; omega⟩
  | a :: r, i + 1, 0, v, w, h => by
    obtain ⟨h1, h2⟩ := zClr_eq (i := i) (a := a) h
    exact Or.inr ⟨by omega, h1, fun q => h2 ⟨by omega, q.2⟩⟩
  | a :: r, i + 1, k + 1, v, w, h => by
    rcases zPut_get (ls := r) (i := i) (k := k) (v := v) (w := w) h with ⟨h1, h2⟩ | ⟨h1, h2, h3⟩
    · exact Or.inl ⟨by omega, h2⟩
    · exact Or.inr ⟨by omega, h2, fun q => h3 ⟨by omega, q.2⟩⟩
theorem zDel_get : ∀ {ls : List (Option Value)} {i k : Nat} {w : Value}, zGet (zDel ls i) k = some w → k ≠ i ∧ zGet ls k = some w
  | [], i, k, w, h => by cases h
  | a :: r, 0, 0, w, h => by cases h
  | a :: r, 0, k + 1, w, h => ⟨by omega, h⟩
  | a :: r, i + 1, 0, w, h => ⟨by omega, h⟩
  | a :: r, i + 1, k + 1, w, h => by
    obtain ⟨h1, h2⟩ := zDel_get (ls := r) (i := i) (k := k) (w := w) h
    exact ⟨by omega, h2⟩
def zLoc (ad : Nat → Nat) (ls : List (Option Value)) (lr : Array Slot) (nL : Nat) : Prop := lr.size = nL ∧ lv_wf lr ∧ ∀ (k : Nat) (v : Value), zGet ls k = some v → lr[k]? = some (.val (zRe ad v))
/-- the listed locals, as the kit lists them -/
def zLv (ad : Nat → Nat) : Nat → List (Option Value) → List (Nat × Value)
  | _, [] => []
  | i, some v :: r => (i, zRe ad v) :: zLv ad (i + 1) r
  | i, none :: r => zLv ad (i + 1) r
theorem zLv_mem {ad : Nat → Nat} : ∀ {ls : List (Option Value)} {i k : Nat} {v : Value}, zGet ls k = some v → (i + k, zRe ad v) ∈ zLv ad i ls
  | [], i, k, v, h => by cases h
  | some a :: r, i, 0, v, h => by cases h; exact List.mem_cons_self
  | none :: r, i, 0, v, h => by cases h
  | some a :: r, i, k + 1, v, h => by
    have := zLv_mem (ad := ad) (ls := r) (i := i + 1) (k := k) (v := v) h
    rw [show i + (k + 1) = i + 1 + k by omega]
    exact List.mem_cons_of_mem _ this
  | none :: r, i, k + 1, v, h => by
    have := zLv_mem (ad := ad) (ls := r) (i := i + 1) (k := k) (v := v) h
    rw [show i + (k + 1) = i + 1 + k by omega]
    exact this
theorem zLv_of {ad : Nat → Nat} : ∀ {ls : List (Option Value)} {i : Nat} {q : Nat × Value}, q ∈ zLv ad i ls → ∃ k v, q = (i + k, zRe ad v) ∧ zGet ls k = some v
  | [], i, q, h => by cases h
  | some a :: r, i, q, h => by
    rcases List.mem_cons.mp h with rfl | h
    · exact ⟨0, a, rfl, rfl⟩
    · obtain ⟨k, v, rfl, h2⟩ := zLv_of (ls := r) h
      exact ⟨k + 1, v, by rw [show i + (k + 1) = i + 1 + k by omega], h2⟩
  | none :: r, i, q, h => by
    obtain ⟨k, v, rfl, h2⟩ := zLv_of (ls := r) h
    exact ⟨k + 1, v, by rw [show i + (k + 1) = i + 1 + k by omega], h2⟩
theorem zLoc_has {ad : Nat → Nat} {ls : List (Option Value)} {lr : Array Slot} {nL : Nat} (h : zLoc ad ls lr nL) : lv_has lr nL (zLv ad 0 ls) := by
  refine ⟨h.1, h.2.1, fun q hq => ?_⟩
  obtain ⟨k, v, rfl, h2⟩ := zLv_of hq
  rw [Nat.zero_add]
  exact h.2.2 k v h2
theorem zLoc_put1 {ad : Nat → Nat} {ls : List (Option Value)} {lr' : Array Slot} {nL i : Nat} {v : Value} (h : lv_has lr' nL ((i, zRe ad v) :: (zLv ad 0 ls).filter (fun q => !(q.1 == i) && !(q.1 + 1 == i && q.2.category == 2)))) : zLoc ad (zPut ls i v) lr' nL := by
  refine ⟨h.1, h.2.1, fun k w hw => ?_⟩
  rcases zPut_get hw with ⟨rfl, rfl⟩ | ⟨h1, h2, h3⟩
  · exact h.2.2 (k, zRe ad w) List.mem_cons_self
  · refine h.2.2 (k, zRe ad w) (List.mem_cons_of_mem _ (List.mem_filter.mpr ⟨?_, ?_⟩))
    · have := zLv_mem (ad := ad) (i := 0) h2
      rwa [Nat.zero_add] at this
    · simp only [zRe_cat]
      by_cases e : k + 1 = i
      · have : w.category ≠ 2 := fun q => h3 ⟨e, q⟩
        simp [h1, this]
      · simp [h1, e]
theorem zLoc_put2 {ad : Nat → Nat} {ls : List (Option Value)} {lr' : Array Slot} {nL i : Nat} {v : Value} (h : lv_has lr' nL ((i, zRe ad v) :: (zLv ad 0 ls).filter (fun q => !(q.1 == i) && (!(q.1 == i + 1) && !(q.1 + 1 == i && q.2.category == 2))))) : zLoc ad (zDel (zPut ls i v) (i + 1)) lr' nL := by
  refine ⟨h.1, h.2.1, fun k w hw => ?_⟩
  obtain ⟨h0, hw⟩ := zDel_get hw
  rcases zPut_get hw with ⟨rfl, rfl⟩ | ⟨h1, h2, h3⟩
  · exact h.2.2 (k, zRe ad w) List.mem_cons_self
  · refine h.2.2 (k, zRe ad w) (List.mem_cons_of_mem _ (List.mem_filter.mpr ⟨?_, ?_⟩))
    · have := zLv_mem (ad := ad) (i := 0) h2
      rwa [Nat.zero_add] at this
    · simp only [zRe_cat]
      by_cases e : k + 1 = i
      · have : w.category ≠ 2 := fun q => h3 ⟨e, q⟩
        simp [h1, h0, this]
      · simp [h1, h0, e]
theorem zLoc_ad {ad ad' : Nat → Nat} {n : Nat} (hk : ∀ k, k < n → ad' k = ad k) {ls : List (Option Value)} {lr : Array Slot} {nL : Nat} (hb : zBO n ls = true) (h : zLoc ad ls lr nL) : zLoc ad' ls lr nL := by
  refine ⟨h.1, h.2.1, fun k v hv => ?_⟩
  have key : ∀ (ls : List (Option Value)) (k : Nat), zBO n ls = true → zGet ls k = some v → zBV n v = true := by
    intro ls
    induction ls with
    | nil => intro k _ h; cases h
    | cons a r ih =>
      intro k hb hg
      cases a with
      | none =>
        cases k with
        | zero => cases hg
        | succ k => exact ih k hb hg
      | some x =>
        have h2 : zBV n x = true ∧ zBO n r = true := by simpa [zBO] using hb
        cases k with
        | zero => cases hg; exact h2.1
        | succ k => exact ih k h2.2 hg
  rw [zBV_re hk (key ls k hb hv)]
  exact h.2.2 k v hv
-- the judgement
def zCtx (g : zG) (p : Program) (s : State) (m : MethodId) (args : Array Value) (meth : Method) (c : Code) (cs : ClassId × ClassId × ClassId) (D : va_G) (A : Nat → Prop) : Prop :=
  p.tables.exec = Jvm.exec ∧ c.code = g.2.1 ∧ c.maxLocals = g.2.2.1 ∧ meth.sig.returnType = g.2.2.2.1 ∧ meth.locks = false ∧ s.vm.findClass g.1.cls = some m.cls ∧ (∀ w ∈ zWs g, w.before args s = true) ∧ zK cs D s ∧ (∀ q, s.heap.size ≤ q → A q) ∧ meth.name = g.1.name
def zQ (cs : ClassId × ClassId × ClassId) (D : va_G) (A : Nat → Prop) (ad0 : Nat → Nat) (n0 : Nat) (g : zG) (Q : Option Value → List va_E → Prop) : Array Value → State → Outcome → State → Prop := fun _ st o t =>
  (∃ (v : Option Value) (ad' : Nat → Nat) (σ' : List va_E), o = .returned (v.map (zRe ad')) ∧ Q v σ' ∧ (g.2.2.2.2.1 = 0 → ad' = ad0) ∧ (∀ k, k < n0 → ad' k = ad0 k) ∧ n0 ≤ σ'.length ∧ va_P D zCl (zW cs ad' σ') t.heap ∧ va_D A (zW cs ad' σ')) ∧ va_F A st t
def zGood (g : zG) (d : Nat) (Q : Option Value → List va_E → Prop) (pc : Nat) (ls : List (Option Value)) (st : List Value) (σ : List va_E) (uc us : Nat) : Prop :=
  ∀ (p : Program) (l : Launch) (e : Env) (s : State) (m : MethodId) (args : Array Value) (below : List Frame) (meth : Method) (c : Code) (cs : ClassId × ClassId × ClassId) (D : va_G) (A : Nat → Prop) (ad0 ad : Nat → Nat) (n0 : Nat) (H : Heap) (locs : List Loc) (lr : Array Slot),
    zCtx g p s m args meth c cs D A → ((g.2.2.2.2.1 = 0 → ad = ad0) ∧ (∀ k, k < n0 → ad k = ad0 k) ∧ n0 ≤ σ.length ∧ uc ≤ g.2.2.2.2.1 ∧ us ≤ g.2.2.2.2.2) → va_P D zCl (zW cs ad σ) H → va_D A (zW cs ad σ) → va_S A s.heap H locs → zLoc ad ls lr g.2.2.1 →
      W p l e (zRm g d) s m args below meth c H locs uc us (MQ below (zQ cs D A ad0 n0 g Q) args s g.2.2.2.2.1 g.2.2.2.2.2 A) (F0 m pc lr (st.map (zRe ad)))
def zRuns (g : zG) (d : Nat) (av : List Value) (σ : List va_E) (Q : Option Value → List va_E → Prop) : Prop :=
  ∀ (l : Launch) (cs : ClassId × ClassId × ClassId) (D : va_G) (ad : Nat → Nat) (sz : Nat), Met l g.1 (zWs g) (zRm g d)
    (va_Pc (av.map (zRe ad)) (fun U => U.heap.size = sz ∧ va_P D zCl (zW cs ad σ) U.heap ∧ zK cs D U ∧ va_D (fun _ => True) (zW cs ad σ)))
    (zQ cs D (va_A (zW cs ad σ) sz) ad σ.length g Q) g.2.2.2.2.1 g.2.2.2.2.2 (va_A (zW cs ad σ) sz)
theorem zRuns.mono {g : zG} {d : Nat} {av : List Value} {σ : List va_E} {Q Q' : Option Value → List va_E → Prop} (h : zRuns g d av σ Q) (hQ : ∀ v σ', Q v σ' → Q' v σ') : zRuns g d av σ Q' := by
  intro l cs D ad sz p e ha hc hk s m args below hf happ hP hK
  obtain ⟨k, o, h1, h2, h3, ⟨⟨v, ad', σ', q1, q2, q3⟩, q4⟩, h5⟩ := h l cs D ad sz p e ha hc hk s m args below hf happ hP hK
  exact ⟨k, o, h1, h2, h3, ⟨⟨v, ad', σ', q1, hQ v σ' q2, q3⟩, q4⟩, h5⟩
/-- a call whose answer and list are known -/
theorem zRuns.eq {g : zG} {d : Nat} {av : List Value} {σ σ1 : List va_E} {v1 : Option Value} {Q' : Option Value → List va_E → Prop} (h : zRuns g d av σ (fun v σ' => v = v1 ∧ σ' = σ1)) (hQ : Q' v1 σ1) : zRuns g d av σ Q' :=
  h.mono fun v σ' q => by rw [q.1, q.2]; exact hQ
section ZR
variable {g : zG} {d : Nat} {Q : Option Value → List va_E → Prop} {pc : Nat} {ls : List (Option Value)} {st r : List Value} {σ : List va_E} {uc us : Nat}
theorem s_iconst {n : Int} {v : Int32} (hdg : decode g.2.1 pc = .ok (.iconst n, 1)) (hv : Int32.ofInt n = v) (k : zGood g d Q (pc + 1) ls (.int v :: st) σ uc us) : zGood g d Q pc ls st σ uc us := by
  intro p l e s m args below meth c cs D A ad0 ad n0 H locs lr C hn hP hD hS hl
  exact lv_iconst C.1 C.2.1 hdg hv (k p l e s m args below meth c cs D A ad0 ad n0 H locs lr C hn hP hD hS hl)
theorem s_bipush {n : Int} {v : Int32} (hdg : decode g.2.1 pc = .ok (.bipush n, 2)) (hv : (Int8.ofInt n).toInt32 = v) (k : zGood g d Q (pc + 2) ls (.int v :: st) σ uc us) : zGood g d Q pc ls st σ uc us := by
  intro p l e s m args below meth c cs D A ad0 ad n0 H locs lr C hn hP hD hS hl
  exact lv_bipush C.1 C.2.1 hdg hv (k p l e s m args below meth c cs D A ad0 ad n0 H locs lr C hn hP hD hS hl)
theorem s_sipush {n : Int} {v : Int32} (hdg : decode g.2.1 pc = .ok (.sipush n, 3)) (hv : (Int16.ofInt n).toInt32 = v) (k : zGood g d Q (pc + 3) ls (.int v :: st) σ uc us) : zGood g d Q pc ls st σ uc us := by
  intro p l e s m args below meth c cs D A ad0 ad n0 H locs lr C hn hP hD hS hl
  exact lv_sipush C.1 C.2.1 hdg hv (k p l e s m args below meth c cs D A ad0 ad n0 H locs lr C hn hP hD hS hl)
theorem s_null (hdg : decode g.2.1 pc = .ok (.aconst_null, 1)) (k : zGood g d Q (pc + 1) ls (.null :: st) σ uc us) : zGood g d Q pc ls st σ uc us := by
  intro p l e s m args below meth c cs D A ad0 ad n0 H locs lr C hn hP hD hS hl
  exact lv_null C.1 C.2.1 hdg (k p l e s m args below meth c cs D A ad0 ad n0 H locs lr C hn hP hD hS hl)
theorem s_ldc {n : Nat} {v : Int32} (hdg : decode g.2.1 pc = .ok (.ldc n, 2)) (hv : Jvm.Cond.constant g.1.cls n v ∈ zT) (k : zGood g d Q (pc + 2) ls (.int v :: st) σ uc us) : zGood g d Q pc ls st σ uc us := by
  intro p l e s m args below meth c cs D A ad0 ad n0 H locs lr C hn hP hD hS hl
  exact W.ldc C.1 C.2.1 C.2.2.2.2.2.1 (C.2.2.2.2.2.2.1 _ (List.mem_cons_of_mem _ hv)) rfl hdg (k p l e s m args below meth c cs D A ad0 ad n0 H locs lr C hn hP hD hS hl)
theorem s_ldcw {n : Nat} {v : Int32} (hdg : decode g.2.1 pc = .ok (.ldc_w n, 3)) (hv : Jvm.Cond.constant g.1.cls n v ∈ zT) (k : zGood g d Q (pc + 3) ls (.int v :: st) σ uc us) : zGood g d Q pc ls st σ uc us := by
  intro p l e s m args below meth c cs D A ad0 ad n0 H locs lr C hn hP hD hS hl
  exact lv_ldcw C.1 C.2.1 C.2.2.2.2.2.1 (C.2.2.2.2.2.2.1 _ (List.mem_cons_of_mem _ hv)) hdg (k p l e s m args below meth c cs D A ad0 ad n0 H locs lr C hn hP hD hS hl)
theorem s_ldc2 {n : Nat} {v : Int64} (hdg : decode g.2.1 pc = .ok (.ldc2_w n, 3)) (hv : Jvm.Cond.constantLong g.1.cls n v ∈ zT) (k : zGood g d Q (pc + 3) ls (.long v :: st) σ uc us) : zGood g d Q pc ls st σ uc us := by
  intro p l e s m args below meth c cs D A ad0 ad n0 H locs lr C hn hP hD hS hl
  exact W.ldc2 C.1 C.2.1 C.2.2.2.2.2.1 (C.2.2.2.2.2.2.1 _ (List.mem_cons_of_mem _ hv)) rfl hdg (k p l e s m args below meth c cs D A ad0 ad n0 H locs lr C hn hP hD hS hl)
theorem s_iload_n {k4 : Fin 4} {x : Int32} (hdg : decode g.2.1 pc = .ok (.iload_n k4, 1)) (hx : zGet ls k4.val = some (.int x)) (k : zGood g d Q (pc + 1) ls (.int x :: st) σ uc us) : zGood g d Q pc ls st σ uc us := by
  intro p l e s m args below meth c cs D A ad0 ad n0 H locs lr C hn hP hD hS hl
  exact lv_iload_n C.1 C.2.1 hdg rfl (hl.2.2 _ _ hx) (k p l e s m args below meth c cs D A ad0 ad n0 H locs lr C hn hP hD hS hl)
theorem s_iload {i : Nat} {x : Int32} (hdg : decode g.2.1 pc = .ok (.iload i, 2)) (hx : zGet ls i = some (.int x)) (k : zGood g d Q (pc + 2) ls (.int x :: st) σ uc us) : zGood g d Q pc ls st σ uc us := by
  intro p l e s m args below meth c cs D A ad0 ad n0 H locs lr C hn hP hD hS hl
  exact lv_iload C.1 C.2.1 hdg (hl.2.2 _ _ hx) (k p l e s m args below meth c cs D A ad0 ad n0 H locs lr C hn hP hD hS hl)
theorem s_lload_n {k4 : Fin 4} {x : Int64} (hdg : decode g.2.1 pc = .ok (.lload_n k4, 1)) (hx : zGet ls k4.val = some (.long x)) (k : zGood g d Q (pc + 1) ls (.long x :: st) σ uc us) : zGood g d Q pc ls st σ uc us := by
  intro p l e s m args below meth c cs D A ad0 ad n0 H locs lr C hn hP hD hS hl
  exact lv_lload_n C.1 C.2.1 hdg rfl (hl.2.2 _ _ hx) (k p l e s m args below meth c cs D A ad0 ad n0 H locs lr C hn hP hD hS hl)
theorem s_lload {i : Nat} {x : Int64} (hdg : decode g.2.1 pc = .ok (.lload i, 2)) (hx : zGet ls i = some (.long x)) (k : zGood g d Q (pc + 2) ls (.long x :: st) σ uc us) : zGood g d Q pc ls st σ uc us := by
  intro p l e s m args below meth c cs D A ad0 ad n0 H locs lr C hn hP hD hS hl
  exact lv_lload C.1 C.2.1 hdg (hl.2.2 _ _ hx) (k p l e s m args below meth c cs D A ad0 ad n0 H locs lr C hn hP hD hS hl)
theorem s_aload_n {k4 : Fin 4} {x : Nat} (hdg : decode g.2.1 pc = .ok (.aload_n k4, 1)) (hx : zGet ls k4.val = some (.ref x)) (k : zGood g d Q (pc + 1) ls (.ref x :: st) σ uc us) : zGood g d Q pc ls st σ uc us := by
  intro p l e s m args below meth c cs D A ad0 ad n0 H locs lr C hn hP hD hS hl
  exact lv_aload_n C.1 C.2.1 hdg rfl (hl.2.2 _ _ hx) (k p l e s m args below meth c cs D A ad0 ad n0 H locs lr C hn hP hD hS hl)
theorem s_aload {i : Nat} {x : Nat} (hdg : decode g.2.1 pc = .ok (.aload i, 2)) (hx : zGet ls i = some (.ref x)) (k : zGood g d Q (pc + 2) ls (.ref x :: st) σ uc us) : zGood g d Q pc ls st σ uc us := by
  intro p l e s m args below meth c cs D A ad0 ad n0 H locs lr C hn hP hD hS hl
  exact lv_aload C.1 C.2.1 hdg (hl.2.2 _ _ hx) (k p l e s m args below meth c cs D A ad0 ad n0 H locs lr C hn hP hD hS hl)
theorem s_aload_nN {k4 : Fin 4} (hdg : decode g.2.1 pc = .ok (.aload_n k4, 1)) (hx : zGet ls k4.val = some .null) (k : zGood g d Q (pc + 1) ls (.null :: st) σ uc us) : zGood g d Q pc ls st σ uc us := by
  intro p l e s m args below meth c cs D A ad0 ad n0 H locs lr C hn hP hD hS hl
  exact lv_aload_nN C.1 C.2.1 hdg rfl (hl.2.2 _ _ hx) (k p l e s m args below meth c cs D A ad0 ad n0 H locs lr C hn hP hD hS hl)
theorem s_aloadN {i : Nat} (hdg : decode g.2.1 pc = .ok (.aload i, 2)) (hx : zGet ls i = some .null) (k : zGood g d Q (pc + 2) ls (.null :: st) σ uc us) : zGood g d Q pc ls st σ uc us := by
  intro p l e s m args below meth c cs D A ad0 ad n0 H locs lr C hn hP hD hS hl
  exact lv_aloadN C.1 C.2.1 hdg (hl.2.2 _ _ hx) (k p l e s m args below meth c cs D A ad0 ad n0 H locs lr C hn hP hD hS hl)
theorem s_istore_n {k4 : Fin 4} {x : Int32} (hdg : decode g.2.1 pc = .ok (.istore_n k4, 1)) (hx : k4.val < g.2.2.1) (k : zGood g d Q (pc + 1) (zPut ls k4.val (.int x)) st σ uc us) : zGood g d Q pc ls (.int x :: st) σ uc us := by
  intro p l e s m args below meth c cs D A ad0 ad n0 H locs lr C hn hP hD hS hl
  exact lv_istore_n C.1 C.2.1 hdg rfl (zLoc_has hl) hx rfl (fun lr2 hl2 => k p l e s m args below meth c cs D A ad0 ad n0 H locs lr2 C hn hP hD hS (zLoc_put1 hl2))
theorem s_istore {i : Nat} {x : Int32} (hdg : decode g.2.1 pc = .ok (.istore i, 2)) (hx : i < g.2.2.1) (k : zGood g d Q (pc + 2) (zPut ls i (.int x)) st σ uc us) : zGood g d Q pc ls (.int x :: st) σ uc us := by
  intro p l e s m args below meth c cs D A ad0 ad n0 H locs lr C hn hP hD hS hl
  exact lv_istore C.1 C.2.1 hdg (zLoc_has hl) hx rfl (fun lr2 hl2 => k p l e s m args below meth c cs D A ad0 ad n0 H locs lr2 C hn hP hD hS (zLoc_put1 hl2))
theorem s_astore_n {k4 : Fin 4} {x : Nat} (hdg : decode g.2.1 pc = .ok (.astore_n k4, 1)) (hx : k4.val < g.2.2.1) (k : zGood g d Q (pc + 1) (zPut ls k4.val (.ref x)) st σ uc us) : zGood g d Q pc ls (.ref x :: st) σ uc us := by
  intro p l e s m args below meth c cs D A ad0 ad n0 H locs lr C hn hP hD hS hl
  exact lv_astore_n C.1 C.2.1 hdg rfl (zLoc_has hl) hx rfl (fun lr2 hl2 => k p l e s m args below meth c cs D A ad0 ad n0 H locs lr2 C hn hP hD hS (zLoc_put1 hl2))
theorem s_astore {i : Nat} {x : Nat} (hdg : decode g.2.1 pc = .ok (.astore i, 2)) (hx : i < g.2.2.1) (k : zGood g d Q (pc + 2) (zPut ls i (.ref x)) st σ uc us) : zGood g d Q pc ls (.ref x :: st) σ uc us := by
  intro p l e s m args below meth c cs D A ad0 ad n0 H locs lr C hn hP hD hS hl
  exact lv_astore C.1 C.2.1 hdg (zLoc_has hl) hx rfl (fun lr2 hl2 => k p l e s m args below meth c cs D A ad0 ad n0 H locs lr2 C hn hP hD hS (zLoc_put1 hl2))
theorem s_astore_nN {k4 : Fin 4}  (hdg : decode g.2.1 pc = .ok (.astore_n k4, 1)) (hx : k4.val < g.2.2.1) (k : zGood g d Q (pc + 1) (zPut ls k4.val (.null)) st σ uc us) : zGood g d Q pc ls (.null :: st) σ uc us := by
  intro p l e s m args below meth c cs D A ad0 ad n0 H locs lr C hn hP hD hS hl
  exact lv_astore_nN C.1 C.2.1 hdg rfl (zLoc_has hl) hx rfl (fun lr2 hl2 => k p l e s m args below meth c cs D A ad0 ad n0 H locs lr2 C hn hP hD hS (zLoc_put1 hl2))
theorem s_astoreN {i : Nat}  (hdg : decode g.2.1 pc = .ok (.astore i, 2)) (hx : i < g.2.2.1) (k : zGood g d Q (pc + 2) (zPut ls i (.null)) st σ uc us) : zGood g d Q pc ls (.null :: st) σ uc us := by
  intro p l e s m args below meth c cs D A ad0 ad n0 H locs lr C hn hP hD hS hl
  exact lv_astoreN C.1 C.2.1 hdg (zLoc_has hl) hx rfl (fun lr2 hl2 => k p l e s m args below meth c cs D A ad0 ad n0 H locs lr2 C hn hP hD hS (zLoc_put1 hl2))
theorem s_lstore_n {k4 : Fin 4} {x : Int64} (hdg : decode g.2.1 pc = .ok (.lstore_n k4, 1)) (hx : k4.val + 1 < g.2.2.1) (k : zGood g d Q (pc + 1) (zDel (zPut ls k4.val (.long x)) (k4.val + 1)) st σ uc us) : zGood g d Q pc ls (.long x :: st) σ uc us := by
  intro p l e s m args below meth c cs D A ad0 ad n0 H locs lr C hn hP hD hS hl
  exact lv_lstore_n C.1 C.2.1 hdg rfl (zLoc_has hl) hx rfl (fun lr2 hl2 => k p l e s m args below meth c cs D A ad0 ad n0 H locs lr2 C hn hP hD hS (zLoc_put2 hl2))
theorem s_iinc {i : Nat} {n : Int} {x v : Int32} (hdg : decode g.2.1 pc = .ok (.iinc i n, 3)) (hv : Int32.ofInt n = v) (hx : zGet ls i = some (.int x)) (hi : i < g.2.2.1) (k : zGood g d Q (pc + 3) (zPut ls i (.int (x + v))) st σ uc us) : zGood g d Q pc ls st σ uc us := by
  intro p l e s m args below meth c cs D A ad0 ad n0 H locs lr C hn hP hD hS hl
  obtain ⟨k9, hk9⟩ := List.mem_iff_getElem?.mp (zLv_mem (ad := ad) (i := 0) hx)
  rw [Nat.zero_add] at hk9
  exact lv_iinc C.1 C.2.1 hdg (zLoc_has hl) (k := k9) hk9 (by rw [hv]) hi rfl (fun lr2 hl2 => k p l e s m args below meth c cs D A ad0 ad n0 H locs lr2 C hn hP hD hS (zLoc_put1 hl2))
theorem s_iadd {x y : Int32} (hdg : decode g.2.1 pc = .ok (.iadd, 1)) (k : zGood g d Q (pc + 1) ls (.int (x + y) :: st) σ uc us) : zGood g d Q pc ls (.int y :: .int x :: st) σ uc us := by
  intro p l e s m args below meth c cs D A ad0 ad n0 H locs lr C hn hP hD hS hl
  exact lv_iadd C.1 C.2.1 hdg (k p l e s m args below meth c cs D A ad0 ad n0 H locs lr C hn hP hD hS hl)
theorem s_isub {x y : Int32} (hdg : decode g.2.1 pc = .ok (.isub, 1)) (k : zGood g d Q (pc + 1) ls (.int (x - y) :: st) σ uc us) : zGood g d Q pc ls (.int y :: .int x :: st) σ uc us := by
  intro p l e s m args below meth c cs D A ad0 ad n0 H locs lr C hn hP hD hS hl
  exact lv_isub C.1 C.2.1 hdg (k p l e s m args below meth c cs D A ad0 ad n0 H locs lr C hn hP hD hS hl)
theorem s_imul {x y : Int32} (hdg : decode g.2.1 pc = .ok (.imul, 1)) (k : zGood g d Q (pc + 1) ls (.int (x * y) :: st) σ uc us) : zGood g d Q pc ls (.int y :: .int x :: st) σ uc us := by
  intro p l e s m args below meth c cs D A ad0 ad n0 H locs lr C hn hP hD hS hl
  exact lv_imul C.1 C.2.1 hdg (k p l e s m args below meth c cs D A ad0 ad n0 H locs lr C hn hP hD hS hl)
theorem s_iand {x y : Int32} (hdg : decode g.2.1 pc = .ok (.iand, 1)) (k : zGood g d Q (pc + 1) ls (.int (x &&& y) :: st) σ uc us) : zGood g d Q pc ls (.int y :: .int x :: st) σ uc us := by
  intro p l e s m args below meth c cs D A ad0 ad n0 H locs lr C hn hP hD hS hl
  exact lv_iand C.1 C.2.1 hdg (k p l e s m args below meth c cs D A ad0 ad n0 H locs lr C hn hP hD hS hl)
theorem s_ior {x y : Int32} (hdg : decode g.2.1 pc = .ok (.ior, 1)) (k : zGood g d Q (pc + 1) ls (.int (x ||| y) :: st) σ uc us) : zGood g d Q pc ls (.int y :: .int x :: st) σ uc us := by
  intro p l e s m args below meth c cs D A ad0 ad n0 H locs lr C hn hP hD hS hl
  exact lv_ior C.1 C.2.1 hdg (k p l e s m args below meth c cs D A ad0 ad n0 H locs lr C hn hP hD hS hl)
theorem s_ixor {x y : Int32} (hdg : decode g.2.1 pc = .ok (.ixor, 1)) (k : zGood g d Q (pc + 1) ls (.int (x ^^^ y) :: st) σ uc us) : zGood g d Q pc ls (.int y :: .int x :: st) σ uc us := by
  intro p l e s m args below meth c cs D A ad0 ad n0 H locs lr C hn hP hD hS hl
  exact lv_ixor C.1 C.2.1 hdg (k p l e s m args below meth c cs D A ad0 ad n0 H locs lr C hn hP hD hS hl)
theorem s_ishl {x y : Int32} (hdg : decode g.2.1 pc = .ok (.ishl, 1)) (k : zGood g d Q (pc + 1) ls (.int (x <<< (y &&& 31)) :: st) σ uc us) : zGood g d Q pc ls (.int y :: .int x :: st) σ uc us := by
  intro p l e s m args below meth c cs D A ad0 ad n0 H locs lr C hn hP hD hS hl
  exact lv_ishl C.1 C.2.1 hdg (k p l e s m args below meth c cs D A ad0 ad n0 H locs lr C hn hP hD hS hl)
theorem s_ishr {x y : Int32} (hdg : decode g.2.1 pc = .ok (.ishr, 1)) (k : zGood g d Q (pc + 1) ls (.int (x >>> (y &&& 31)) :: st) σ uc us) : zGood g d Q pc ls (.int y :: .int x :: st) σ uc us := by
  intro p l e s m args below meth c cs D A ad0 ad n0 H locs lr C hn hP hD hS hl
  exact lv_ishr C.1 C.2.1 hdg (k p l e s m args below meth c cs D A ad0 ad n0 H locs lr C hn hP hD hS hl)
theorem s_iushr {x y : Int32} (hdg : decode g.2.1 pc = .ok (.iushr, 1)) (k : zGood g d Q (pc + 1) ls (.int ((x.toUInt32 >>> (y.toUInt32 &&& Int32.toUInt32 31)).toInt32) :: st) σ uc us) : zGood g d Q pc ls (.int y :: .int x :: st) σ uc us := by
  intro p l e s m args below meth c cs D A ad0 ad n0 H locs lr C hn hP hD hS hl
  exact lv_iushr C.1 C.2.1 hdg rfl (k p l e s m args below meth c cs D A ad0 ad n0 H locs lr C hn hP hD hS hl)
theorem s_idiv {x y : Int32} (hdg : decode g.2.1 pc = .ok (.idiv, 1)) (hne : ¬ y = 0) (k : zGood g d Q (pc + 1) ls (.int (x / y) :: st) σ uc us) : zGood g d Q pc ls (.int y :: .int x :: st) σ uc us := by
  intro p l e s m args below meth c cs D A ad0 ad n0 H locs lr C hn hP hD hS hl
  exact lv_idiv C.1 C.2.1 hdg hne (k p l e s m args below meth c cs D A ad0 ad n0 H locs lr C hn hP hD hS hl)
theorem s_irem {x y : Int32} (hdg : decode g.2.1 pc = .ok (.irem, 1)) (hne : ¬ y = 0) (k : zGood g d Q (pc + 1) ls (.int (x - x / y * y) :: st) σ uc us) : zGood g d Q pc ls (.int y :: .int x :: st) σ uc us := by
  intro p l e s m args below meth c cs D A ad0 ad n0 H locs lr C hn hP hD hS hl
  exact lv_irem C.1 C.2.1 hdg hne (k p l e s m args below meth c cs D A ad0 ad n0 H locs lr C hn hP hD hS hl)
theorem s_ineg {x : Int32} (hdg : decode g.2.1 pc = .ok (.ineg, 1)) (k : zGood g d Q (pc + 1) ls (.int (-x) :: st) σ uc us) : zGood g d Q pc ls (.int x :: st) σ uc us := by
  intro p l e s m args below meth c cs D A ad0 ad n0 H locs lr C hn hP hD hS hl
  exact lv_ineg C.1 C.2.1 hdg (k p l e s m args below meth c cs D A ad0 ad n0 H locs lr C hn hP hD hS hl)
theorem s_ladd {x y : Int64} (hdg : decode g.2.1 pc = .ok (.ladd, 1)) (k : zGood g d Q (pc + 1) ls (.long (x + y) :: st) σ uc us) : zGood g d Q pc ls (.long y :: .long x :: st) σ uc us := by
  intro p l e s m args below meth c cs D A ad0 ad n0 H locs lr C hn hP hD hS hl
  exact lv_ladd C.1 C.2.1 hdg (k p l e s m args below meth c cs D A ad0 ad n0 H locs lr C hn hP hD hS hl)
theorem s_lmul {x y : Int64} (hdg : decode g.2.1 pc = .ok (.lmul, 1)) (k : zGood g d Q (pc + 1) ls (.long (x * y) :: st) σ uc us) : zGood g d Q pc ls (.long y :: .long x :: st) σ uc us := by
  intro p l e s m args below meth c cs D A ad0 ad n0 H locs lr C hn hP hD hS hl
  exact lv_lmul C.1 C.2.1 hdg (k p l e s m args below meth c cs D A ad0 ad n0 H locs lr C hn hP hD hS hl)
theorem s_land {x y : Int64} (hdg : decode g.2.1 pc = .ok (.land, 1)) (k : zGood g d Q (pc + 1) ls (.long (x &&& y) :: st) σ uc us) : zGood g d Q pc ls (.long y :: .long x :: st) σ uc us := by
  intro p l e s m args below meth c cs D A ad0 ad n0 H locs lr C hn hP hD hS hl
  exact lv_land C.1 C.2.1 hdg (k p l e s m args below meth c cs D A ad0 ad n0 H locs lr C hn hP hD hS hl)
theorem s_ldiv {x y : Int64} (hdg : decode g.2.1 pc = .ok (.ldiv, 1)) (hne : ¬ y = 0) (k : zGood g d Q (pc + 1) ls (.long (x / y) :: st) σ uc us) : zGood g d Q pc ls (.long y :: .long x :: st) σ uc us := by
  intro p l e s m args below meth c cs D A ad0 ad n0 H locs lr C hn hP hD hS hl
  exact lv_ldiv C.1 C.2.1 hdg hne (k p l e s m args below meth c cs D A ad0 ad n0 H locs lr C hn hP hD hS hl)
theorem s_i2l {x : Int32} (hdg : decode g.2.1 pc = .ok (.i2l, 1)) (k : zGood g d Q (pc + 1) ls (.long x.toInt64 :: st) σ uc us) : zGood g d Q pc ls (.int x :: st) σ uc us := by
  intro p l e s m args below meth c cs D A ad0 ad n0 H locs lr C hn hP hD hS hl
  exact lv_i2l C.1 C.2.1 hdg rfl (k p l e s m args below meth c cs D A ad0 ad n0 H locs lr C hn hP hD hS hl)
theorem s_l2i {x : Int64} (hdg : decode g.2.1 pc = .ok (.l2i, 1)) (k : zGood g d Q (pc + 1) ls (.int x.toInt32 :: st) σ uc us) : zGood g d Q pc ls (.long x :: st) σ uc us := by
  intro p l e s m args below meth c cs D A ad0 ad n0 H locs lr C hn hP hD hS hl
  exact lv_l2i C.1 C.2.1 hdg rfl (k p l e s m args below meth c cs D A ad0 ad n0 H locs lr C hn hP hD hS hl)
theorem s_dup {v : Value} (hdg : decode g.2.1 pc = .ok (.dup, 1)) (hv : v.category = 1) (k : zGood g d Q (pc + 1) ls (v :: v :: st) σ uc us) : zGood g d Q pc ls (v :: st) σ uc us := by
  intro p l e s m args below meth c cs D A ad0 ad n0 H locs lr C hn hP hD hS hl
  exact lv_dup C.1 C.2.1 hdg (by rw [zRe_cat]; exact hv) (k p l e s m args below meth c cs D A ad0 ad n0 H locs lr C hn hP hD hS hl)
theorem s_dup2 {v u : Value} (hdg : decode g.2.1 pc = .ok (.dup2, 1)) (hv : v.category = 1) (hu : u.category = 1) (k : zGood g d Q (pc + 1) ls (v :: u :: v :: u :: st) σ uc us) : zGood g d Q pc ls (v :: u :: st) σ uc us := by
  intro p l e s m args below meth c cs D A ad0 ad n0 H locs lr C hn hP hD hS hl
  exact lv_dup2_11 C.1 C.2.1 hdg (by rw [zRe_cat]; exact hv) (by rw [zRe_cat]; exact hu) (k p l e s m args below meth c cs D A ad0 ad n0 H locs lr C hn hP hD hS hl)
theorem s_pop {v : Value} (hdg : decode g.2.1 pc = .ok (.pop, 1)) (hv : v.category = 1) (k : zGood g d Q (pc + 1) ls st σ uc us) : zGood g d Q pc ls (v :: st) σ uc us := by
  intro p l e s m args below meth c cs D A ad0 ad n0 H locs lr C hn hP hD hS hl
  exact lv_pop C.1 C.2.1 hdg (by rw [zRe_cat]; exact hv) (k p l e s m args below meth c cs D A ad0 ad n0 H locs lr C hn hP hD hS hl)
theorem s_if_eq {x : Int32} {off : Int} {tgt : Nat} (hdg : decode g.2.1 pc = .ok (.ifCond .eq off, 3)) (ht : (pc : Int) + off = (tgt : Int)) (kt : x = 0 → zGood g d Q tgt ls st σ uc us) (kf : ¬ x = 0 → zGood g d Q (pc + 3) ls st σ uc us) : zGood g d Q pc ls (.int x :: st) σ uc us := by
  intro p l e s m args below meth c cs D A ad0 ad n0 H locs lr C hn hP hD hS hl
  exact lv_if_eq C.1 C.2.1 hdg ht (fun q => kt q p l e s m args below meth c cs D A ad0 ad n0 H locs lr C hn hP hD hS hl) (fun q => kf q p l e s m args below meth c cs D A ad0 ad n0 H locs lr C hn hP hD hS hl)
theorem s_icmp_eq {x y : Int32} {off : Int} {tgt : Nat} (hdg : decode g.2.1 pc = .ok (.if_icmp .eq off, 3)) (ht : (pc : Int) + off = (tgt : Int)) (kt : x = y → zGood g d Q tgt ls st σ uc us) (kf : ¬ x = y → zGood g d Q (pc + 3) ls st σ uc us) : zGood g d Q pc ls (.int y :: .int x :: st) σ uc us := by
  intro p l e s m args below meth c cs D A ad0 ad n0 H locs lr C hn hP hD hS hl
  exact lv_icmp_eq C.1 C.2.1 hdg ht (fun q => kt q p l e s m args below meth c cs D A ad0 ad n0 H locs lr C hn hP hD hS hl) (fun q => kf q p l e s m args below meth c cs D A ad0 ad n0 H locs lr C hn hP hD hS hl)
theorem s_if_ne {x : Int32} {off : Int} {tgt : Nat} (hdg : decode g.2.1 pc = .ok (.ifCond .ne off, 3)) (ht : (pc : Int) + off = (tgt : Int)) (kt : ¬ x = 0 → zGood g d Q tgt ls st σ uc us) (kf : x = 0 → zGood g d Q (pc + 3) ls st σ uc us) : zGood g d Q pc ls (.int x :: st) σ uc us := by
  intro p l e s m args below meth c cs D A ad0 ad n0 H locs lr C hn hP hD hS hl
  exact lv_if_ne C.1 C.2.1 hdg ht (fun q => kt q p l e s m args below meth c cs D A ad0 ad n0 H locs lr C hn hP hD hS hl) (fun q => kf q p l e s m args below meth c cs D A ad0 ad n0 H locs lr C hn hP hD hS hl)
theorem s_icmp_ne {x y : Int32} {off : Int} {tgt : Nat} (hdg : decode g.2.1 pc = .ok (.if_icmp .ne off, 3)) (ht : (pc : Int) + off = (tgt : Int)) (kt : ¬ x = y → zGood g d Q tgt ls st σ uc us) (kf : x = y → zGood g d Q (pc + 3) ls st σ uc us) : zGood g d Q pc ls (.int y :: .int x :: st) σ uc us := by
  intro p l e s m args below meth c cs D A ad0 ad n0 H locs lr C hn hP hD hS hl
  exact lv_icmp_ne C.1 C.2.1 hdg ht (fun q => kt q p l e s m args below meth c cs D A ad0 ad n0 H locs lr C hn hP hD hS hl) (fun q => kf q p l e s m args below meth c cs D A ad0 ad n0 H locs lr C hn hP hD hS hl)
theorem s_if_lt {x : Int32} {off : Int} {tgt : Nat} (hdg : decode g.2.1 pc = .ok (.ifCond .lt off, 3)) (ht : (pc : Int) + off = (tgt : Int)) (kt : x < 0 → zGood g d Q tgt ls st σ uc us) (kf : ¬ x < 0 → zGood g d Q (pc + 3) ls st σ uc us) : zGood g d Q pc ls (.int x :: st) σ uc us := by
  intro p l e s m args below meth c cs D A ad0 ad n0 H locs lr C hn hP hD hS hl
  exact lv_if_lt C.1 C.2.1 hdg ht (fun q => kt q p l e s m args below meth c cs D A ad0 ad n0 H locs lr C hn hP hD hS hl) (fun q => kf q p l e s m args below meth c cs D A ad0 ad n0 H locs lr C hn hP hD hS hl)
theorem s_icmp_lt {x y : Int32} {off : Int} {tgt : Nat} (hdg : decode g.2.1 pc = .ok (.if_icmp .lt off, 3)) (ht : (pc : Int) + off = (tgt : Int)) (kt : x < y → zGood g d Q tgt ls st σ uc us) (kf : ¬ x < y → zGood g d Q (pc + 3) ls st σ uc us) : zGood g d Q pc ls (.int y :: .int x :: st) σ uc us := by
  intro p l e s m args below meth c cs D A ad0 ad n0 H locs lr C hn hP hD hS hl
  exact lv_icmp_lt C.1 C.2.1 hdg ht (fun q => kt q p l e s m args below meth c cs D A ad0 ad n0 H locs lr C hn hP hD hS hl) (fun q => kf q p l e s m args below meth c cs D A ad0 ad n0 H locs lr C hn hP hD hS hl)
theorem s_if_ge {x : Int32} {off : Int} {tgt : Nat} (hdg : decode g.2.1 pc = .ok (.ifCond .ge off, 3)) (ht : (pc : Int) + off = (tgt : Int)) (kt : 0 ≤ x → zGood g d Q tgt ls st σ uc us) (kf : ¬ 0 ≤ x → zGood g d Q (pc + 3) ls st σ uc us) : zGood g d Q pc ls (.int x :: st) σ uc us := by
  intro p l e s m args below meth c cs D A ad0 ad n0 H locs lr C hn hP hD hS hl
  exact lv_if_ge C.1 C.2.1 hdg ht (fun q => kt q p l e s m args below meth c cs D A ad0 ad n0 H locs lr C hn hP hD hS hl) (fun q => kf q p l e s m args below meth c cs D A ad0 ad n0 H locs lr C hn hP hD hS hl)
theorem s_icmp_ge {x y : Int32} {off : Int} {tgt : Nat} (hdg : decode g.2.1 pc = .ok (.if_icmp .ge off, 3)) (ht : (pc : Int) + off = (tgt : Int)) (kt : y ≤ x → zGood g d Q tgt ls st σ uc us) (kf : ¬ y ≤ x → zGood g d Q (pc + 3) ls st σ uc us) : zGood g d Q pc ls (.int y :: .int x :: st) σ uc us := by
  intro p l e s m args below meth c cs D A ad0 ad n0 H locs lr C hn hP hD hS hl
  exact lv_icmp_ge C.1 C.2.1 hdg ht (fun q => kt q p l e s m args below meth c cs D A ad0 ad n0 H locs lr C hn hP hD hS hl) (fun q => kf q p l e s m args below meth c cs D A ad0 ad n0 H locs lr C hn hP hD hS hl)
theorem s_if_gt {x : Int32} {off : Int} {tgt : Nat} (hdg : decode g.2.1 pc = .ok (.ifCond .gt off, 3)) (ht : (pc : Int) + off = (tgt : Int)) (kt : 0 < x → zGood g d Q tgt ls st σ uc us) (kf : ¬ 0 < x → zGood g d Q (pc + 3) ls st σ uc us) : zGood g d Q pc ls (.int x :: st) σ uc us := by
  intro p l e s m args below meth c cs D A ad0 ad n0 H locs lr C hn hP hD hS hl
  exact lv_if_gt C.1 C.2.1 hdg ht (fun q => kt q p l e s m args below meth c cs D A ad0 ad n0 H locs lr C hn hP hD hS hl) (fun q => kf q p l e s m args below meth c cs D A ad0 ad n0 H locs lr C hn hP hD hS hl)
theorem s_icmp_gt {x y : Int32} {off : Int} {tgt : Nat} (hdg : decode g.2.1 pc = .ok (.if_icmp .gt off, 3)) (ht : (pc : Int) + off = (tgt : Int)) (kt : y < x → zGood g d Q tgt ls st σ uc us) (kf : ¬ y < x → zGood g d Q (pc + 3) ls st σ uc us) : zGood g d Q pc ls (.int y :: .int x :: st) σ uc us := by
  intro p l e s m args below meth c cs D A ad0 ad n0 H locs lr C hn hP hD hS hl
  exact lv_icmp_gt C.1 C.2.1 hdg ht (fun q => kt q p l e s m args below meth c cs D A ad0 ad n0 H locs lr C hn hP hD hS hl) (fun q => kf q p l e s m args below meth c cs D A ad0 ad n0 H locs lr C hn hP hD hS hl)
theorem s_if_le {x : Int32} {off : Int} {tgt : Nat} (hdg : decode g.2.1 pc = .ok (.ifCond .le off, 3)) (ht : (pc : Int) + off = (tgt : Int)) (kt : x ≤ 0 → zGood g d Q tgt ls st σ uc us) (kf : ¬ x ≤ 0 → zGood g d Q (pc + 3) ls st σ uc us) : zGood g d Q pc ls (.int x :: st) σ uc us := by
  intro p l e s m args below meth c cs D A ad0 ad n0 H locs lr C hn hP hD hS hl
  exact lv_if_le C.1 C.2.1 hdg ht (fun q => kt q p l e s m args below meth c cs D A ad0 ad n0 H locs lr C hn hP hD hS hl) (fun q => kf q p l e s m args below meth c cs D A ad0 ad n0 H locs lr C hn hP hD hS hl)
theorem s_icmp_le {x y : Int32} {off : Int} {tgt : Nat} (hdg : decode g.2.1 pc = .ok (.if_icmp .le off, 3)) (ht : (pc : Int) + off = (tgt : Int)) (kt : x ≤ y → zGood g d Q tgt ls st σ uc us) (kf : ¬ x ≤ y → zGood g d Q (pc + 3) ls st σ uc us) : zGood g d Q pc ls (.int y :: .int x :: st) σ uc us := by
  intro p l e s m args below meth c cs D A ad0 ad n0 H locs lr C hn hP hD hS hl
  exact lv_icmp_le C.1 C.2.1 hdg ht (fun q => kt q p l e s m args below meth c cs D A ad0 ad n0 H locs lr C hn hP hD hS hl) (fun q => kf q p l e s m args below meth c cs D A ad0 ad n0 H locs lr C hn hP hD hS hl)
theorem s_goto {off : Int} {tgt : Nat} (hdg : decode g.2.1 pc = .ok (.goto off, 3)) (ht : (pc : Int) + off = (tgt : Int)) (k : zGood g d Q tgt ls st σ uc us) : zGood g d Q pc ls st σ uc us := by
  intro p l e s m args below meth c cs D A ad0 ad n0 H locs lr C hn hP hD hS hl
  exact lv_goto C.1 C.2.1 hdg ht (k p l e s m args below meth c cs D A ad0 ad n0 H locs lr C hn hP hD hS hl)
theorem s_ifnull {x : Nat} {off : Int} (hdg : decode g.2.1 pc = .ok (.ifnull off, 3)) (k : zGood g d Q (pc + 3) ls st σ uc us) : zGood g d Q pc ls (.ref x :: st) σ uc us := by
  intro p l e s m args below meth c cs D A ad0 ad n0 H locs lr C hn hP hD hS hl
  exact lv_ifnull C.1 C.2.1 hdg (k p l e s m args below meth c cs D A ad0 ad n0 H locs lr C hn hP hD hS hl)
theorem s_ifnullN {off : Int} {tgt : Nat} (hdg : decode g.2.1 pc = .ok (.ifnull off, 3)) (ht : (pc : Int) + off = (tgt : Int)) (k : zGood g d Q tgt ls st σ uc us) : zGood g d Q pc ls (.null :: st) σ uc us := by
  intro p l e s m args below meth c cs D A ad0 ad n0 H locs lr C hn hP hD hS hl
  exact lv_ifnullN C.1 C.2.1 hdg ht (k p l e s m args below meth c cs D A ad0 ad n0 H locs lr C hn hP hD hS hl)
theorem s_ifnonnull {x : Nat} {off : Int} {tgt : Nat} (hdg : decode g.2.1 pc = .ok (.ifnonnull off, 3)) (ht : (pc : Int) + off = (tgt : Int)) (k : zGood g d Q tgt ls st σ uc us) : zGood g d Q pc ls (.ref x :: st) σ uc us := by
  intro p l e s m args below meth c cs D A ad0 ad n0 H locs lr C hn hP hD hS hl
  exact lv_ifnonnull C.1 C.2.1 hdg ht (k p l e s m args below meth c cs D A ad0 ad n0 H locs lr C hn hP hD hS hl)
theorem s_ifnonnullN {off : Int} (hdg : decode g.2.1 pc = .ok (.ifnonnull off, 3)) (k : zGood g d Q (pc + 3) ls st σ uc us) : zGood g d Q pc ls (.null :: st) σ uc us := by
  intro p l e s m args below meth c cs D A ad0 ad n0 H locs lr C hn hP hD hS hl
  exact lv_ifnonnullN C.1 C.2.1 hdg (k p l e s m args below meth c cs D A ad0 ad n0 H locs lr C hn hP hD hS hl)
theorem s_alen {a : Nat} {t n : Nat} {f : Nat → Int32} (ht : t = 0 ∨ t = 1) (hdg : decode g.2.1 pc = .ok (.arraylength, 1)) (ha : σ[a]? = some (.inl (t, n, .inl f))) (k : zGood g d Q (pc + 1) ls (.int (Int32.ofNat n) :: st) σ uc us) : zGood g d Q pc ls (.ref a :: st) σ uc us := by
  intro p l e s m args below meth c cs D A ad0 ad n0 H locs lr C hn hP hD hS hl
  rcases ht with rfl | rfl
  · exact va_alen C.1 C.2.1 C.2.2.2.2.2.2.2.1.1 hP a 0 (zW_get ha) rfl rfl hdg (k p l e s m args below meth c cs D A ad0 ad n0 H locs lr C hn hP hD hS hl)
  · exact va_alen C.1 C.2.1 C.2.2.2.2.2.2.2.1.1 hP a 1 (zW_get ha) rfl rfl hdg (k p l e s m args below meth c cs D A ad0 ad n0 H locs lr C hn hP hD hS hl)
theorem s_alenq {a : Nat} {t n : Nat} {f : Nat → Option Nat} (hdg : decode g.2.1 pc = .ok (.arraylength, 1)) (ha : σ[a]? = some (.inl (t, n, .inr (.inr (.inr (.inr f)))))) (k : zGood g d Q (pc + 1) ls (.int (Int32.ofNat n) :: st) σ uc us) : zGood g d Q pc ls (.ref a :: st) σ uc us := by
  intro p l e s m args below meth c cs D A ad0 ad n0 H locs lr C hn hP hD hS hl
  exact va_alen C.1 C.2.1 C.2.2.2.2.2.2.2.1.1 hP a 2 (zW_get ha) rfl rfl hdg (k p l e s m args below meth c cs D A ad0 ad n0 H locs lr C hn hP hD hS hl)
theorem s_iald {a n : Nat} {f : Nat → Int32} {i : Int32} (hdg : decode g.2.1 pc = .ok (.iaload, 1)) (ha : σ[a]? = some (.inl (0, n, .inl f))) (hi : vp_in i n) (k : zGood g d Q (pc + 1) ls (.int (f i.toNatClampNeg) :: st) σ uc us) : zGood g d Q pc ls (.int i :: .ref a :: st) σ uc us := by
  intro p l e s m args below meth c cs D A ad0 ad n0 H locs lr C hn hP hD hS hl
  exact va_iald C.1 C.2.1 C.2.2.2.2.2.2.2.1.1 hP a 0 (zW_get ha) rfl hi hdg (k p l e s m args below meth c cs D A ad0 ad n0 H locs lr C hn hP hD hS hl)
theorem s_zald {a n : Nat} {f : Nat → Int32} {i : Int32} (hdg : decode g.2.1 pc = .ok (.baload, 1)) (ha : σ[a]? = some (.inl (1, n, .inl f))) (hi : vp_in i n) (k : zGood g d Q (pc + 1) ls (.int (f i.toNatClampNeg) :: st) σ uc us) : zGood g d Q pc ls (.int i :: .ref a :: st) σ uc us := by
  intro p l e s m args below meth c cs D A ad0 ad n0 H locs lr C hn hP hD hS hl
  exact va_zald C.1 C.2.1 C.2.2.2.2.2.2.2.1.1 hP a 1 (zW_get ha) rfl hi hdg (k p l e s m args below meth c cs D A ad0 ad n0 H locs lr C hn hP hD hS hl)
theorem s_iast {a n : Nat} {f : Nat → Int32} {i x : Int32} (hdg : decode g.2.1 pc = .ok (.iastore, 1)) (ha : σ[a]? = some (.inl (0, n, .inl f))) (hi : vp_in i n) (k : zGood g d Q (pc + 1) ls st (σ.set a (.inl (0, n, .inl (upd f i.toNatClampNeg x)))) uc us) : zGood g d Q pc ls (.int x :: .int i :: .ref a :: st) σ uc us := by
  intro p l e s m args below meth c cs D A ad0 ad n0 H locs lr C hn hP hD hS hl
  exact va_iast C.1 C.2.1 C.2.2.2.2.2.2.2.1.1 hP hD hS a 0 (zW_get ha) rfl hi hdg (fun H1 locs1 hP1 hD1 hS1 => k p l e s m args below meth c cs D A ad0 ad n0 H1 locs1 lr C ⟨hn.1, hn.2.1, by rw [List.length_set]; exact hn.2.2.1, hn.2.2.2⟩ (by rw [zW_set]; exact hP1) (by rw [zW_set]; exact hD1) hS1 hl)
theorem s_zast {a n : Nat} {f : Nat → Int32} {i x : Int32} (hdg : decode g.2.1 pc = .ok (.bastore, 1)) (ha : σ[a]? = some (.inl (1, n, .inl f))) (hi : vp_in i n) (k : zGood g d Q (pc + 1) ls st (σ.set a (.inl (1, n, .inl (upd f i.toNatClampNeg (vp_nar .boolean x))))) uc us) : zGood g d Q pc ls (.int x :: .int i :: .ref a :: st) σ uc us := by
  intro p l e s m args below meth c cs D A ad0 ad n0 H locs lr C hn hP hD hS hl
  exact va_zast C.1 C.2.1 C.2.2.2.2.2.2.2.1.1 hP hD hS a 1 (zW_get ha) rfl hi hdg (fun H1 locs1 hP1 hD1 hS1 => k p l e s m args below meth c cs D A ad0 ad n0 H1 locs1 lr C ⟨hn.1, hn.2.1, by rw [List.length_set]; exact hn.2.2.1, hn.2.2.2⟩ (by rw [zW_set]; exact hP1) (by rw [zW_set]; exact hD1) hS1 hl)
/-- a reference out of a row of rows -/
def zRf : Option Nat → Value
  | some k => .ref k
  | none => .null
theorem zRf_re (ad : Nat → Nat) (o : Option Nat) : zRe ad (zRf o) = va_rf (o.map ad) := by cases o <;> rfl
theorem s_aald {a t n : Nat} {f : Nat → Option Nat} {i : Int32} (hdg : decode g.2.1 pc = .ok (.aaload, 1)) (ha : σ[a]? = some (.inl (t, n, .inr (.inr (.inr (.inr f)))))) (hi : vp_in i n) (k : zGood g d Q (pc + 1) ls (zRf (f i.toNatClampNeg) :: st) σ uc us) : zGood g d Q pc ls (.int i :: .ref a :: st) σ uc us := by
  intro p l e s m args below meth c cs D A ad0 ad n0 H locs lr C hn hP hD hS hl
  have hlt : i.toNatClampNeg < n := Nat.not_le.mp fun q => hi (Or.inr q)
  have hx := k p l e s m args below meth c cs D A ad0 ad n0 H locs lr C hn hP hD hS hl
  rw [List.map_cons, zRf_re] at hx
  have hc := hP a _ (zW_get ha)
  refine W.aald (v := va_rf ((f i.toNatClampNeg).map ad)) (ty := .array .int) C.1 C.2.1 hc ((C.2.2.2.2.2.2.2.1.1.2 2 _ rfl).1 n (fun j => va_rf (if j < n then (f j).map ad else none))) rfl (fun q => by cases q) (by show ¬ (i < 0 ∨ (arrV _ _ _).slots.size ≤ _); rw [arrV_size]; exact hi) (by show (arrV _ _ _).slots[_]? = _; rw [arrV_read _ _ hlt]; simp [hlt]) rfl rfl hdg hx
end ZR
end
section
/-- what the tables say of the classes -/
def zClass (ci : Nat) (C : String) (T : u_T) (N : Nat) : Prop := zCl[ci]? = some (C, T, N) ∧ (∀ w ∈ u_ws C T N, w ∈ zT) ∧ (∀ a, a < N → ∀ b, b < N → a ≠ b → (T a).2.1 ≠ (T b).2.1) ∧ ∃ ty : Nat → FieldType, ∀ k, k < N → parseFieldDescriptor (T k).2.2.1 = some (ty k)
section ZF
variable {g : zG} {d : Nat} {Q : Option Value → List va_E → Prop} {pc : Nat} {ls : List (Option Value)} {st r : List Value} {σ : List va_E} {uc us : Nat}
theorem s_getf {a ci k idx N : Nat} {Cn : String} {T : u_T} {fs : List Value} {v : Value} (hc : zClass ci Cn T N) (hk : k < N) (hlink : Jvm.Cond.fieldLink g.1.cls idx (T k).1 (T k).2.1 (T k).2.2.1 ∈ zT) (hdg : decode g.2.1 pc = .ok (.getfield idx, 3)) (ha : σ[a]? = some (.inr (ci, fs))) (hv : fs[k]? = some v)
    (kk : zGood g d Q (pc + 3) ls (v :: st) σ uc us) : zGood g d Q pc ls (.ref a :: st) σ uc us := by
  intro p l e s m args below meth c cs D A ad0 ad n0 H locs lr C hn hP hD hS hl
  exact va_get (D := D) C.1 C.2.1 C.2.2.2.2.2.2.1 (fun w hw => List.mem_cons_of_mem _ (hc.2.1 w hw)) C.2.2.2.2.2.1 C.2.2.2.2.2.2.2.1.1 hP a (zW_get ha) hc.1 k hk (C.2.2.2.2.2.2.1 _ (List.mem_cons_of_mem _ hlink)) (fun _ h9 => h9) (v := zRe ad v) (by rw [List.getElem?_map, hv]; rfl) hdg (kk p l e s m args below meth c cs D A ad0 ad n0 H locs lr C hn hP hD hS hl)
/-- what may be put into a field of type ty -/
def zFits (ty : FieldType) (v : Value) : Prop := narrow ty v = v ∧ fits ty v = true
theorem zFits_re {ty : FieldType} {v : Value} (ad : Nat → Nat) (h : zFits ty v) : zFits ty (zRe ad v) := by
  cases v <;> first | exact h | (refine ⟨?_, ?_⟩ <;> cases ty <;> first | rfl | (exact absurd h.2 (by simp [fits])))
theorem zE_set (cs : ClassId × ClassId × ClassId) (ad : Nat → Nat) (ci : Nat) (fs : List Value) (k : Nat) (v : Value) : zE cs ad (.inr (ci, fs.set k v)) = .inr (ci, (fs.map (zRe ad)).set k (zRe ad v)) := by
  simp [zE, List.map_set]
theorem s_putf {a ci k idx N : Nat} {Cn : String} {T : u_T} {fs : List Value} {v : Value} {ty : FieldType} (hc : zClass ci Cn T N) (hk : k < N) (hlink : Jvm.Cond.fieldLink g.1.cls idx (T k).1 (T k).2.1 (T k).2.2.1 ∈ zT) (hty : parseFieldDescriptor (T k).2.2.1 = some ty) (hfin : (T k).2.2.2 = false ∨ (g.1.name = "<init>" ∧ (T k).1 = g.1.cls)) (hdg : decode g.2.1 pc = .ok (.putfield idx, 3)) (ha : σ[a]? = some (.inr (ci, fs))) (hv : zFits ty v) (hlen : k < fs.length)
    (kk : zGood g d Q (pc + 3) ls st (σ.set a (.inr (ci, fs.set k v))) uc us) : zGood g d Q pc ls (v :: .ref a :: st) σ uc us := by
  intro p l e s m args below meth c cs D A ad0 ad n0 H locs lr C hn hP hD hS hl
  obtain ⟨ty0, hty0⟩ := hc.2.2.2
  have hn2 : (g.2.2.2.2.1 = 0 → ad = ad0) ∧ (∀ k, k < n0 → ad k = ad0 k) ∧ n0 ≤ (σ.set a (.inr (ci, fs.set k v))).length ∧ uc ≤ g.2.2.2.2.1 ∧ us ≤ g.2.2.2.2.2 := ⟨hn.1, hn.2.1, by rw [List.length_set]; exact hn.2.2.1, hn.2.2.2⟩
  have hv2 := zFits_re ad hv
  have hl2 : k < (fs.map (zRe ad)).length := by rw [List.length_map]; exact hlen
  by_cases hf : (T k).2.2.2 = false
  · refine va_put (D := D) C.1 C.2.1 C.2.2.2.2.2.2.1 (fun w hw => List.mem_cons_of_mem _ (hc.2.1 w hw)) ty0 hty0 hc.2.2.1 C.2.2.2.2.2.1 C.2.2.2.2.2.2.2.1.1 hP hD hS a (zW_get ha) hc.1 k hk (C.2.2.2.2.2.2.1 _ (List.mem_cons_of_mem _ hlink)) (fun _ h9 => h9) hf hty hv2.1 hv2.2 hl2 hdg (fun H1 locs1 hP1 hD1 hS1 => ?_)
    exact kk p l e s m args below meth c cs D A ad0 ad n0 H1 locs1 lr C hn2 (by rw [zW_set, zE_set]; exact hP1) (by rw [zW_set, zE_set]; exact hD1) hS1 hl
  · obtain ⟨hin, hdecl⟩ := hfin.resolve_left hf
    have hf2 : (T k).2.2.2 = true := by simpa using hf
    refine va_putF (D := D) C.1 C.2.1 C.2.2.2.2.2.2.1 (fun w hw => List.mem_cons_of_mem _ (hc.2.1 w hw)) ty0 hty0 hc.2.2.1 C.2.2.2.2.2.1 C.2.2.2.2.2.2.2.1.1 hP hD hS a (zW_get ha) hc.1 k hk (C.2.2.2.2.2.2.1 _ (List.mem_cons_of_mem _ hlink)) (fun _ h9 => h9) hf2 (C.2.2.2.2.2.2.2.2.2.trans hin) hdecl hty hv2.1 hv2.2 hl2 hdg (fun H1 locs1 hP1 hD1 hS1 => ?_)
    exact kk p l e s m args below meth c cs D A ad0 ad n0 H1 locs1 lr C hn2 (by rw [zW_set, zE_set]; exact hP1) (by rw [zW_set, zE_set]; exact hD1) hS1 hl
-- making
theorem zUp_lt (ad : Nat → Nat) (n q : Nat) : ∀ k, k < n → (fun j => if j < n then ad j else q) k = ad k := fun k hk => by simp [hk]
def zUp (ad : Nat → Nat) (n q : Nat) : Nat → Nat := fun j => if j < n then ad j else q
theorem zUp_old {ad : Nat → Nat} {n q : Nat} : ∀ k, k < n → zUp ad n q k = ad k := fun k hk => if_pos hk
theorem zUp_new {ad : Nat → Nat} {n q : Nat} : zUp ad n q n = q := if_neg (Nat.lt_irrefl n)
theorem s_new {ci idx N : Nat} {Cn : String} {T : u_T} {ty : Nat → FieldType} {fs : List Value} (hc : zClass ci Cn T N) (hty : ∀ k, k < N → parseFieldDescriptor (T k).2.2.1 = some (ty k)) (hcl : Jvm.Cond.classLink g.1.cls idx Cn ∈ zT) (hins : Jvm.Cond.instantiable Cn N ∈ zT) (hini : Jvm.Cond.initialized Cn ∈ zT) (hfs : ∀ j, j < N → defaultValue (ty j) = vp_V fs j) (hre : ∀ ad : Nat → Nat, fs.map (zRe ad) = fs) (hdg : decode g.2.1 pc = .ok (.new idx, 3))
    (hb : (zBO σ.length ls && (zBL σ.length st && zBS σ.length σ)) = true) (huc : uc + 1 ≤ g.2.2.2.2.1) (hus : us + N ≤ g.2.2.2.2.2)
    (kk : zGood g d Q (pc + 3) ls (.ref σ.length :: st) (σ ++ [.inr (ci, fs)]) (uc + 1) (us + N)) : zGood g d Q pc ls st σ uc us := by
  intro p l e s m args below meth c cs D A ad0 ad n0 H locs lr C hn hP hD hS hl
  simp only [Bool.and_eq_true] at hb
  refine va_new (D := D) C.1 C.2.1 C.2.2.2.2.2.2.1 (fun w hw => List.mem_cons_of_mem _ (hc.2.1 w hw)) ty hty C.2.2.2.2.2.1 (C.2.2.2.2.2.2.1 _ (List.mem_cons_of_mem _ hcl)) (C.2.2.2.2.2.2.1 _ (List.mem_cons_of_mem _ hins)) (C.2.2.2.2.2.2.1 _ (List.mem_cons_of_mem _ hini)) C.2.2.2.2.2.2.2.1.1 hP hD hS C.2.2.2.2.2.2.2.2.1 hc.1 hfs huc hus hdg (fun q H1 hP1 hD1 hS1 => ?_)
  have e1 : zW cs (zUp ad σ.length q) (σ ++ [.inr (ci, fs)]) = zW cs ad σ ++ [(q, .inr (ci, fs))] := by
    rw [zW_push, zBS_re zUp_old (Nat.le_refl _) hb.2.2, zUp_new]
    simp only [zE]
    rw [hre]
  have e2 : (Value.ref σ.length :: st).map (zRe (zUp ad σ.length q)) = .ref q :: st.map (zRe ad) := by
    rw [List.map_cons, zBL_re zUp_old hb.2.1]
    exact congrArg (fun x => Value.ref x :: st.map (zRe ad)) zUp_new
  have h9 := kk p l e s m args below meth c cs D A ad0 (zUp ad σ.length q) n0 H1 locs lr C ⟨fun z => by omega, fun k hk => (zUp_old k (by have := hn.2.2.1; omega)).trans (hn.2.1 k hk), by rw [List.length_append]; have := hn.2.2.1; omega, huc, hus⟩ (by rw [e1]; exact hP1) (by rw [e1]; exact hD1) hS1 (zLoc_ad zUp_old hb.1 hl)
  rw [e2] at h9
  exact h9
theorem s_newa {n : Int32} {N : Nat} {t : Nat} {aty : ArrayType} (ht : (t = 0 ∧ aty = .int) ∨ (t = 1 ∧ aty = .boolean)) (harr : Jvm.Cond.arrayClass (newarray.typeOf aty) ∈ zT) (hdg : decode g.2.1 pc = .ok (.newarray aty, 2)) (h0 : ¬ n < 0) (hN : n.toNatClampNeg = N) (hsm : N ≤ 100000)
    (hb : (zBO σ.length ls && (zBL σ.length st && zBS σ.length σ)) = true) (huc : uc + 1 ≤ g.2.2.2.2.1) (hus : us + N ≤ g.2.2.2.2.2)
    (kk : zGood g d Q (pc + 2) ls (.ref σ.length :: st) (σ ++ [.inl (t, N, .inl (fun _ => 0))]) (uc + 1) (us + N)) : zGood g d Q pc ls (.int n :: st) σ uc us := by
  intro p l e s m args below meth c cs D A ad0 ad n0 H locs lr C hn hP hD hS hl
  simp only [Bool.and_eq_true] at hb
  have key : ∀ (q : Nat) (cA : ClassId) (H1 : Heap), cA = (bif Nat.beq t 0 then cs.1 else cs.2.1) → va_P D zCl (zW cs ad σ ++ [(q, .inl (cA, N, .inl (fun _ => 0)))]) H1 → va_D A (zW cs ad σ ++ [(q, .inl (cA, N, .inl (fun _ => 0)))]) → va_S A s.heap H1 locs →
      W p l e (zRm g d) s m args below meth c H1 locs (uc + 1) (us + N) (MQ below (zQ cs D A ad0 n0 g Q) args s g.2.2.2.2.1 g.2.2.2.2.2 A) (F0 m (pc + 2) lr (.ref q :: st.map (zRe ad))) := by
    intro q cA H1 hcA hP1 hD1 hS1
    subst hcA
    have e1 : zW cs (zUp ad σ.length q) (σ ++ [.inl (t, N, .inl (fun _ => 0))]) = zW cs ad σ ++ [(q, .inl (bif Nat.beq t 0 then cs.1 else cs.2.1, N, .inl (fun _ => 0)))] := by
      rw [zW_push, zBS_re zUp_old (Nat.le_refl _) hb.2.2, zUp_new]
      rfl
    have e2 : (Value.ref σ.length :: st).map (zRe (zUp ad σ.length q)) = .ref q :: st.map (zRe ad) := by
      rw [List.map_cons, zBL_re zUp_old hb.2.1]
      exact congrArg (fun x => Value.ref x :: st.map (zRe ad)) zUp_new
    have h9 := kk p l e s m args below meth c cs D A ad0 (zUp ad σ.length q) n0 H1 locs lr C ⟨fun z => by omega, fun k hk => (zUp_old k (by have := hn.2.2.1; omega)).trans (hn.2.1 k hk), by rw [List.length_append]; have := hn.2.2.1; omega, huc, hus⟩ (by rw [e1]; exact hP1) (by rw [e1]; exact hD1) hS1 (zLoc_ad zUp_old hb.1 hl)
    rw [e2] at h9
    exact h9
  have hKK := C.2.2.2.2.2.2.2.1.1
  rcases ht with ⟨rfl, rfl⟩ | ⟨rfl, rfl⟩
  · refine va_newa (D := D) (atype := .int) (ty := .int) (a0 := (N, .inl (fun _ => 0))) C.1 C.2.1 (C.2.2.2.2.2.2.1 _ (List.mem_cons_of_mem _ harr)) rfl hKK hP hD hS C.2.2.2.2.2.2.2.2.1 (fun _ => rfl) h0 hN (by show N * 4 ≤ _; omega) huc hus hdg (fun q cA H1 hK1 hP1 hD1 hS1 => ?_)
    have e1 : s.vm.findClass ("[" ++ (FieldType.int).toString) = some cA := (hK1.2 3 _ rfl).2
    have e2 : s.vm.findClass ("[" ++ (FieldType.int).toString) = some cs.1 := (hKK.2 0 _ rfl).2
    exact key q cA H1 (Option.some.inj (e1.symm.trans e2)) hP1 hD1 hS1
  · refine va_newa (D := D) (atype := .boolean) (ty := .boolean) (a0 := (N, .inl (fun _ => 0))) C.1 C.2.1 (C.2.2.2.2.2.2.1 _ (List.mem_cons_of_mem _ harr)) rfl hKK hP hD hS C.2.2.2.2.2.2.2.2.1 (fun _ => rfl) h0 hN (by show N * 1 ≤ _; omega) huc hus hdg (fun q cA H1 hK1 hP1 hD1 hS1 => ?_)
    have e1 : s.vm.findClass ("[" ++ (FieldType.boolean).toString) = some cA := (hK1.2 3 _ rfl).2
    have e2 : s.vm.findClass ("[" ++ (FieldType.boolean).toString) = some cs.2.1 := (hKK.2 1 _ rfl).2
    exact key q cA H1 (Option.some.inj (e1.symm.trans e2)) hP1 hD1 hS1
end ZF
-- calls
section ZC
variable {p : Program} {l : Launch} {e : Env} {R : Room} {s : State} {m : MethodId} {args : Array Value} {below : List Frame} {meth : Method} {c : Code} {H : Heap} {locs : List Loc} {cells slots : Nat} {Qm : State → Prop}
theorem z_after {cs : ClassId × ClassId × ClassId} {D : va_G} {A0 A1 : Nat → Prop} {ad : Nat → Nat} {n : Nat} {g' : zG} {Q' : Option Value → List va_E → Prop} {a : Array Value} {H0 : Heap} {pc : Nat} {lr : Array Slot} {st0 rest : List Value}
    (hr : va_Run p l e R s m args below meth c H locs cells slots g'.2.2.2.2.1 g'.2.2.2.2.2 (F0 m pc lr st0) rest (zQ cs D A1 ad n g' Q' a) A1) (hS : va_S A0 H0 H locs) (hf : ∀ q, A1 q → A0 q)
    (kk : ∀ (v : Option Value) (ad' : Nat → Nat) (σ' : List va_E) (H1 : Heap) (locs1 : List Loc), Q' v σ' → (g'.2.2.2.2.1 = 0 → ad' = ad) → (∀ k, k < n → ad' k = ad k) → n ≤ σ'.length → va_P D zCl (zW cs ad' σ') H1 → va_D A1 (zW cs ad' σ') → va_S A0 H0 H1 locs1 →
      W p l e R s m args below meth c H1 locs1 (cells + g'.2.2.2.2.1) (slots + g'.2.2.2.2.2) Qm (F0 m (pc + 3) lr ((v.map (zRe ad')).toList ++ rest))) : W p l e R s m args below meth c H locs cells slots Qm (F0 m pc lr st0) := by
  intro T hT X
  obtain ⟨v, st₀, t, T', L, h0, X', hL, e1, e2, ⟨⟨v', ad', σ', hv, q1, q2, q3, q4, q5, q6⟩, hz, hk⟩, st⟩ := hr T hT X
  cases hv
  rw [h0] at hz hk
  obtain ⟨t2, a1, b1⟩ := kk v' ad' σ' T'.heap (locs ++ L) q1 q2 q3 q4 (by rw [e1]; exact q5) q6
    ⟨Nat.le_trans hS.1 (by rw [e1]; exact hz), fun q h1 h2 => by rw [e1, hk q (Nat.lt_of_lt_of_le h1 hS.1) (fun z => h2 (hf q z))]; exact hS.2.1 q h1 h2, fun q hq => by
      rcases List.mem_append.mp hq with h | h
      · exact hS.2.2 q h
      · exact hf _ (hL q h)⟩ T' rfl X'
  exact ⟨t2, st t2 a1, b1⟩
end ZC
def zPop : Nat → List Value → List Value → Option (List Value × List Value)
  | 0, acc, st => some (acc, st)
  | n + 1, acc, v :: st => zPop n (v :: acc) st
  | _ + 1, _, [] => none
theorem zPop_eq : ∀ {n : Nat} {acc st av r : List Value}, zPop n acc st = some (av, r) → av.reverse ++ r = acc.reverse ++ st ∧ av.length = acc.length + n
  | 0, acc, st, av, r, h => by cases h; exact ⟨rfl, rfl⟩
  | n + 1, acc, v :: st, av, r, h => by
    obtain ⟨h1, h2⟩ := zPop_eq (n := n) (acc := v :: acc) (st := st) h
    refine ⟨by rw [h1]; simp, by rw [h2, List.length_cons]; omega⟩
  | n + 1, acc, [], av, r, h => by cases h
def zCat : List Value → Nat
  | [] => 0
  | v :: r => v.category + zCat r
theorem zCat_eq (ad : Nat → Nat) : ∀ (r : List Value), ((r.map (zRe ad)).map fun v => v.category).sum = zCat r
  | [] => rfl
  | v :: r => by
    rw [List.map_cons, List.map_cons, List.sum_cons, zCat_eq ad r, zRe_cat]
    rfl
def zMeth (own : String) (g' : zG) (idx kind n ci : Nat) : Prop :=
  zCd g' ∈ zT ∧ Jvm.Cond.initialized g'.1.cls ∈ zT ∧ (g'.1.cls ≠ "java/lang/invoke/MethodHandle" ∧ g'.1.cls ≠ "java/lang/invoke/VarHandle") ∧ g'.2.2.1 ≤ 21 ∧
  match kind with
  | 0 => Jvm.Cond.methodLink own idx g'.1 ∈ zT ∧ Jvm.Cond.instanceMethod g'.1 ∈ zT ∧ Jvm.Cond.selects g'.1.cls g'.1 g'.1 ∈ zT ∧ (parseMethodDescriptor g'.1.desc).map (fun d => d.parameters.length + 1) = some n ∧ (zCl[ci]?).map (fun q => q.1) = some g'.1.cls
  | 1 => Jvm.Cond.methodLink own idx g'.1 ∈ zT ∧ Jvm.Cond.static g'.1 ∈ zT ∧ (parseMethodDescriptor g'.1.desc).map (fun d => d.parameters.length) = some n
  | 2 => Jvm.Cond.methodLink own idx g'.1 ∈ zT ∧ Jvm.Cond.instanceMethod g'.1 ∈ zT ∧ g'.1.name = "<init>" ∧ g'.2.2.2.1 = none ∧ (parseMethodDescriptor g'.1.desc).map (fun d => d.parameters.length + 1) = some n ∧ (zCl[ci]?).map (fun q => q.1) = some g'.1.cls
  | 3 => Jvm.Cond.methodLinkNest own idx g'.1 "BlameTown" ∈ zN ∧ Jvm.Cond.static g'.1 ∈ zT ∧ (parseMethodDescriptor g'.1.desc).map (fun d => d.parameters.length) = some n
  | _ => False
section ZD
variable {g g' : zG} {d : Nat} {Q : Option Value → List va_E → Prop} {pc : Nat} {ls : List (Option Value)} {st rest av : List Value} {σ : List va_E} {uc us : Nat}
theorem z_free {cs : ClassId × ClassId × ClassId} {ad : Nat → Nat} {A : Nat → Prop} {H0 H : Heap} {locs : List Loc} (hD : va_D A (zW cs ad σ)) (hS : va_S A H0 H locs) (hA : ∀ q, H0.size ≤ q → A q) : ∀ q, va_A (zW cs ad σ) H.size q → A q := by
  intro q hq
  rcases hq with ⟨k, e, hk⟩ | h
  · exact hD.2 k _ hk
  · exact hA q (Nat.le_trans hS.1 h)
theorem z_blind {cs : ClassId × ClassId × ClassId} {D : va_G} {ad : Nat → Nat} {sz : Nat} {vs : List Value} : FrameBlind (va_Pc vs (fun U => U.heap.size = sz ∧ va_P D zCl (zW cs ad σ) U.heap ∧ zK cs D U ∧ va_D (fun _ => True) (zW cs ad σ))) :=
  fun a U gg mk q => ⟨q.1, q.2.1, q.2.2.1, zK_same (u := U) (U := U.calling gg mk a) rfl q.2.2.2.1, q.2.2.2.2⟩
theorem s_call {idx kind n ci : Nat} (hm : zMeth g.1.cls g' idx kind n ci) (hdg : decode g.2.1 pc = .ok ((if kind = 0 then Instr.invokevirtual idx else if kind = 2 then Instr.invokespecial idx else Instr.invokestatic idx), 3))
    (hpop : zPop n [] st = some (av, rest)) (hrest : zCat rest ≤ 8)
    (hrecv : (kind = 0 ∨ kind = 2) → ∃ b fs As, av = .ref b :: As ∧ σ[b]? = some (.inr (ci, fs)))
    (hb : g'.2.2.2.2.1 ≠ 0 → (zBO σ.length ls && zBL σ.length rest) = true) (huc : uc + g'.2.2.2.2.1 ≤ g.2.2.2.2.1) (hus : us + g'.2.2.2.2.2 ≤ g.2.2.2.2.2)
    (kk : zRuns g' d av σ (fun v σ' => zGood g (d + 1) Q (pc + 3) ls (v.toList ++ rest) σ' (uc + g'.2.2.2.2.1) (us + g'.2.2.2.2.2))) : zGood g (d + 1) Q pc ls st σ uc us := by
  intro p l e s m args below meth c cs D A ad0 ad n0 H locs lr C hn hP hD hS hl
  obtain ⟨m1, m2, m3, m4, m5⟩ := hm
  obtain ⟨p1, p2⟩ := zPop_eq hpop
  simp only [List.reverse_nil, List.nil_append, List.length_nil, Nat.zero_add] at p1 p2
  have hF := z_free (σ := σ) hD hS C.2.2.2.2.2.2.2.2.1
  have hts := C.2.2.2.2.2.2.1
  have ht : ∀ w ∈ zT, w.before args s = true := fun w hw => hts w (List.mem_cons_of_mem _ hw)
  have hG : GoodIn (zWs g) (zWs g') := zT_app (zWs_in m1)
  have hrm : (zRm g' d).frames + 1 ≤ (zRm g (d + 1)).frames ∧ 8 + (g'.2.2.1 + 11) + (zRm g' d).locals ≤ (zRm g (d + 1)).locals := ⟨Nat.le_refl _, by show 8 + (g'.2.2.1 + 11) + 40 * d ≤ 40 * (d + 1); omega⟩
  have hsize : lr.size = g.2.2.1 := hl.1
  have hrest2 : ((rest.map (zRe ad)).map fun v => v.category).sum ≤ 8 := by rw [zCat_eq]; exact hrest
  have hpre : ∀ U : State, U.heap = H → s.WarmedH U.vm → (fun U => U.heap.size = H.size ∧ va_P D zCl (zW cs ad σ) U.heap ∧ zK cs D U ∧ va_D (fun _ => True) (zW cs ad σ)) U := fun U hU hW => ⟨by rw [hU], by rw [hU]; exact hP, zK_warm hW C.2.2.2.2.2.2.2.1, hD.weaken (fun _ _ _ _ => trivial)⟩
  have hfit : uc + g'.2.2.2.2.1 ≤ (zRm g (d + 1)).cells ∧ us + g'.2.2.2.2.2 ≤ (zRm g (d + 1)).slots := ⟨huc, hus⟩
  have hfix : CallFix p m c g.2.1 g.2.2.1 s args (zWs g) g.1.cls := ⟨C.1, C.2.1, C.2.2.1, C.2.2.2.2.2.1, hts⟩
  have hMet := kk l cs D ad H.size
  have hst : st.map (zRe ad) = (av.map (zRe ad)).reverse ++ rest.map (zRe ad) := by rw [← p1, List.map_append, List.map_reverse]
  have hrun : va_Run p l e (zRm g (d + 1)) s m args below meth c H locs uc us g'.2.2.2.2.1 g'.2.2.2.2.2 (F0 m pc lr (st.map (zRe ad))) (rest.map (zRe ad)) (zQ cs D (va_A (zW cs ad σ) H.size) ad σ.length g' (fun v σ' => zGood g (d + 1) Q (pc + 3) ls (v.toList ++ rest) σ' (uc + g'.2.2.2.2.1) (us + g'.2.2.2.2.2)) (av.map (zRe ad)).toArray) (va_A (zW cs ad σ) H.size) := by
    match kind, m5, hdg, hrecv with
    | 0, m5, hdg, hrecv =>
      obtain ⟨a1, a2, a3, a4, a5⟩ := m5
      obtain ⟨b, fs, As, rfl, hbo⟩ := hrecv (Or.inl rfl)
      obtain ⟨q9, hq9, hq8⟩ := Option.map_eq_some_iff.mp a5
      have hrc := va_recv C.2.2.2.2.2.2.2.1.1 hP hq9 (zW_get hbo)
      rw [hq8] at hrc
      rw [List.map_cons] at hst hMet ⊢
      have hlen : (As.map (zRe ad)).length = n - 1 := by rw [List.length_map]; rw [List.length_cons] at p2; omega
      refine va_runV (As := As.map (zRe ad)) (rest := rest.map (zRe ad)) hfix hMet (cwV (n - 1) hts (zT_app fun w hw => ?_) rfl rfl rfl ⟨rfl, m3.1, m3.2, ?_⟩ hrm) ⟨z_blind, hrc, fun U hU hW => ⟨rfl, hpre U hU hW⟩⟩ rfl hlen hsize ?_ (lv_room hrest2) hdg hfit
      · rcases List.mem_append.mp hw with h | h
        · simp only [List.mem_cons, List.not_mem_nil, or_false] at h
          rcases h with rfl | rfl | rfl | rfl
          · exact a1
          · exact a2
          · exact a3
          · exact m2
        · exact zWs_in m1 w h
      · cases hp9 : parseMethodDescriptor g'.1.desc with
        | none => rw [hp9] at a4; cases a4
        | some dd =>
          rw [hp9] at a4
          have h7 : dd.parameters.length + 1 = n := Option.some.inj a4
          exact congrArg some (show dd.parameters.length = n - 1 by omega)
      · show st.map (zRe ad) = _
        rw [hst, List.reverse_cons, List.append_assoc]
        rfl
    | 1, m5, hdg, hrecv =>
      obtain ⟨a1, a2, a3⟩ := m5
      have hlen : (av.map (zRe ad)).length = n := by rw [List.length_map]; exact p2
      refine va_runS (As := av.map (zRe ad)) (rest := rest.map (zRe ad)) hfix hMet (va_cwS n hts (zT_app fun w hw => ?_) rfl rfl rfl ⟨m3.1, m3.2, a3⟩ hrm) ⟨z_blind, fun U hU hW => ⟨rfl, hpre U hU hW⟩⟩ rfl hlen hsize ?_ (lv_room hrest2) hdg hfit
      · rcases List.mem_append.mp hw with h | h
        · simp only [List.mem_cons, List.not_mem_nil, or_false] at h
          rcases h with rfl | rfl | rfl
          · exact a1
          · exact a2
          · exact m2
        · exact zWs_in m1 w h
      · exact hst
    | 2, m5, hdg, hrecv =>
      obtain ⟨a1, a2, a3, a4, a5, a6⟩ := m5
      obtain ⟨b, fs, As, rfl, hbo⟩ := hrecv (Or.inr rfl)
      rw [List.map_cons] at hst hMet ⊢
      have hlen : (As.map (zRe ad)).length = n - 1 := by rw [List.length_map]; rw [List.length_cons] at p2; omega
      refine va_runI (As := As.map (zRe ad)) (rest := rest.map (zRe ad)) hfix hMet (cwI (n - 1) hts hG (by rw [← a4]; rfl) rfl rfl (ht _ m2) (ht _ a1) (ht _ a2) a3 ⟨m3.1, m3.2, ?_⟩ hrm) ⟨z_blind, fun U hU hW => ⟨rfl, hpre U hU hW⟩⟩ rfl hlen hsize ?_ (lv_room hrest2) hdg hfit
      · cases hp9 : parseMethodDescriptor g'.1.desc with
        | none => rw [hp9] at a5; cases a5
        | some dd =>
          rw [hp9] at a5
          have h7 : dd.parameters.length + 1 = n := Option.some.inj a5
          exact congrArg some (show dd.parameters.length = n - 1 by omega)
      · show st.map (zRe ad) = _
        rw [hst, List.reverse_cons, List.append_assoc]
        rfl
    | 3, m5, hdg, hrecv =>
      obtain ⟨a1, a2, a3⟩ := m5
      have hlen : (av.map (zRe ad)).length = n := by rw [List.length_map]; exact p2
      refine va_runSN (host := "BlameTown") (As := av.map (zRe ad)) (rest := rest.map (zRe ad)) hfix hMet ⟨va_cnB n hts hG rfl rfl rfl (C.2.2.2.2.2.2.2.1.2.1 _ a1) (ht _ m2) ⟨m3.1, m3.2, a3⟩ hrm, ht _ a2, trivial⟩ ⟨z_blind, fun U hU hW => ⟨rfl, hpre U hU hW⟩⟩ rfl hlen hsize hst (lv_room hrest2) hdg hfit
    | k + 4, m5, hdg, hrecv => exact m5.elim
  refine z_after hrun hS hF (fun v ad' σ' H1 locs1 q1 q2 q3 q4 q5 q6 hS1 => ?_)
  have hres : (v.toList ++ rest).map (zRe ad') = (v.map (zRe ad')).toList ++ rest.map (zRe ad) := by
    rw [List.map_append]
    congr 1
    · cases v <;> rfl
    · by_cases hz : g'.2.2.2.2.1 = 0
      · rw [q2 hz]
      · have h7 := hb hz
        simp only [Bool.and_eq_true] at h7
        exact zBL_re q3 h7.2
  have hloc : zLoc ad' ls lr g.2.2.1 := by
    by_cases hz : g'.2.2.2.2.1 = 0
    · rw [q2 hz]; exact hl
    · have h7 := hb hz
      simp only [Bool.and_eq_true] at h7
      exact zLoc_ad q3 h7.1 hl
  have h9 := q1 p l e s m args below meth c cs D A ad0 ad' n0 H1 locs1 lr C ⟨fun z => (q2 (by omega)).trans (hn.1 z), fun k hk => (q3 k (by have := hn.2.2.1; omega)).trans (hn.2.1 k hk), by have := hn.2.2.1; omega, huc, hus⟩ q5 (q6.weaken (fun k q _ h => hF q.1 h)) hS1 hloc
  rw [hres] at h9
  exact h9
theorem s_oinit {idx : Nat} {v : Nat} (h1 : Jvm.Cond.methodLink g.1.cls idx objectInit ∈ zT) (h2 : Jvm.Cond.instanceMethod objectInit ∈ zT) (h3 : Jvm.Cond.code objectInit ⟨#[0xb1]⟩ 1 none ∈ zT) (hdg : decode g.2.1 pc = .ok (.invokespecial idx, 3)) (hr : zCat st ≤ 8)
    (kk : zGood g (d + 1) Q (pc + 3) ls st σ uc us) : zGood g (d + 1) Q pc ls (.ref v :: st) σ uc us := by
  intro p l e s m args below meth c cs D A ad0 ad n0 H locs lr C hn hP hD hS hl
  have ht : ∀ w ∈ zT, w.before args s = true := fun w hw => C.2.2.2.2.2.2.1 w (List.mem_cons_of_mem _ hw)
  have h9 : ((st.map (zRe ad)).map fun v => v.category).sum ≤ 8 := by rw [zCat_eq]; exact hr
  exact W.objInit C.1 C.2.1 C.2.2.2.2.2.1 (ht _ h1) (ht _ h2) (ht _ h3) rfl (hl.1.trans C.2.2.1.symm) rfl hdg (by show 1 ≤ d + 1; omega) (by show 2 * 0 + ((st.map (zRe ad)).map fun v => v.category).sum + 12 ≤ 40 * (d + 1); omega) (kk p l e s m args below meth c cs D A ad0 ad n0 H locs lr C hn hP hD hS hl)
-- ends
theorem s_iret {v : Int32} (hr : g.2.2.2.1 = some .int) (hdg : decode g.2.1 pc = .ok (.ireturn, 1)) (hQ : Q (some (.int v)) σ) : zGood g d Q pc ls [.int v] σ uc us := by
  intro p l e s m args below meth c cs D A ad0 ad n0 H locs lr C hn hP hD hS hl
  refine W.widen hn.2.2.2.1 hn.2.2.2.2 ?_
  exact W.iret C.1 C.2.1 (C.2.2.2.1.trans hr) (fun t ht _ => ⟨⟨some (.int v), ad, σ, rfl, hQ, hn.1, hn.2.1, hn.2.2.1, by rw [ht]; exact hP, hD⟩, hS.F ht⟩) hS.2.2 hdg C.2.2.2.2.1
theorem s_zret {v : Int32} (hr : g.2.2.2.1 = some .boolean) (hv : v &&& 1 = v) (hdg : decode g.2.1 pc = .ok (.ireturn, 1)) (hQ : Q (some (.int v)) σ) : zGood g d Q pc ls [.int v] σ uc us := by
  intro p l e s m args below meth c cs D A ad0 ad n0 H locs lr C hn hP hD hS hl
  refine W.widen hn.2.2.2.1 hn.2.2.2.2 ?_
  exact W.zret C.1 C.2.1 (C.2.2.2.1.trans hr) (by show Value.int (v &&& 1) = _; rw [hv]) (fun t ht _ => ⟨⟨some (.int v), ad, σ, rfl, hQ, hn.1, hn.2.1, hn.2.2.1, by rw [ht]; exact hP, hD⟩, hS.F ht⟩) hS.2.2 hdg C.2.2.2.2.1
theorem s_vret (hr : g.2.2.2.1 = none) (hdg : decode g.2.1 pc = .ok (.return_, 1)) (hQ : Q none σ) : zGood g d Q pc ls [] σ uc us := by
  intro p l e s m args below meth c cs D A ad0 ad n0 H locs lr C hn hP hD hS hl
  refine W.widen hn.2.2.2.1 hn.2.2.2.2 ?_
  exact W.vret C.1 C.2.1 (C.2.2.2.1.trans hr) (fun t ht _ => ⟨⟨none, ad, σ, rfl, hQ, hn.1, hn.2.1, hn.2.2.1, by rw [ht]; exact hP, hD⟩, hS.F ht⟩) hS.2.2 hdg C.2.2.2.2.1
theorem s_aret {v : Value} {nm : String} (hr : g.2.2.2.1 = some (.object nm)) (hv : v = .null ∨ ∃ a, v = .ref a) (hdg : decode g.2.1 pc = .ok (.areturn, 1)) (hQ : Q (some v) σ) : zGood g d Q pc ls [v] σ uc us := by
  intro p l e s m args below meth c cs D A ad0 ad n0 H locs lr C hn hP hD hS hl
  refine W.widen hn.2.2.2.1 hn.2.2.2.2 ?_
  exact W.aret C.1 C.2.1 (C.2.2.2.1.trans hr) (Or.inl ⟨nm, rfl⟩) (by rcases hv with rfl | ⟨a, rfl⟩; exact Or.inl rfl; exact Or.inr ⟨_, rfl⟩) (fun t ht _ => ⟨⟨some v, ad, σ, rfl, hQ, hn.1, hn.2.1, hn.2.2.1, by rw [ht]; exact hP, hD⟩, hS.F ht⟩) hS.2.2 hdg C.2.2.2.2.1
-- a method's entry
def zArgs : Nat → List Value → List (Option Value)
  | 0, _ => []
  | n + 1, [] => none :: zArgs n []
  | n + 1, v :: r => some v :: zArgs n r
def zC1 : List Value → Bool
  | [] => true
  | .long _ :: _ => false
  | .double _ :: _ => false
  | _ :: r => zC1 r
theorem zArgs_get : ∀ {n : Nat} {vs : List Value} {k : Nat} {v : Value}, zGet (zArgs n vs) k = some v → vs[k]? = some v
  | 0, vs, k, v, h => by cases h
  | n + 1, [], 0, v, h => by cases h
  | n + 1, [], k + 1, v, h => by
    have := zArgs_get (n := n) (vs := []) (k := k) h
    simp at this
  | n + 1, a :: r, 0, v, h => by cases h; rfl
  | n + 1, a :: r, k + 1, v, h => by
    have := zArgs_get (n := n) (vs := r) (k := k) h
    simpa using this
theorem zArgs_lv {ad : Nat → Nat} : ∀ {vs : List Value} {i k : Nat} {v : Value}, zC1 vs = true → vs[k]? = some v → (i + k, zRe ad v) ∈ lv_args i (vs.map (zRe ad))
  | [], i, k, v, _, h => by simp at h
  | a :: r, i, k, v, hc, h => by
    have h1 : a.category = 1 ∧ zC1 r = true := by cases a <;> first | exact ⟨rfl, hc⟩ | cases hc
    rw [List.map_cons]
    show (i + k, zRe ad v) ∈ (i, zRe ad a) :: lv_args (if (zRe ad a).category = 2 then i + 2 else i + 1) (r.map (zRe ad))
    cases k with
    | zero =>
      have : a = v := by simpa using h
      subst this
      exact List.mem_cons_self
    | succ k =>
      have h2 : r[k]? = some v := by simpa using h
      rw [zRe_cat, h1.1, if_neg (by decide), show i + (k + 1) = i + 1 + k by omega]
      exact List.mem_cons_of_mem _ (zArgs_lv h1.2 h2)
theorem zSl_len {ad : Nat → Nat} : ∀ {vs : List Value}, zC1 vs = true → (lg_sl (vs.map (zRe ad))).length = vs.length
  | [], _ => rfl
  | a :: r, hc => by
    have h1 : a.category = 1 ∧ zC1 r = true := by cases a <;> first | exact ⟨rfl, hc⟩ | cases hc
    have h2 := zSl_len (ad := ad) h1.2
    unfold lg_sl at h2 ⊢
    rw [List.map_cons, List.flatMap_cons, List.length_append, h2, zRe_cat, h1.1, if_neg (by decide), List.length_cons]
    simp
    omega
theorem zEnter (hy : plainName g.1.cls = true) (hc1 : zC1 av = true) (hlen : av.length ≤ g.2.2.1) (k : zGood g d Q 0 (zArgs g.2.2.1 av) [] σ 0 0) : zRuns g d av σ Q := by
  intro l cs D ad sz
  refine Met.ofW (cc := g.2.1) (maxL := g.2.2.1) (ret := g.2.2.2.1) hy rfl ?_
  intro p e s m args below meth c s₁ B hml hv
  obtain ⟨rfl, hsz, hP, hK, hD0⟩ := hv
  have hts := atoms_spec (ws := zWs g) B.pre
  have hown : s.vm.findClass g.1.cls = some m.cls := findClass_of_methodNamed B.named
  subst hsz
  have hD := hD0.self (sz := s.heap.size)
  have hl0 := lv_entry (av.map (zRe ad)) (n := g.2.2.1) (by rw [zSl_len hc1]; exact hlen)
  rw [lg_entry_eq]
  refine k p l e s m _ below meth c cs D (va_A (zW cs ad σ) s.heap.size) ad ad σ.length s.heap [] _ ⟨B.exec, B.bytes, hml, B.returns, B.notSynchronized, hown, hts, hK, fun q h => Or.inr h, (name_of_methodNamed B.named B.method).1⟩ ⟨fun _ => rfl, fun _ _ => rfl, Nat.le_refl _, Nat.zero_le _, Nat.zero_le _⟩ hP hD va_S.rf ⟨hl0.1, hl0.2.1, fun k v hkv => hl0.2.2 (k, zRe ad v) ?_⟩
  have := zArgs_lv (ad := ad) (i := 0) hc1 (zArgs_get hkv)
  rwa [Nat.zero_add] at this
end ZD
end
section
/-- a row of a method's code: where, what, how long, the number that it pushes, where it goes, a switch's places -/
abbrev zR : Type := Nat × Instr × Nat × Value × Nat × List Nat
/-- what a class's pool says: fields (index; class, place, kind, final), methods (index; how, cells popped, receiver's class, whose), numbers, classes made (index; class, how many fields, what a new one holds) -/
abbrev zC : Type := List (Nat × Nat × Nat × Nat × Bool) × List (Nat × Nat × Nat × Nat × zG) × List (Nat × Value) × List (Nat × Nat × Nat × List Value)
def zFind {α : Type} : List (Nat × α) → Nat → Option α
  | [], _ => none
  | (i, a) :: r, k => match Nat.beq i k with
    | true => some a
    | false => zFind r k
theorem zFind_mem {α : Type} : ∀ {l : List (Nat × α)} {k : Nat} {a : α}, zFind l k = some a → (k, a) ∈ l
  | [], k, a, h => by cases h
  | (i, b) :: r, k, a, h => by
    unfold zFind at h
    cases hb : Nat.beq i k with
    | true =>
      rw [hb] at h
      have h1 : i = k := Nat.eq_of_beq_eq_true hb
      have h2 : b = a := Option.some.inj h
      rw [h1, h2]
      exact List.mem_cons_self
    | false =>
      rw [hb] at h
      exact List.mem_cons_of_mem _ (zFind_mem h)
def zMem (k : Nat) : List Nat → Bool
  | [] => false
  | i :: r => match Nat.beq i k with
    | true => true
    | false => zMem k r
def zNth {α : Type} : List α → Nat → Option α
  | [], _ => none
  | a :: _, 0 => some a
  | _ :: r, k + 1 => zNth r k
theorem zNth_eq {α : Type} : ∀ (l : List α) (k : Nat), zNth l k = l[k]?
  | [], k => by simp [zNth]
  | a :: r, 0 => by simp [zNth]
  | a :: r, k + 1 => by simp [zNth, zNth_eq r k]
def zLen : Instr → Nat
  | .bipush _ => 2 | .sipush _ => 3 | .ldc _ => 2 | .ldc_w _ => 3 | .ldc2_w _ => 3 | .iload _ => 2 | .aload _ => 2 | .istore _ => 2 | .astore _ => 2 | .iinc .. => 3 | .ifCond .. => 3 | .if_icmp .. => 3 | .goto _ => 3 | .ifnull _ => 3 | .ifnonnull _ => 3
  | .getfield _ => 3 | .putfield _ => 3 | .new _ => 3 | .newarray _ => 2 | .multianewarray .. => 4 | .invokevirtual _ => 3 | .invokestatic _ => 3 | .invokespecial _ => 3 | _ => 1
def zExtra (pc : Nat) (lit : Value) (tgt : Nat) (tl : List Nat) : Instr → Bool
  | .iconst n => decide (lit = .int (Int32.ofInt n))
  | .bipush n => decide (lit = .int (Int8.ofInt n).toInt32)
  | .sipush n => decide (lit = .int (Int16.ofInt n).toInt32)
  | .iinc _ n => decide (lit = .int (Int32.ofInt n))
  | .ifCond _ off | .if_icmp _ off | .goto off | .ifnull off | .ifnonnull off => decide ((pc : Int) + off = (tgt : Int))
  | .tableswitch df lo hi offs => decide (lo = 0 ∧ hi + 1 = (tl.length : Int) ∧ (pc : Int) + df = (tgt : Int) ∧ offs.toList.map (fun o => (pc : Int) + o) = tl.map Int.ofNat ∧ tl.length ≤ 100)
  | _ => true
def zIsSw : Instr → Bool
  | .tableswitch .. => true
  | _ => false
def zOkB (q : zR) : Bool := (zIsSw q.2.1 || Nat.beq q.2.2.1 (zLen q.2.1)) && zExtra q.1 q.2.2.2.1 q.2.2.2.2.1 q.2.2.2.2.2 q.2.1
/-- the table is the code -/
def zCode (g : zG) (cd : List zR) : Prop := ∀ q ∈ cd, decode g.2.1 q.1 = .ok (q.2.1, q.2.2.1) ∧ zOkB q = true
-- pieces
def zSome {α : Type} (o : Option α) (k : α → Prop) : Prop := match o with
  | some a => k a
  | none => False
theorem zSome_e {α : Type} {o : Option α} {k : α → Prop} (h : zSome o k) : ∃ a, o = some a ∧ k a := by
  cases o with
  | none => exact h.elim
  | some a => exact ⟨a, rfl, h⟩
def zB (b : Bool) (k : Prop) : Prop := match b with
  | true => k
  | false => False
theorem zB_e {b : Bool} {k : Prop} (h : zB b k) : b = true ∧ k := by
  cases b with
  | false => exact h.elim
  | true => exact ⟨rfl, h⟩
def zVi (v : Value) (k : Int32 → Prop) : Prop := match v with
  | .int x => k x
  | _ => False
theorem zVi_e {v : Value} {k : Int32 → Prop} (h : zVi v k) : ∃ x, v = .int x ∧ k x := by
  cases v <;> first | exact ⟨_, rfl, h⟩ | exact (show False from h).elim
def zVl (v : Value) (k : Int64 → Prop) : Prop := match v with
  | .long x => k x
  | _ => False
theorem zVl_e {v : Value} {k : Int64 → Prop} (h : zVl v k) : ∃ x, v = .long x ∧ k x := by
  cases v <;> first | exact ⟨_, rfl, h⟩ | exact (show False from h).elim
def zVa (v : Value) (k : Nat → Prop) (kn : Prop) : Prop := match v with
  | .ref x => k x
  | .null => kn
  | _ => False
theorem zVa_e {v : Value} {k : Nat → Prop} {kn : Prop} (h : zVa v k kn) : (∃ x, v = .ref x ∧ k x) ∨ (v = .null ∧ kn) := by
  cases v <;> first | exact Or.inl ⟨_, rfl, h⟩ | exact Or.inr ⟨rfl, h⟩ | exact (show False from h).elim
def zV1 (v : Value) (k : Prop) : Prop := match v with
  | .long _ => False
  | .double _ => False
  | _ => k
theorem zV1_e {v : Value} {k : Prop} (h : zV1 v k) : v.category = 1 ∧ k := by
  cases v <;> first | exact ⟨rfl, h⟩ | exact (show False from h).elim
def zTop (st : List Value) (k : Value → List Value → Prop) : Prop := match st with
  | v :: r => k v r
  | [] => False
theorem zTop_e {st : List Value} {k : Value → List Value → Prop} (h : zTop st k) : ∃ v r, st = v :: r ∧ k v r := by
  cases st with
  | nil => exact h.elim
  | cons v r => exact ⟨v, r, rfl, h⟩
def zTi (st : List Value) (k : Int32 → List Value → Prop) : Prop := zTop st fun v r => zVi v fun x => k x r
theorem zTi_e {st : List Value} {k : Int32 → List Value → Prop} (h : zTi st k) : ∃ x r, st = .int x :: r ∧ k x r := by
  obtain ⟨v, r, rfl, h⟩ := zTop_e h
  obtain ⟨x, rfl, h⟩ := zVi_e h
  exact ⟨x, r, rfl, h⟩
def zTii (st : List Value) (k : Int32 → Int32 → List Value → Prop) : Prop := zTi st fun y r => zTi r fun x r => k x y r
theorem zTii_e {st : List Value} {k : Int32 → Int32 → List Value → Prop} (h : zTii st k) : ∃ x y r, st = .int y :: .int x :: r ∧ k x y r := by
  obtain ⟨y, r1, e1, h1⟩ := zTi_e h
  obtain ⟨x, r2, e2, h2⟩ := zTi_e h1
  exact ⟨x, y, r2, by rw [e1, e2], h2⟩
def zTl (st : List Value) (k : Int64 → List Value → Prop) : Prop := zTop st fun v r => zVl v fun x => k x r
theorem zTl_e {st : List Value} {k : Int64 → List Value → Prop} (h : zTl st k) : ∃ x r, st = .long x :: r ∧ k x r := by
  obtain ⟨v, r, rfl, h⟩ := zTop_e h
  obtain ⟨x, rfl, h⟩ := zVl_e h
  exact ⟨x, r, rfl, h⟩
def zTll (st : List Value) (k : Int64 → Int64 → List Value → Prop) : Prop := zTl st fun y r => zTl r fun x r => k x y r
theorem zTll_e {st : List Value} {k : Int64 → Int64 → List Value → Prop} (h : zTll st k) : ∃ x y r, st = .long y :: .long x :: r ∧ k x y r := by
  obtain ⟨y, r1, e1, h1⟩ := zTl_e h
  obtain ⟨x, r2, e2, h2⟩ := zTl_e h1
  exact ⟨x, y, r2, by rw [e1, e2], h2⟩
def zTr (st : List Value) (k : Nat → List Value → Prop) : Prop := zTop st fun v r => zVa v (fun x => k x r) False
theorem zTr_e {st : List Value} {k : Nat → List Value → Prop} (h : zTr st k) : ∃ x r, st = .ref x :: r ∧ k x r := by
  obtain ⟨v, r, rfl, h⟩ := zTop_e h
  rcases zVa_e h with ⟨x, rfl, h⟩ | ⟨-, h⟩
  · exact ⟨x, r, rfl, h⟩
  · exact h.elim
def zObj (σ : List va_E) (a ci : Nat) (k : List Value → Prop) : Prop := match zNth σ a with
  | some (.inr (c2, fs)) => zB (Nat.beq c2 ci) (k fs)
  | _ => False
theorem zObj_e {σ : List va_E} {a ci : Nat} {k : List Value → Prop} (h : zObj σ a ci k) : ∃ fs, σ[a]? = some (.inr (ci, fs)) ∧ k fs := by
  unfold zObj at h
  rw [zNth_eq] at h
  split at h
  · rename_i c2 fs e
    obtain ⟨h1, h2⟩ := zB_e h
    exact ⟨fs, by rw [e, Nat.eq_of_beq_eq_true h1], h2⟩
  · exact h.elim
def zArr (σ : List va_E) (a t : Nat) (k : Nat → (Nat → Int32) → Prop) : Prop := match zNth σ a with
  | some (.inl (t2, n, .inl f)) => zB (Nat.beq t2 t) (k n f)
  | _ => False
theorem zArr_e {σ : List va_E} {a t : Nat} {k : Nat → (Nat → Int32) → Prop} (h : zArr σ a t k) : ∃ n f, σ[a]? = some (.inl (t, n, .inl f)) ∧ k n f := by
  unfold zArr at h
  rw [zNth_eq] at h
  split at h
  · rename_i t2 n f e
    obtain ⟨h1, h2⟩ := zB_e h
    exact ⟨n, f, by rw [e, Nat.eq_of_beq_eq_true h1], h2⟩
  · exact h.elim
def zArq (σ : List va_E) (a : Nat) (k : Nat → (Nat → Option Nat) → Prop) : Prop := match zNth σ a with
  | some (.inl (_, n, .inr (.inr (.inr (.inr f))))) => k n f
  | _ => False
theorem zArq_e {σ : List va_E} {a : Nat} {k : Nat → (Nat → Option Nat) → Prop} (h : zArq σ a k) : ∃ t n f, σ[a]? = some (.inl (t, n, .inr (.inr (.inr (.inr f))))) ∧ k n f := by
  unfold zArq at h
  rw [zNth_eq] at h
  split at h
  · rename_i t n f e
    exact ⟨t, n, f, e, h⟩
  · exact h.elim
/-- an array's length -/
def zLng (σ : List va_E) (a : Nat) (k : Nat → Prop) : Prop := match zNth σ a with
  | some (.inl (t, n, .inl _)) => zB (Nat.ble t 1) (k n)
  | some (.inl (_, n, .inr (.inr (.inr (.inr _))))) => k n
  | _ => False
def zSw (x : Int32) (df : Prop) (k : Nat → Prop) : Nat → List Nat → Prop
  | _, [] => df
  | i, t :: r => (x = Int32.ofNat i → k t) ∧ (¬ x = Int32.ofNat i → zSw x df k (i + 1) r)
def zFlag : Nat → FieldType → Bool
  | 0, .int => true
  | 1, .boolean => true
  | 2, .object _ => true
  | 2, .array _ => true
  | 3, _ => true
  | _, _ => false
/-- what may be stored, by the field's kind -/
def zPutOk (fl : Nat) (v : Value) (k : Prop) : Prop := match fl with
  | 0 => zVi v fun _ => k
  | 1 => zVi v fun x => (x = 0 ∨ x = 1) ∧ k
  | 2 => zVa v (fun _ => k) k
  | _ => False
theorem zPutOk_e {fl : Nat} {v : Value} {k : Prop} {ty : FieldType} (h : zPutOk fl v k) (hf : zFlag fl ty = true) : zFits ty v ∧ k := by
  match fl, h with
  | 0, h =>
    obtain ⟨x, rfl, h⟩ := zVi_e h
    cases ty <;> first | exact ⟨⟨rfl, rfl⟩, h⟩ | cases hf
  | 1, h =>
    obtain ⟨x, e1, h0, h2⟩ := zVi_e h
    rw [e1]
    cases ty <;> first | (rcases h0 with e2 | e2 <;> rw [e2] <;> exact ⟨⟨rfl, rfl⟩, h2⟩) | cases hf
  | 2, h =>
    rcases zVa_e h with ⟨x, rfl, h⟩ | ⟨rfl, h⟩ <;> cases ty <;> first | exact ⟨⟨rfl, rfl⟩, h⟩ | cases hf
  | n + 3, h => exact h.elim
-- the pool's words
def zFOk (own : String) (q : Nat × Nat × Nat × Nat × Bool) : Prop := ∃ (Cn : String) (T : u_T) (N : Nat) (ty : FieldType), zClass q.2.1 Cn T N ∧ q.2.2.1 < N ∧ Jvm.Cond.fieldLink own q.1 (T q.2.2.1).1 (T q.2.2.1).2.1 (T q.2.2.1).2.2.1 ∈ zT ∧ parseFieldDescriptor (T q.2.2.1).2.2.1 = some ty ∧ zFlag q.2.2.2.1 ty = true ∧ ((T q.2.2.1).2.2.2 = false ∨ (q.2.2.2.2 = true ∧ (T q.2.2.1).1 = own) ∨ q.2.2.2.1 = 3)
def zMOk (own : String) (q : Nat × Nat × Nat × Nat × zG) : Prop := (q.2.1 = 4 ∧ Jvm.Cond.methodLink own q.1 objectInit ∈ zT ∧ Jvm.Cond.instanceMethod objectInit ∈ zT ∧ Jvm.Cond.code objectInit ⟨#[0xb1]⟩ 1 none ∈ zT) ∨ zMeth own q.2.2.2.2 q.1 q.2.1 q.2.2.1 q.2.2.2.1
def zKOk (own : String) (q : Nat × Value) : Prop := match q.2 with
  | .int v => Jvm.Cond.constant own q.1 v ∈ zT
  | .long v => Jvm.Cond.constantLong own q.1 v ∈ zT
  | _ => False
def zNOk (own : String) (q : Nat × Nat × Nat × List Value) : Prop := ∃ (Cn : String) (T : u_T) (ty : Nat → FieldType), zClass q.2.1 Cn T q.2.2.1 ∧ (∀ k, k < q.2.2.1 → parseFieldDescriptor (T k).2.2.1 = some (ty k)) ∧ Jvm.Cond.classLink own q.1 Cn ∈ zT ∧ Jvm.Cond.instantiable Cn q.2.2.1 ∈ zT ∧ Jvm.Cond.initialized Cn ∈ zT ∧ (∀ j, j < q.2.2.1 → defaultValue (ty j) = vp_V q.2.2.2 j) ∧ ∀ ad : Nat → Nat, q.2.2.2.map (zRe ad) = q.2.2.2
def zPool (own : String) (cp : zC) : Prop := (∀ q ∈ cp.1, zFOk own q) ∧ (∀ q ∈ cp.2.1, zMOk own q) ∧ (∀ q ∈ cp.2.2.1, zKOk own q) ∧ (∀ q ∈ cp.2.2.2, zNOk own q)
def zRt (st : List Value) (r : Option FieldType) (k : Prop) : Prop := match st, r with
  | [], none => k
  | _, _ => False
theorem zRt_e {st : List Value} {r : Option FieldType} {k : Prop} (h : zRt st r k) : st = [] ∧ r = none ∧ k := by
  cases st with
  | nil =>
    cases r with
    | none => exact ⟨rfl, rfl, h⟩
    | some t => exact h.elim
  | cons v q => exact (show False from h).elim
abbrev zNx : Type := Nat → List (Option Value) → List Value → List va_E → Nat → Nat → Prop
def zIf (c : ClassFile.Cond) (x y : Int32) (a b : Prop) : Prop := match c with
  | .eq => (x = y → a) ∧ (¬ x = y → b)
  | .ne => (x = y → b) ∧ (¬ x = y → a)
  | .lt => (x < y → a) ∧ (¬ x < y → b)
  | .ge => (y ≤ x → a) ∧ (¬ y ≤ x → b)
  | .gt => (y < x → a) ∧ (¬ y < x → b)
  | .le => (x ≤ y → a) ∧ (¬ x ≤ y → b)
/-- a call's piece -/
def zCall (d : Nat) (nx : zNx) (pc : Nat) (ls : List (Option Value)) (σ : List va_E) (uc us mc ms : Nat) (g' : zG) (av rest : List Value) : Prop := match d with
  | 0 => False
  | d + 1 => zB (Nat.ble (zCat rest) 8) (zB (Nat.ble (uc + g'.2.2.2.2.1) mc) (zB (Nat.ble (us + g'.2.2.2.2.2) ms) (zB (Nat.beq g'.2.2.2.2.1 0 || (zBO σ.length ls && zBL σ.length rest)) (True ∧ zRuns g' d av σ (fun v σ' => nx (pc + 3) ls (v.toList ++ rest) σ' (uc + g'.2.2.2.2.1) (us + g'.2.2.2.2.2))))))
def zI (g : zG) (ini : Bool) (cp : zC) (d : Nat) (Q : Option Value → List va_E → Prop) (nx : zNx) (lit : Value) (tgt : Nat) (tl : List Nat) (pc : Nat) (ls : List (Option Value)) (st : List Value) (σ : List va_E) (uc us : Nat) : Instr → Prop
  | .aconst_null => nx (pc + 1) ls (.null :: st) σ uc us
  | .iconst _ => zVi lit fun v => nx (pc + 1) ls (.int v :: st) σ uc us
  | .bipush _ => zVi lit fun v => nx (pc + 2) ls (.int v :: st) σ uc us
  | .sipush _ => zVi lit fun v => nx (pc + 3) ls (.int v :: st) σ uc us
  | .ldc i => zSome (zFind cp.2.2.1 i) fun v => zVi v fun v => nx (pc + 2) ls (.int v :: st) σ uc us
  | .ldc_w i => zSome (zFind cp.2.2.1 i) fun v => zVi v fun v => nx (pc + 3) ls (.int v :: st) σ uc us
  | .ldc2_w i => zSome (zFind cp.2.2.1 i) fun v => zVl v fun v => nx (pc + 3) ls (.long v :: st) σ uc us
  | .iload_n k => zSome (zGet ls k.val) fun v => zVi v fun x => nx (pc + 1) ls (.int x :: st) σ uc us
  | .iload k => zSome (zGet ls k) fun v => zVi v fun x => nx (pc + 2) ls (.int x :: st) σ uc us
  | .lload_n k => zSome (zGet ls k.val) fun v => zVl v fun x => nx (pc + 1) ls (.long x :: st) σ uc us
  | .aload_n k => zSome (zGet ls k.val) fun v => zVa v (fun x => nx (pc + 1) ls (.ref x :: st) σ uc us) (nx (pc + 1) ls (.null :: st) σ uc us)
  | .aload k => zSome (zGet ls k) fun v => zVa v (fun x => nx (pc + 2) ls (.ref x :: st) σ uc us) (nx (pc + 2) ls (.null :: st) σ uc us)
  | .istore_n k => zTi st fun x r => zB (Nat.blt k.val g.2.2.1) (nx (pc + 1) (zPut ls k.val (.int x)) r σ uc us)
  | .istore k => zTi st fun x r => zB (Nat.blt k g.2.2.1) (nx (pc + 2) (zPut ls k (.int x)) r σ uc us)
  | .astore_n k => zTop st fun v r => zB (Nat.blt k.val g.2.2.1) (zVa v (fun x => nx (pc + 1) (zPut ls k.val (.ref x)) r σ uc us) (nx (pc + 1) (zPut ls k.val .null) r σ uc us))
  | .astore k => zTop st fun v r => zB (Nat.blt k g.2.2.1) (zVa v (fun x => nx (pc + 2) (zPut ls k (.ref x)) r σ uc us) (nx (pc + 2) (zPut ls k .null) r σ uc us))
  | .lstore_n k => zTl st fun x r => zB (Nat.blt (k.val + 1) g.2.2.1) (nx (pc + 1) (zDel (zPut ls k.val (.long x)) (k.val + 1)) r σ uc us)
  | .iinc k _ => zSome (zGet ls k) fun v => zVi v fun x => zVi lit fun n => zB (Nat.blt k g.2.2.1) (nx (pc + 3) (zPut ls k (.int (x + n))) st σ uc us)
  | .iadd => zTii st fun x y r => nx (pc + 1) ls (.int (x + y) :: r) σ uc us
  | .isub => zTii st fun x y r => nx (pc + 1) ls (.int (x - y) :: r) σ uc us
  | .imul => zTii st fun x y r => nx (pc + 1) ls (.int (x * y) :: r) σ uc us
  | .iand => zTii st fun x y r => nx (pc + 1) ls (.int (x &&& y) :: r) σ uc us
  | .ior => zTii st fun x y r => nx (pc + 1) ls (.int (x ||| y) :: r) σ uc us
  | .ixor => zTii st fun x y r => nx (pc + 1) ls (.int (x ^^^ y) :: r) σ uc us
  | .ishl => zTii st fun x y r => nx (pc + 1) ls (.int (x <<< (y &&& 31)) :: r) σ uc us
  | .ishr => zTii st fun x y r => nx (pc + 1) ls (.int (x >>> (y &&& 31)) :: r) σ uc us
  | .iushr => zTii st fun x y r => nx (pc + 1) ls (.int ((x.toUInt32 >>> (y.toUInt32 &&& Int32.toUInt32 31)).toInt32) :: r) σ uc us
  | .idiv => zTii st fun x y r => (¬ y = 0) ∧ nx (pc + 1) ls (.int (x / y) :: r) σ uc us
  | .irem => zTii st fun x y r => (¬ y = 0) ∧ nx (pc + 1) ls (.int (x - x / y * y) :: r) σ uc us
  | .ineg => zTi st fun x r => nx (pc + 1) ls (.int (-x) :: r) σ uc us
  | .ladd => zTll st fun x y r => nx (pc + 1) ls (.long (x + y) :: r) σ uc us
  | .lmul => zTll st fun x y r => nx (pc + 1) ls (.long (x * y) :: r) σ uc us
  | .land => zTll st fun x y r => nx (pc + 1) ls (.long (x &&& y) :: r) σ uc us
  | .ldiv => zTll st fun x y r => (¬ y = 0) ∧ nx (pc + 1) ls (.long (x / y) :: r) σ uc us
  | .i2l => zTi st fun x r => nx (pc + 1) ls (.long x.toInt64 :: r) σ uc us
  | .l2i => zTl st fun x r => nx (pc + 1) ls (.int x.toInt32 :: r) σ uc us
  | .dup => zTop st fun v r => zV1 v (nx (pc + 1) ls (v :: v :: r) σ uc us)
  | .dup2 => zTop st fun v r => zTop r fun u r => zV1 v (zV1 u (nx (pc + 1) ls (v :: u :: v :: u :: r) σ uc us))
  | .pop => zTop st fun v r => zV1 v (nx (pc + 1) ls r σ uc us)
  | .ifCond c _ => zTi st fun x r => zIf c x 0 (nx tgt ls r σ uc us) (nx (pc + 3) ls r σ uc us)
  | .if_icmp c _ => zTii st fun x y r => zIf c x y (nx tgt ls r σ uc us) (nx (pc + 3) ls r σ uc us)
  | .goto _ => nx tgt ls st σ uc us
  | .ifnull _ => zTop st fun v r => zVa v (fun _ => nx (pc + 3) ls r σ uc us) (nx tgt ls r σ uc us)
  | .ifnonnull _ => zTop st fun v r => zVa v (fun _ => nx tgt ls r σ uc us) (nx (pc + 3) ls r σ uc us)
  | .tableswitch .. => zTi st fun x r => zSw x (nx tgt ls r σ uc us) (fun t => nx t ls r σ uc us) 0 tl
  | .arraylength => zTr st fun a r => zLng σ a fun n => nx (pc + 1) ls (.int (Int32.ofNat n) :: r) σ uc us
  | .iaload => zTi st fun i r => zTr r fun a r => zArr σ a 0 fun n f => vp_in i n ∧ nx (pc + 1) ls (.int (f i.toNatClampNeg) :: r) σ uc us
  | .baload => zTi st fun i r => zTr r fun a r => zArr σ a 1 fun n f => vp_in i n ∧ nx (pc + 1) ls (.int (f i.toNatClampNeg) :: r) σ uc us
  | .aaload => zTi st fun i r => zTr r fun a r => zArq σ a fun n f => vp_in i n ∧ nx (pc + 1) ls (zRf (f i.toNatClampNeg) :: r) σ uc us
  | .iastore => zTi st fun x r => zTi r fun i r => zTr r fun a r => zArr σ a 0 fun n f => vp_in i n ∧ nx (pc + 1) ls r (σ.set a (.inl (0, n, .inl (upd f i.toNatClampNeg x)))) uc us
  | .bastore => zTi st fun x r => zTi r fun i r => zTr r fun a r => zArr σ a 1 fun n f => vp_in i n ∧ nx (pc + 1) ls r (σ.set a (.inl (1, n, .inl (upd f i.toNatClampNeg (vp_nar .boolean x))))) uc us
  | .getfield i => zSome (zFind cp.1 i) fun q => zTr st fun a r => zObj σ a q.1 fun fs => zSome (zNth fs q.2.1) fun v => nx (pc + 3) ls (v :: r) σ uc us
  | .putfield i => zSome (zFind cp.1 i) fun q => zTop st fun v r => zTr r fun a r => zObj σ a q.1 fun fs => zB (Nat.blt q.2.1 fs.length) (zB (!q.2.2.2 || ini) (zPutOk q.2.2.1 v (nx (pc + 3) ls r (σ.set a (.inr (q.1, fs.set q.2.1 v))) uc us)))
  | .new i => zSome (zFind cp.2.2.2 i) fun q => zB (zBO σ.length ls && (zBL σ.length st && zBS σ.length σ)) (zB (Nat.ble (uc + 1) g.2.2.2.2.1) (zB (Nat.ble (us + q.2.1) g.2.2.2.2.2) (nx (pc + 3) ls (.ref σ.length :: st) (σ ++ [.inr (q.1, q.2.2)]) (uc + 1) (us + q.2.1))))
  | .newarray .int => zTi st fun n r => zB (decide (¬ n < 0) && Nat.ble n.toNatClampNeg 100000) (zB (zBO σ.length ls && (zBL σ.length r && zBS σ.length σ)) (zB (Nat.ble (uc + 1) g.2.2.2.2.1) (zB (Nat.ble (us + n.toNatClampNeg) g.2.2.2.2.2) (nx (pc + 2) ls (.ref σ.length :: r) (σ ++ [.inl (0, n.toNatClampNeg, .inl (fun _ => 0))]) (uc + 1) (us + n.toNatClampNeg)))))
  | .newarray .boolean => zTi st fun n r => zB (decide (¬ n < 0) && Nat.ble n.toNatClampNeg 100000) (zB (zBO σ.length ls && (zBL σ.length r && zBS σ.length σ)) (zB (Nat.ble (uc + 1) g.2.2.2.2.1) (zB (Nat.ble (us + n.toNatClampNeg) g.2.2.2.2.2) (nx (pc + 2) ls (.ref σ.length :: r) (σ ++ [.inl (1, n.toNatClampNeg, .inl (fun _ => 0))]) (uc + 1) (us + n.toNatClampNeg)))))
  | .invokevirtual i => zSome (zFind cp.2.1 i) fun q => zB (Nat.beq q.1 0) (zSome (zPop q.2.1 [] st) fun ar => zTr ar.1 fun b _ => zObj σ b q.2.2.1 fun _ => zCall d nx pc ls σ uc us g.2.2.2.2.1 g.2.2.2.2.2 q.2.2.2 ar.1 ar.2)
  | .invokestatic i => zSome (zFind cp.2.1 i) fun q => zB (Nat.beq q.1 1 || Nat.beq q.1 3) (zSome (zPop q.2.1 [] st) fun ar => zCall d nx pc ls σ uc us g.2.2.2.2.1 g.2.2.2.2.2 q.2.2.2 ar.1 ar.2)
  | .invokespecial i => zSome (zFind cp.2.1 i) fun q => match q.1 with
    | 4 => match d with
      | 0 => False
      | _ + 1 => zTr st fun _ r => zB (Nat.ble (zCat r) 8) (nx (pc + 3) ls r σ uc us)
    | 2 => zSome (zPop q.2.1 [] st) fun ar => zTr ar.1 fun b _ => zObj σ b q.2.2.1 fun _ => zCall d nx pc ls σ uc us g.2.2.2.2.1 g.2.2.2.2.2 q.2.2.2 ar.1 ar.2
    | _ => False
  | .ireturn => zTi st fun v r => match r, g.2.2.2.1 with
    | [], some .int => Q (some (.int v)) σ
    | [], some .boolean => (v &&& 1 = v) ∧ Q (some (.int v)) σ
    | _, _ => False
  | .return_ => zRt st g.2.2.2.1 (Q none σ)
  | .areturn => zTop st fun v r => match r, g.2.2.2.1 with
    | [], some (.object _) => zVa v (fun x => Q (some (.ref x)) σ) (Q (some .null) σ)
    | _, _ => False
  | _ => False
def zX (g : zG) (ini : Bool) (cp : zC) (cd : List zR) (cuts : List Nat) (d : Nat) (Q : Option Value → List va_E → Prop) : Nat → Bool → Nat → List (Option Value) → List Value → List va_E → Nat → Nat → Prop
  | 0, _, _, _, _, _, _, _ => False
  | n + 1, fresh, pc, ls, st, σ, uc, us => match fresh || !zMem pc cuts with
    | false => True ∧ zGood g d Q pc ls st σ uc us
    | true => match zFind cd pc with
      | none => False
      | some q => zI g ini cp d Q (fun pc' ls' st' σ' uc' us' => zX g ini cp cd cuts d Q n false pc' ls' st' σ' uc' us') q.2.2.1 q.2.2.2.1 q.2.2.2.2 pc ls st σ uc us q.1
theorem zIn {w : Jvm.Cond} (i : Nat) (h : lw_tbl[i]? = some w) (hg : goodWord w = true) : w ∈ zT := List.mem_filter.mpr ⟨List.mem_of_getElem? h, hg⟩
theorem zIm {w : Jvm.Cond} (i : Nat) (h : lw_tbl[i]? = some w) (hg : zIsN w = true) : w ∈ zN := List.mem_filter.mpr ⟨List.mem_of_getElem? h, hg⟩
theorem zT_int : Jvm.Cond.arrayClass (newarray.typeOf .int) ∈ zT := zIn 106 (by decide +kernel) (by decide +kernel)
theorem zT_bool : Jvm.Cond.arrayClass (newarray.typeOf .boolean) ∈ zT := zIn 983 (by decide +kernel) (by decide +kernel)

section ZS
variable {g : zG} {ini : Bool} {cp : zC} {d : Nat} {Q : Option Value → List va_E → Prop} {nx : zNx} {lit : Value} {tgt : Nat} {tl : List Nat} {pc : Nat} {ls : List (Option Value)} {st : List Value} {σ : List va_E} {uc us : Nat}
theorem zIf_eq {c : ClassFile.Cond} {x : Int32} {off : Int} {r : List Value} (hdg : decode g.2.1 pc = .ok (.ifCond c off, 3)) (ht : (pc : Int) + off = (tgt : Int)) (h : zIf c x 0 (zGood g d Q tgt ls r σ uc us) (zGood g d Q (pc + 3) ls r σ uc us)) : zGood g d Q pc ls (.int x :: r) σ uc us := by
  cases c
  · exact s_if_eq hdg ht h.1 h.2
  · exact s_if_ne hdg ht h.2 h.1
  · exact s_if_lt hdg ht h.1 h.2
  · exact s_if_ge hdg ht h.1 h.2
  · exact s_if_gt hdg ht h.1 h.2
  · exact s_if_le hdg ht h.1 h.2
theorem zIcmp_eq {c : ClassFile.Cond} {x y : Int32} {off : Int} {r : List Value} (hdg : decode g.2.1 pc = .ok (.if_icmp c off, 3)) (ht : (pc : Int) + off = (tgt : Int)) (h : zIf c x y (zGood g d Q tgt ls r σ uc us) (zGood g d Q (pc + 3) ls r σ uc us)) : zGood g d Q pc ls (.int y :: .int x :: r) σ uc us := by
  cases c
  · exact s_icmp_eq hdg ht h.1 h.2
  · exact s_icmp_ne hdg ht h.2 h.1
  · exact s_icmp_lt hdg ht h.1 h.2
  · exact s_icmp_ge hdg ht h.1 h.2
  · exact s_icmp_gt hdg ht h.1 h.2
  · exact s_icmp_le hdg ht h.1 h.2
theorem zIf_mono {c : ClassFile.Cond} {x y : Int32} {a b a' b' : Prop} (ha : a → a') (hb : b → b') (h : zIf c x y a b) : zIf c x y a' b' := by
  cases c <;> exact ⟨fun q => by first | exact ha (h.1 q) | exact hb (h.1 q), fun q => by first | exact hb (h.2 q) | exact ha (h.2 q)⟩
theorem zLng_s {a : Nat} {r : List Value} {k : Nat → Prop} (hdg : decode g.2.1 pc = .ok (.arraylength, 1)) (h : zLng σ a k) (hk : ∀ n, k n → zGood g d Q (pc + 1) ls (.int (Int32.ofNat n) :: r) σ uc us) : zGood g d Q pc ls (.ref a :: r) σ uc us := by
  unfold zLng at h
  rw [zNth_eq] at h
  split at h
  · rename_i t n f e
    obtain ⟨h1, h2⟩ := zB_e h
    have h3 : t ≤ 1 := Nat.le_of_ble_eq_true h1
    exact s_alen (t := t) (Nat.le_one_iff_eq_zero_or_eq_one.mp h3) hdg e (hk n h2)
  · rename_i t n f e
    exact s_alenq hdg e (hk n h)
  · exact h.elim
theorem zCall_s {idx kind n ci : Nat} {g' : zG} {av rest : List Value} (hm : zMeth g.1.cls g' idx kind n ci) (hdg : decode g.2.1 pc = .ok ((if kind = 0 then Instr.invokevirtual idx else if kind = 2 then Instr.invokespecial idx else Instr.invokestatic idx), 3))
    (hpop : zPop n [] st = some (av, rest)) (hrecv : (kind = 0 ∨ kind = 2) → ∃ b fs As, av = .ref b :: As ∧ σ[b]? = some (.inr (ci, fs)))
    (hnx : ∀ pc' ls' st' σ' uc' us', nx pc' ls' st' σ' uc' us' → zGood g d Q pc' ls' st' σ' uc' us')
    (h : zCall d nx pc ls σ uc us g.2.2.2.2.1 g.2.2.2.2.2 g' av rest) : zGood g d Q pc ls st σ uc us := by
  cases d with
  | zero => exact h.elim
  | succ d =>
    obtain ⟨b1, h⟩ := zB_e h
    obtain ⟨b2, h⟩ := zB_e h
    obtain ⟨b3, h⟩ := zB_e h
    obtain ⟨b4, -, h⟩ := zB_e h
    exact s_call hm hdg hpop (Nat.le_of_ble_eq_true b1) hrecv (fun hz => by
      cases hb : Nat.beq g'.2.2.2.2.1 0 with
      | true => exact absurd (Nat.eq_of_beq_eq_true hb) hz
      | false => rw [hb] at b4; exact b4) (Nat.le_of_ble_eq_true b2) (Nat.le_of_ble_eq_true b3) (h.mono fun v σ' q => hnx _ _ _ _ _ _ q)
theorem zSw_s {df lo hi : Int} {offs : Array Int} {len : Nat} {x : Int32} {r : List Value} (hdg : decode g.2.1 pc = .ok (.tableswitch df lo hi offs, len)) (hE : lo = 0 ∧ hi + 1 = (tl.length : Int) ∧ (pc : Int) + df = (tgt : Int) ∧ offs.toList.map (fun o => (pc : Int) + o) = tl.map Int.ofNat ∧ tl.length ≤ 100)
    (h : zSw x (zGood g d Q tgt ls r σ uc us) (fun t => zGood g d Q t ls r σ uc us) 0 tl) : zGood g d Q pc ls (.int x :: r) σ uc us := by
  obtain ⟨rfl, e1, e2, e3, e4⟩ := hE
  have key : ∀ (tl : List Nat) (i : Nat), i + tl.length ≤ 500 → zSw x (zGood g d Q tgt ls r σ uc us) (fun t => zGood g d Q t ls r σ uc us) i tl → (∀ k t, tl[k]? = some t → x = Int32.ofNat (i + k) → zGood g d Q t ls r σ uc us) ∧ ((∀ k, k < tl.length → ¬ x = Int32.ofNat (i + k)) → zGood g d Q tgt ls r σ uc us) := by
    intro tl
    induction tl with
    | nil => intro i _ h; exact ⟨fun k t hk => by simp at hk, fun _ => h⟩
    | cons a tl ih =>
      intro i hlim h
      rw [List.length_cons] at hlim
      by_cases hx : x = Int32.ofNat i
      · refine ⟨fun k t hk hxk => ?_, fun hno => absurd hx (by have := hno 0 (by simp); simpa using this)⟩
        cases k with
        | zero => cases hk; exact h.1 hx
        | succ k =>
          exact absurd hxk (by
            rw [hx]
            intro q
            have q2 : k < tl.length := (List.getElem?_eq_some_iff.mp (by simpa using hk)).1
            have q3 := congrArg Int32.toInt q
            have q4 : ((i : Nat) : Int) = ((i + (k + 1) : Nat) : Int) := ((nI_toInt (n := i) (by omega)).symm.trans q3).trans (nI_toInt (n := i + (k + 1)) (by omega))
            omega)
      · obtain ⟨h1, h2⟩ := ih (i + 1) (by omega) (h.2 hx)
        refine ⟨fun k t hk hxk => ?_, fun hno => h2 fun k hk => ?_⟩
        · cases k with
          | zero => exact absurd hxk hx
          | succ k => exact h1 k t (by simpa using hk) (by rw [hxk, show i + (k + 1) = i + 1 + k by omega])
        · have := hno (k + 1) (by simp; omega)
          rwa [show i + (k + 1) = i + 1 + k by omega] at this
  obtain ⟨h1, h2⟩ := key tl 0 (by omega) h
  intro p l e s m args below meth c cs D A ad0 ad n0 H locs lr C hn hP hD hS hl
  by_cases hr : x.toInt < 0 ∨ hi < x.toInt
  · refine lv_tableOut C.1 C.2.1 hdg hr e2 (h2 (fun k hk q => ?_) p l e s m args below meth c cs D A ad0 ad n0 H locs lr C hn hP hD hS hl)
    have h9 : x.toInt = (k : Int) := by rw [q, Nat.zero_add]; exact nI_toInt (n := k) (by omega)
    omega
  · have h8 : ¬ x.toInt < 0 := fun q => hr (Or.inl q)
    have h7 : ¬ hi < x.toInt := fun q => hr (Or.inr q)
    obtain ⟨k, hk⟩ : ∃ k : Nat, x.toInt = (k : Int) := ⟨x.toInt.toNat, by omega⟩
    have hkl : k < tl.length := by omega
    have hlen : offs.toList.length = tl.length := by have := congrArg List.length e3; simpa using this
    have ho : (offs.toList.map (fun o => (pc : Int) + o))[k]? = (tl.map Int.ofNat)[k]? := by rw [e3]
    rw [List.getElem?_map, List.getElem?_map, List.getElem?_eq_getElem hkl] at ho
    obtain ⟨o, ho1, ho2⟩ := Option.map_eq_some_iff.mp ho
    refine lv_tableIn (off := o) (tgt := tl[k]) C.1 C.2.1 hdg h8 h7 (by rw [← Array.getElem?_toList, hk]; simpa using ho1) ho2 ?_
    refine h1 k _ (List.getElem?_eq_getElem hkl) ?_ p l e s m args below meth c cs D A ad0 ad n0 H locs lr C hn hP hD hS hl
    rw [Nat.zero_add]
    apply Int32.toInt_inj.mp
    rw [hk]
    exact (nI_toInt (n := k) (by omega)).symm
set_option maxHeartbeats 4000000 in
theorem zI_s {i : Instr} {len : Nat} (hini : ini = true → g.1.name = "<init>") (hcp : zPool g.1.cls cp) (hdg0 : decode g.2.1 pc = .ok (i, len)) (hok : zOkB (pc, i, len, lit, tgt, tl) = true) (hnx : ∀ pc' ls' st' σ' uc' us', nx pc' ls' st' σ' uc' us' → zGood g d Q pc' ls' st' σ' uc' us')
    (h : zI g ini cp d Q nx lit tgt tl pc ls st σ uc us i) : zGood g d Q pc ls st σ uc us := by
  have hN : ∀ {pc' : Nat} {ls' : List (Option Value)} {st' : List Value} {σ' : List va_E} {uc' us' : Nat}, nx pc' ls' st' σ' uc' us' → zGood g d Q pc' ls' st' σ' uc' us' := fun q => hnx _ _ _ _ _ _ q
  obtain ⟨o1, o2⟩ := Bool.and_eq_true_iff.mp hok
  have hdg : zIsSw i = false → decode g.2.1 pc = .ok (i, zLen i) := fun q => by
    rw [hdg0]
    have o3 : (zIsSw i || Nat.beq len (zLen i)) = true := o1
    rw [q] at o3
    rw [Nat.eq_of_beq_eq_true o3]
  have blt : ∀ {a b : Nat}, Nat.blt a b = true → a < b := fun q => Nat.lt_of_lt_of_le (Nat.lt_succ_self _) (Nat.le_of_ble_eq_true q)
  cases i

  case aconst_null => exact s_null (hdg rfl) (hN h)
  case iconst n => replace h := zVi_e h; obtain ⟨v, rfl, h⟩ := h; exact s_iconst (hdg rfl) (by have := of_decide_eq_true o2; exact (Value.int.inj this).symm) (hN h)
  case bipush n => replace h := zVi_e h; obtain ⟨v, rfl, h⟩ := h; exact s_bipush (hdg rfl) (by have := of_decide_eq_true o2; exact (Value.int.inj this).symm) (hN h)
  case sipush n => replace h := zVi_e h; obtain ⟨v, rfl, h⟩ := h; exact s_sipush (hdg rfl) (by have := of_decide_eq_true o2; exact (Value.int.inj this).symm) (hN h)
  case ldc n => replace h := zSome_e h; obtain ⟨v, e, h⟩ := h; replace h := zVi_e h; obtain ⟨x, rfl, h⟩ := h; exact s_ldc (hdg rfl) (hcp.2.2.1 _ (zFind_mem e)) (hN h)
  case ldc_w n => replace h := zSome_e h; obtain ⟨v, e, h⟩ := h; replace h := zVi_e h; obtain ⟨x, rfl, h⟩ := h; exact s_ldcw (hdg rfl) (hcp.2.2.1 _ (zFind_mem e)) (hN h)
  case ldc2_w n => replace h := zSome_e h; obtain ⟨v, e, h⟩ := h; replace h := zVl_e h; obtain ⟨x, rfl, h⟩ := h; exact s_ldc2 (hdg rfl) (hcp.2.2.1 _ (zFind_mem e)) (hN h)
  case iload_n k => replace h := zSome_e h; obtain ⟨v, e, h⟩ := h; obtain ⟨x, rfl, h⟩ := zVi_e h; exact s_iload_n (hdg rfl) e (hN h)
  case iload k => replace h := zSome_e h; obtain ⟨v, e, h⟩ := h; obtain ⟨x, rfl, h⟩ := zVi_e h; exact s_iload (hdg rfl) e (hN h)
  case lload_n k => replace h := zSome_e h; obtain ⟨v, e, h⟩ := h; obtain ⟨x, rfl, h⟩ := zVl_e h; exact s_lload_n (hdg rfl) e (hN h)
  case aload_n k => replace h := zSome_e h; obtain ⟨v, e, h⟩ := h; replace h := zVa_e h; rcases h with ⟨x, rfl, h⟩ | ⟨rfl, h⟩; exact s_aload_n (hdg rfl) e (hN h); exact s_aload_nN (hdg rfl) e (hN h)
  case aload k => replace h := zSome_e h; obtain ⟨v, e, h⟩ := h; replace h := zVa_e h; rcases h with ⟨x, rfl, h⟩ | ⟨rfl, h⟩; exact s_aload (hdg rfl) e (hN h); exact s_aloadN (hdg rfl) e (hN h)
  case istore_n k => replace h := zTi_e h; obtain ⟨x, r, rfl, h⟩ := h; replace h := zB_e h; obtain ⟨hb, h⟩ := h; exact s_istore_n (hdg rfl) (blt hb) (hN h)
  case istore k => replace h := zTi_e h; obtain ⟨x, r, rfl, h⟩ := h; replace h := zB_e h; obtain ⟨hb, h⟩ := h; exact s_istore (hdg rfl) (blt hb) (hN h)
  case astore_n k => replace h := zTop_e h; obtain ⟨v, r, rfl, h⟩ := h; replace h := zB_e h; obtain ⟨hb, h⟩ := h; replace h := zVa_e h; rcases h with ⟨x, rfl, h⟩ | ⟨rfl, h⟩; exact s_astore_n (hdg rfl) (blt hb) (hN h); exact s_astore_nN (hdg rfl) (blt hb) (hN h)
  case astore k => replace h := zTop_e h; obtain ⟨v, r, rfl, h⟩ := h; replace h := zB_e h; obtain ⟨hb, h⟩ := h; replace h := zVa_e h; rcases h with ⟨x, rfl, h⟩ | ⟨rfl, h⟩; exact s_astore (hdg rfl) (blt hb) (hN h); exact s_astoreN (hdg rfl) (blt hb) (hN h)
  case lstore_n k => replace h := zTl_e h; obtain ⟨x, r, rfl, h⟩ := h; replace h := zB_e h; obtain ⟨hb, h⟩ := h; exact s_lstore_n (hdg rfl) (blt hb) (hN h)
  case iinc k n => replace h := zSome_e h; obtain ⟨v, e, h1⟩ := h; obtain ⟨x, e1, h2⟩ := zVi_e h1; obtain ⟨y, e2, h3⟩ := zVi_e h2; obtain ⟨hb, h4⟩ := zB_e h3; exact s_iinc (hdg rfl) (by have o3 := of_decide_eq_true o2; exact (Value.int.inj (e2.symm.trans o3)).symm) (by rw [e, e1]) (blt hb) (hN h4)
  case iadd => replace h := zTii_e h; obtain ⟨x, y, r, rfl, h⟩ := h; exact s_iadd (hdg rfl) (hN h)
  case isub => replace h := zTii_e h; obtain ⟨x, y, r, rfl, h⟩ := h; exact s_isub (hdg rfl) (hN h)
  case imul => replace h := zTii_e h; obtain ⟨x, y, r, rfl, h⟩ := h; exact s_imul (hdg rfl) (hN h)
  case iand => replace h := zTii_e h; obtain ⟨x, y, r, rfl, h⟩ := h; exact s_iand (hdg rfl) (hN h)
  case ior => replace h := zTii_e h; obtain ⟨x, y, r, rfl, h⟩ := h; exact s_ior (hdg rfl) (hN h)
  case ixor => replace h := zTii_e h; obtain ⟨x, y, r, rfl, h⟩ := h; exact s_ixor (hdg rfl) (hN h)
  case ishl => replace h := zTii_e h; obtain ⟨x, y, r, rfl, h⟩ := h; exact s_ishl (hdg rfl) (hN h)
  case ishr => replace h := zTii_e h; obtain ⟨x, y, r, rfl, h⟩ := h; exact s_ishr (hdg rfl) (hN h)
  case iushr => replace h := zTii_e h; obtain ⟨x, y, r, rfl, h⟩ := h; exact s_iushr (hdg rfl) (hN h)
  case idiv => replace h := zTii_e h; obtain ⟨x, y, r, rfl, h⟩ := h; exact s_idiv (hdg rfl) h.1 (hN h.2)
  case irem => replace h := zTii_e h; obtain ⟨x, y, r, rfl, h⟩ := h; exact s_irem (hdg rfl) h.1 (hN h.2)
  case ineg => replace h := zTi_e h; obtain ⟨x, r, rfl, h⟩ := h; exact s_ineg (hdg rfl) (hN h)
  case ladd => replace h := zTll_e h; obtain ⟨x, y, r, rfl, h⟩ := h; exact s_ladd (hdg rfl) (hN h)
  case lmul => replace h := zTll_e h; obtain ⟨x, y, r, rfl, h⟩ := h; exact s_lmul (hdg rfl) (hN h)
  case land => replace h := zTll_e h; obtain ⟨x, y, r, rfl, h⟩ := h; exact s_land (hdg rfl) (hN h)
  case ldiv => replace h := zTll_e h; obtain ⟨x, y, r, rfl, h⟩ := h; exact s_ldiv (hdg rfl) h.1 (hN h.2)
  case i2l => replace h := zTi_e h; obtain ⟨x, r, rfl, h⟩ := h; exact s_i2l (hdg rfl) (hN h)
  case l2i => replace h := zTl_e h; obtain ⟨x, r, rfl, h⟩ := h; exact s_l2i (hdg rfl) (hN h)
  case dup => replace h := zTop_e h; obtain ⟨v, r, rfl, h⟩ := h; replace h := zV1_e h; obtain ⟨hv, h⟩ := h; exact s_dup (hdg rfl) hv (hN h)
  case dup2 => replace h := zTop_e h; obtain ⟨v, r, rfl, h⟩ := h; replace h := zTop_e h; obtain ⟨u, r, rfl, h⟩ := h; replace h := zV1_e h; obtain ⟨hv, h⟩ := h; replace h := zV1_e h; obtain ⟨hu, h⟩ := h; exact s_dup2 (hdg rfl) hv hu (hN h)
  case pop => replace h := zTop_e h; obtain ⟨v, r, rfl, h⟩ := h; replace h := zV1_e h; obtain ⟨hv, h⟩ := h; exact s_pop (hdg rfl) hv (hN h)
  case ifCond c off => replace h := zTi_e h; obtain ⟨x, r, rfl, h⟩ := h; exact zIf_eq (hdg rfl) (of_decide_eq_true o2) (zIf_mono hN hN h)
  case if_icmp c off => replace h := zTii_e h; obtain ⟨x, y, r, rfl, h⟩ := h; exact zIcmp_eq (hdg rfl) (of_decide_eq_true o2) (zIf_mono hN hN h)
  case goto off => exact s_goto (hdg rfl) (of_decide_eq_true o2) (hN h)
  case ifnull off => replace h := zTop_e h; obtain ⟨v, r, rfl, h⟩ := h; replace h := zVa_e h; rcases h with ⟨x, rfl, h⟩ | ⟨rfl, h⟩; exact s_ifnull (hdg rfl) (hN h); exact s_ifnullN (hdg rfl) (of_decide_eq_true o2) (hN h)
  case ifnonnull off => replace h := zTop_e h; obtain ⟨v, r, rfl, h⟩ := h; replace h := zVa_e h; rcases h with ⟨x, rfl, h⟩ | ⟨rfl, h⟩; exact s_ifnonnull (hdg rfl) (of_decide_eq_true o2) (hN h); exact s_ifnonnullN (hdg rfl) (hN h)
  case tableswitch df lo hi offs => 
    replace h := zTi_e h; obtain ⟨x, r, e1, h1⟩ := h
    rw [e1]
    have hmono : ∀ (tl : List Nat) (i : Nat), zSw x (nx tgt ls r σ uc us) (fun t => nx t ls r σ uc us) i tl → zSw x (zGood g d Q tgt ls r σ uc us) (fun t => zGood g d Q t ls r σ uc us) i tl := by
      intro tl
      induction tl with
      | nil => intro i h; exact hN h
      | cons a tl ih => intro i h; exact ⟨fun q => hN (h.1 q), fun q => ih _ (h.2 q)⟩
    exact zSw_s hdg0 (of_decide_eq_true o2) (hmono tl 0 h1)
  case arraylength => replace h := zTr_e h; obtain ⟨a, r, rfl, h⟩ := h; exact zLng_s (hdg rfl) h (fun n q => hN q)
  case iaload => replace h := zTi_e h; obtain ⟨i, r, rfl, h⟩ := h; replace h := zTr_e h; obtain ⟨a, r, rfl, h⟩ := h; replace h := zArr_e h; obtain ⟨n, f, ha, h⟩ := h; exact s_iald (hdg rfl) ha h.1 (hN h.2)
  case baload => replace h := zTi_e h; obtain ⟨i, r, rfl, h⟩ := h; replace h := zTr_e h; obtain ⟨a, r, rfl, h⟩ := h; replace h := zArr_e h; obtain ⟨n, f, ha, h⟩ := h; exact s_zald (hdg rfl) ha h.1 (hN h.2)
  case aaload => replace h := zTi_e h; obtain ⟨i, r, rfl, h⟩ := h; replace h := zTr_e h; obtain ⟨a, r, rfl, h⟩ := h; replace h := zArq_e h; obtain ⟨t, n, f, ha, h⟩ := h; exact s_aald (hdg rfl) ha h.1 (hN h.2)
  case iastore => replace h := zTi_e h; obtain ⟨x, r, rfl, h⟩ := h; replace h := zTi_e h; obtain ⟨i, r, rfl, h⟩ := h; replace h := zTr_e h; obtain ⟨a, r, rfl, h⟩ := h; replace h := zArr_e h; obtain ⟨n, f, ha, h⟩ := h; exact s_iast (hdg rfl) ha h.1 (hN h.2)
  case bastore => replace h := zTi_e h; obtain ⟨x, r, rfl, h⟩ := h; replace h := zTi_e h; obtain ⟨i, r, rfl, h⟩ := h; replace h := zTr_e h; obtain ⟨a, r, rfl, h⟩ := h; replace h := zArr_e h; obtain ⟨n, f, ha, h⟩ := h; exact s_zast (hdg rfl) ha h.1 (hN h.2)
  case getfield i => 
    replace h := zSome_e h; obtain ⟨q, e, h⟩ := h; replace h := zTr_e h; obtain ⟨a, r, rfl, h⟩ := h; replace h := zObj_e h; obtain ⟨fs, ha, h⟩ := h; replace h := zSome_e h; obtain ⟨v, hv, h⟩ := h
    obtain ⟨Cn, T, N, ty, f1, f2, f3, f4, f5, f6⟩ := hcp.1 _ (zFind_mem e)
    exact s_getf f1 f2 f3 (hdg rfl) ha (by rw [← zNth_eq]; exact hv) (hN h)
  case putfield i => 
    replace h := zSome_e h; obtain ⟨q, e, h⟩ := h; replace h := zTop_e h; obtain ⟨v, r, rfl, h⟩ := h; replace h := zTr_e h; obtain ⟨a, r, rfl, h⟩ := h; replace h := zObj_e h; obtain ⟨fs, ha, h⟩ := h; replace h := zB_e h; obtain ⟨b1, h⟩ := h; replace h := zB_e h; obtain ⟨b2, h⟩ := h
    obtain ⟨Cn, T, N, ty, f1, f2, f3, f4, f5, f6⟩ := hcp.1 _ (zFind_mem e)
    have f7 : (T q.2.1).2.2.2 = false ∨ (g.1.name = "<init>" ∧ (T q.2.1).1 = g.1.cls) := by
      rcases f6 with f6 | ⟨f6, f8⟩ | f6
      · exact Or.inl f6
      · have f9 : q.2.2.2 = true := f6
        rw [f9] at b2
        exact Or.inr ⟨hini b2, f8⟩
      · have f9 : q.2.2.1 = 3 := f6
        rw [f9] at h
        exact h.elim
    obtain ⟨hv, h2⟩ := zPutOk_e h f5
    exact s_putf f1 f2 f3 f4 f7 (hdg rfl) ha hv (blt b1) (hN h2)
  case new i => 
    replace h := zSome_e h; obtain ⟨q, e, h⟩ := h; replace h := zB_e h; obtain ⟨b1, h⟩ := h; replace h := zB_e h; obtain ⟨b2, h⟩ := h; replace h := zB_e h; obtain ⟨b3, h⟩ := h
    obtain ⟨Cn, T, ty, f1, f2, f3, f4, f5, f6, f7⟩ := hcp.2.2.2 _ (zFind_mem e)
    exact s_new f1 f2 f3 f4 f5 f6 f7 (hdg rfl) b1 (Nat.le_of_ble_eq_true b2) (Nat.le_of_ble_eq_true b3) (hN h)
  case newarray t => 
    cases t
    case int =>
      replace h := zTi_e h; obtain ⟨n, r, rfl, h⟩ := h; replace h := zB_e h; obtain ⟨b0, h⟩ := h; replace h := zB_e h; obtain ⟨b1, h⟩ := h; replace h := zB_e h; obtain ⟨b2, h⟩ := h; replace h := zB_e h; obtain ⟨b3, h⟩ := h
      obtain ⟨b4, b5⟩ := Bool.and_eq_true_iff.mp b0
      exact s_newa (t := 0) (Or.inl ⟨rfl, rfl⟩) zT_int (hdg rfl) (of_decide_eq_true b4) rfl (Nat.le_of_ble_eq_true b5) b1 (Nat.le_of_ble_eq_true b2) (Nat.le_of_ble_eq_true b3) (hN h)
    case boolean =>
      replace h := zTi_e h; obtain ⟨n, r, rfl, h⟩ := h; replace h := zB_e h; obtain ⟨b0, h⟩ := h; replace h := zB_e h; obtain ⟨b1, h⟩ := h; replace h := zB_e h; obtain ⟨b2, h⟩ := h; replace h := zB_e h; obtain ⟨b3, h⟩ := h
      obtain ⟨b4, b5⟩ := Bool.and_eq_true_iff.mp b0
      exact s_newa (t := 1) (Or.inr ⟨rfl, rfl⟩) zT_bool (hdg rfl) (of_decide_eq_true b4) rfl (Nat.le_of_ble_eq_true b5) b1 (Nat.le_of_ble_eq_true b2) (Nat.le_of_ble_eq_true b3) (hN h)
    all_goals exact (show False from h).elim
  case invokevirtual i => 
    replace h := zSome_e h; obtain ⟨q, e, h⟩ := h; replace h := zB_e h; obtain ⟨b1, h⟩ := h; replace h := zSome_e h; obtain ⟨ar, hp, h⟩ := h; replace h := zTr_e h; obtain ⟨b, As, hav, h⟩ := h; replace h := zObj_e h; obtain ⟨fs, hb, h⟩ := h
    have hk : q.1 = 0 := Nat.eq_of_beq_eq_true b1
    rcases hcp.2.1 _ (zFind_mem e) with ⟨f0, -⟩ | f0
    · exact absurd (hk.symm.trans f0) (by decide)
    · exact zCall_s f0 (by rw [if_pos hk]; exact hdg rfl) hp (fun _ => ⟨b, fs, As, hav, hb⟩) hnx h
  case invokestatic i => 
    replace h := zSome_e h; obtain ⟨q, e, h⟩ := h; replace h := zB_e h; obtain ⟨b1, h⟩ := h; replace h := zSome_e h; obtain ⟨ar, hp, h⟩ := h
    have hk : q.1 = 1 ∨ q.1 = 3 := by
      rcases Bool.or_eq_true_iff.mp b1 with b | b
      · exact Or.inl (Nat.eq_of_beq_eq_true b)
      · exact Or.inr (Nat.eq_of_beq_eq_true b)
    have hk0 : q.1 ≠ 0 := by rcases hk with k | k <;> rw [k] <;> decide
    have hk2 : q.1 ≠ 2 := by rcases hk with k | k <;> rw [k] <;> decide
    rcases hcp.2.1 _ (zFind_mem e) with ⟨f0, -⟩ | f0
    · exact absurd f0 (show ¬ q.1 = 4 by rcases hk with k | k <;> rw [k] <;> decide)
    · exact zCall_s f0 (by rw [if_neg hk0, if_neg hk2]; exact hdg rfl) hp (fun z => by rcases z with z | z; exact absurd z hk0; exact absurd z hk2) hnx h
  case invokespecial i => 
    replace h := zSome_e h; obtain ⟨q, e, h⟩ := h
    split at h
    · rename_i hk
      cases d with
      | zero => exact h.elim
      | succ d =>
        replace h := zTr_e h; obtain ⟨v, r, rfl, h⟩ := h; replace h := zB_e h; obtain ⟨b1, h⟩ := h
        rcases hcp.2.1 _ (zFind_mem e) with ⟨f0, f1, f2, f3⟩ | f0
        · exact s_oinit f1 f2 f3 (hdg rfl) (Nat.le_of_ble_eq_true b1) (hN h)
        · have f1 := f0.2.2.2.2
          rw [show (i, q).2.1 = 4 from hk] at f1
          exact f1.elim
    · rename_i hk
      replace h := zSome_e h; obtain ⟨ar, hp, h⟩ := h; replace h := zTr_e h; obtain ⟨b, As, hav, h⟩ := h; replace h := zObj_e h; obtain ⟨fs, hb, h⟩ := h
      rcases hcp.2.1 _ (zFind_mem e) with ⟨f0, -⟩ | f0
      · exact absurd (hk.symm.trans f0) (by decide)
      · exact zCall_s f0 (by rw [show (i, q).2.1 = 2 from hk]; exact hdg rfl) hp (fun _ => ⟨b, fs, As, hav, hb⟩) hnx h
    · exact h.elim
  case ireturn => 
    replace h := zTi_e h; obtain ⟨v, r, rfl, h⟩ := h
    split at h
    · rename_i e1; exact s_iret e1 (hdg rfl) h
    · rename_i e1; exact s_zret e1 h.1 (hdg rfl) h.2
    · exact h.elim
  case return_ => obtain ⟨e1, e2, h1⟩ := zRt_e h; rw [e1]; exact s_vret e2 (hdg rfl) h1
  case areturn => 
    replace h := zTop_e h; obtain ⟨v, r, rfl, h⟩ := h
    split at h
    · rename_i nm e1
      replace h := zVa_e h; rcases h with ⟨x, rfl, h⟩ | ⟨rfl, h⟩
      · exact s_aret e1 (Or.inr ⟨_, rfl⟩) (hdg rfl) h
      · exact s_aret e1 (Or.inl rfl) (hdg rfl) h
    · exact h.elim
  all_goals exact (show False from h).elim
theorem zX_s {cd : List zR} {cuts : List Nat} (hini : ini = true → g.1.name = "<init>") (hcp : zPool g.1.cls cp) (hcd : zCode g cd) : ∀ (n : Nat) (fresh : Bool) (pc : Nat) (ls : List (Option Value)) (st : List Value) (σ : List va_E) (uc us : Nat), zX g ini cp cd cuts d Q n fresh pc ls st σ uc us → zGood g d Q pc ls st σ uc us
  | 0, _, _, _, _, _, _, _, h => h.elim
  | n + 1, fresh, pc, ls, st, σ, uc, us, h => by
    unfold zX at h
    split at h
    · exact h.2
    · split at h
      · exact h.elim
      · rename_i q e
        obtain ⟨h1, h2⟩ := hcd _ (zFind_mem e)
        exact zI_s hini hcp h1 h2 (fun pc' ls' st' σ' uc' us' h => zX_s hini hcp hcd n false pc' ls' st' σ' uc' us' h) h
end ZS
end
