section
-- ===== PART A: goes FIRST, ahead of the names: the tables' words, and 'selects' of the private methods out of them =====
/-- a private method of a class that the tables say can be made, by its rows of tables_1 -/
def lw_okq (q : MethodName × Nat) : Prop := (q.1.cls ≠ "java/lang/invoke/MethodHandle" ∧ q.1.cls ≠ "java/lang/invoke/VarHandle") ∧ Cond.instantiable q.1.cls q.2 ∈ tables_1 ∧ Cond.privateMethod q.1 ∈ tables_1 ∧ Cond.instanceMethod q.1 ∈ tables_1
theorem lw_p0 : lw_okq (⟨"BlameTown$Telling", "skipBlanks", "()V"⟩, 6) := ⟨⟨by decide +kernel, by decide +kernel⟩, List.mem_of_getElem? (i := 22) (by decide +kernel), List.mem_of_getElem? (i := 358) (by decide +kernel), List.mem_of_getElem? (i := 359) (by decide +kernel)⟩
theorem lw_p1 : lw_okq (⟨"BlameTown$Telling", "here", "()I"⟩, 6) := ⟨⟨by decide +kernel, by decide +kernel⟩, List.mem_of_getElem? (i := 22) (by decide +kernel), List.mem_of_getElem? (i := 362) (by decide +kernel), List.mem_of_getElem? (i := 363) (by decide +kernel)⟩
theorem lw_p2 : lw_okq (⟨"BlameTown$Telling", "readClause", "(LBlameTown$Facts;)V"⟩, 6) := ⟨⟨by decide +kernel, by decide +kernel⟩, List.mem_of_getElem? (i := 22) (by decide +kernel), List.mem_of_getElem? (i := 366) (by decide +kernel), List.mem_of_getElem? (i := 367) (by decide +kernel)⟩
theorem lw_p3 : lw_okq (⟨"BlameTown$Telling", "readJury", "(LBlameTown$Facts;)V"⟩, 6) := ⟨⟨by decide +kernel, by decide +kernel⟩, List.mem_of_getElem? (i := 22) (by decide +kernel), List.mem_of_getElem? (i := 370) (by decide +kernel), List.mem_of_getElem? (i := 371) (by decide +kernel)⟩
theorem lw_p4 : lw_okq (⟨"BlameTown$Telling", "mark", "(II)V"⟩, 6) := ⟨⟨by decide +kernel, by decide +kernel⟩, List.mem_of_getElem? (i := 22) (by decide +kernel), List.mem_of_getElem? (i := 374) (by decide +kernel), List.mem_of_getElem? (i := 375) (by decide +kernel)⟩
theorem lw_p5 : lw_okq (⟨"BlameTown$Telling", "readNumber", "(II)I"⟩, 6) := ⟨⟨by decide +kernel, by decide +kernel⟩, List.mem_of_getElem? (i := 22) (by decide +kernel), List.mem_of_getElem? (i := 378) (by decide +kernel), List.mem_of_getElem? (i := 379) (by decide +kernel)⟩
theorem lw_p6 : lw_okq (⟨"BlameTown$Telling", "readEnd", "()V"⟩, 6) := ⟨⟨by decide +kernel, by decide +kernel⟩, List.mem_of_getElem? (i := 22) (by decide +kernel), List.mem_of_getElem? (i := 387) (by decide +kernel), List.mem_of_getElem? (i := 388) (by decide +kernel)⟩
theorem lw_p7 : lw_okq (⟨"BlameTown$Telling", "readMan", "(LBlameTown$Facts;)V"⟩, 6) := ⟨⟨by decide +kernel, by decide +kernel⟩, List.mem_of_getElem? (i := 22) (by decide +kernel), List.mem_of_getElem? (i := 391) (by decide +kernel), List.mem_of_getElem? (i := 392) (by decide +kernel)⟩
theorem lw_p8 : lw_okq (⟨"BlameTown$Telling", "readRow", "(LBlameTown$Facts;I)V"⟩, 6) := ⟨⟨by decide +kernel, by decide +kernel⟩, List.mem_of_getElem? (i := 22) (by decide +kernel), List.mem_of_getElem? (i := 395) (by decide +kernel), List.mem_of_getElem? (i := 396) (by decide +kernel)⟩
theorem lw_p9 : lw_okq (⟨"BlameTown$Telling", "readMishap", "(LBlameTown$Facts;)V"⟩, 6) := ⟨⟨by decide +kernel, by decide +kernel⟩, List.mem_of_getElem? (i := 22) (by decide +kernel), List.mem_of_getElem? (i := 399) (by decide +kernel), List.mem_of_getElem? (i := 400) (by decide +kernel)⟩
theorem lw_p10 : lw_okq (⟨"BlameTown", "isMan", "(I)Z"⟩, 12) := ⟨⟨by decide +kernel, by decide +kernel⟩, List.mem_of_getElem? (i := 14) (by decide +kernel), List.mem_of_getElem? (i := 472) (by decide +kernel), List.mem_of_getElem? (i := 473) (by decide +kernel)⟩
theorem lw_p11 : lw_okq (⟨"BlameTown", "isMishap", "(I)Z"⟩, 12) := ⟨⟨by decide +kernel, by decide +kernel⟩, List.mem_of_getElem? (i := 14) (by decide +kernel), List.mem_of_getElem? (i := 497) (by decide +kernel), List.mem_of_getElem? (i := 498) (by decide +kernel)⟩
theorem lw_p12 : lw_okq (⟨"BlameTown", "putBlame", "(II)V"⟩, 12) := ⟨⟨by decide +kernel, by decide +kernel⟩, List.mem_of_getElem? (i := 14) (by decide +kernel), List.mem_of_getElem? (i := 551) (by decide +kernel), List.mem_of_getElem? (i := 552) (by decide +kernel)⟩
theorem lw_p13 : lw_okq (⟨"BlameTown", "endDay", "()I"⟩, 12) := ⟨⟨by decide +kernel, by decide +kernel⟩, List.mem_of_getElem? (i := 14) (by decide +kernel), List.mem_of_getElem? (i := 595) (by decide +kernel), List.mem_of_getElem? (i := 596) (by decide +kernel)⟩
theorem lw_p14 : lw_okq (⟨"BlameTown", "blameByDraws", "(I)V"⟩, 12) := ⟨⟨by decide +kernel, by decide +kernel⟩, List.mem_of_getElem? (i := 14) (by decide +kernel), List.mem_of_getElem? (i := 609) (by decide +kernel), List.mem_of_getElem? (i := 610) (by decide +kernel)⟩
theorem lw_p15 : lw_okq (⟨"BlameTown", "draw", "(I)I"⟩, 12) := ⟨⟨by decide +kernel, by decide +kernel⟩, List.mem_of_getElem? (i := 14) (by decide +kernel), List.mem_of_getElem? (i := 619) (by decide +kernel), List.mem_of_getElem? (i := 620) (by decide +kernel)⟩
def lw_privs_1 : List (MethodName × Nat) := [(⟨"BlameTown$Telling", "skipBlanks", "()V"⟩, 6), (⟨"BlameTown$Telling", "here", "()I"⟩, 6), (⟨"BlameTown$Telling", "readClause", "(LBlameTown$Facts;)V"⟩, 6), (⟨"BlameTown$Telling", "readJury", "(LBlameTown$Facts;)V"⟩, 6), (⟨"BlameTown$Telling", "mark", "(II)V"⟩, 6), (⟨"BlameTown$Telling", "readNumber", "(II)I"⟩, 6), (⟨"BlameTown$Telling", "readEnd", "()V"⟩, 6), (⟨"BlameTown$Telling", "readMan", "(LBlameTown$Facts;)V"⟩, 6), (⟨"BlameTown$Telling", "readRow", "(LBlameTown$Facts;I)V"⟩, 6), (⟨"BlameTown$Telling", "readMishap", "(LBlameTown$Facts;)V"⟩, 6), (⟨"BlameTown", "isMan", "(I)Z"⟩, 12), (⟨"BlameTown", "isMishap", "(I)Z"⟩, 12), (⟨"BlameTown", "putBlame", "(II)V"⟩, 12), (⟨"BlameTown", "endDay", "()I"⟩, 12), (⟨"BlameTown", "blameByDraws", "(I)V"⟩, 12), (⟨"BlameTown", "draw", "(I)I"⟩, 12)]
theorem lw_r1 : ∀ q ∈ lw_privs_1, lw_okq q := List.forall_mem_cons.mpr ⟨lw_p0, List.forall_mem_cons.mpr ⟨lw_p1, List.forall_mem_cons.mpr ⟨lw_p2, List.forall_mem_cons.mpr ⟨lw_p3, List.forall_mem_cons.mpr ⟨lw_p4, List.forall_mem_cons.mpr ⟨lw_p5, List.forall_mem_cons.mpr ⟨lw_p6, List.forall_mem_cons.mpr ⟨lw_p7, List.forall_mem_cons.mpr ⟨lw_p8, List.forall_mem_cons.mpr ⟨lw_p9, List.forall_mem_cons.mpr ⟨lw_p10, List.forall_mem_cons.mpr ⟨lw_p11, List.forall_mem_cons.mpr ⟨lw_p12, List.forall_mem_cons.mpr ⟨lw_p13, List.forall_mem_cons.mpr ⟨lw_p14, List.forall_mem_cons.mpr ⟨lw_p15, fun _ h => absurd h List.not_mem_nil⟩⟩⟩⟩⟩⟩⟩⟩⟩⟩⟩⟩⟩⟩⟩⟩
theorem lw_p16 : lw_okq (⟨"BlameTown$Sharing", "lookAt", "(I)V"⟩, 14) := ⟨⟨by decide +kernel, by decide +kernel⟩, List.mem_of_getElem? (i := 172) (by decide +kernel), List.mem_of_getElem? (i := 663) (by decide +kernel), List.mem_of_getElem? (i := 664) (by decide +kernel)⟩
theorem lw_p17 : lw_okq (⟨"BlameTown$Sharing", "listSets", "(I)V"⟩, 14) := ⟨⟨by decide +kernel, by decide +kernel⟩, List.mem_of_getElem? (i := 172) (by decide +kernel), List.mem_of_getElem? (i := 671) (by decide +kernel), List.mem_of_getElem? (i := 672) (by decide +kernel)⟩
theorem lw_p18 : lw_okq (⟨"BlameTown$Sharing", "addSet", "(III)V"⟩, 14) := ⟨⟨by decide +kernel, by decide +kernel⟩, List.mem_of_getElem? (i := 172) (by decide +kernel), List.mem_of_getElem? (i := 675) (by decide +kernel), List.mem_of_getElem? (i := 676) (by decide +kernel)⟩
theorem lw_p19 : lw_okq (⟨"BlameTown$Sharing", "allTake", "(II)Z"⟩, 14) := ⟨⟨by decide +kernel, by decide +kernel⟩, List.mem_of_getElem? (i := 172) (by decide +kernel), List.mem_of_getElem? (i := 679) (by decide +kernel), List.mem_of_getElem? (i := 680) (by decide +kernel)⟩
theorem lw_p20 : lw_okq (⟨"BlameTown$Sharing", "takes", "(II)Z"⟩, 14) := ⟨⟨by decide +kernel, by decide +kernel⟩, List.mem_of_getElem? (i := 172) (by decide +kernel), List.mem_of_getElem? (i := 684) (by decide +kernel), List.mem_of_getElem? (i := 685) (by decide +kernel)⟩
theorem lw_p21 : lw_okq (⟨"BlameTown$Sharing", "search", "(II)V"⟩, 14) := ⟨⟨by decide +kernel, by decide +kernel⟩, List.mem_of_getElem? (i := 172) (by decide +kernel), List.mem_of_getElem? (i := 695) (by decide +kernel), List.mem_of_getElem? (i := 696) (by decide +kernel)⟩
theorem lw_p22 : lw_okq (⟨"BlameTown$Sharing", "pick", "(III)V"⟩, 14) := ⟨⟨by decide +kernel, by decide +kernel⟩, List.mem_of_getElem? (i := 172) (by decide +kernel), List.mem_of_getElem? (i := 700) (by decide +kernel), List.mem_of_getElem? (i := 701) (by decide +kernel)⟩
theorem lw_p23 : lw_okq (⟨"BlameTown$Sharing", "give", "(II)V"⟩, 14) := ⟨⟨by decide +kernel, by decide +kernel⟩, List.mem_of_getElem? (i := 172) (by decide +kernel), List.mem_of_getElem? (i := 704) (by decide +kernel), List.mem_of_getElem? (i := 705) (by decide +kernel)⟩
theorem lw_p24 : lw_okq (⟨"BlameTown", "imageOf", "(I)LBlameTown$Image;"⟩, 12) := ⟨⟨by decide +kernel, by decide +kernel⟩, List.mem_of_getElem? (i := 14) (by decide +kernel), List.mem_of_getElem? (i := 802) (by decide +kernel), List.mem_of_getElem? (i := 803) (by decide +kernel)⟩
theorem lw_p25 : lw_okq (⟨"BlameTownModel", "skips", "()V"⟩, 36) := ⟨⟨by decide +kernel, by decide +kernel⟩, List.mem_of_getElem? (i := 811) (by decide +kernel), List.mem_of_getElem? (i := 940) (by decide +kernel), List.mem_of_getElem? (i := 941) (by decide +kernel)⟩
theorem lw_p26 : lw_okq (⟨"BlameTownModel", "look", "()I"⟩, 36) := ⟨⟨by decide +kernel, by decide +kernel⟩, List.mem_of_getElem? (i := 811) (by decide +kernel), List.mem_of_getElem? (i := 944) (by decide +kernel), List.mem_of_getElem? (i := 945) (by decide +kernel)⟩
theorem lw_p27 : lw_okq (⟨"BlameTownModel", "reads", "()V"⟩, 36) := ⟨⟨by decide +kernel, by decide +kernel⟩, List.mem_of_getElem? (i := 811) (by decide +kernel), List.mem_of_getElem? (i := 948) (by decide +kernel), List.mem_of_getElem? (i := 949) (by decide +kernel)⟩
theorem lw_p28 : lw_okq (⟨"BlameTownModel", "word", "(I)V"⟩, 36) := ⟨⟨by decide +kernel, by decide +kernel⟩, List.mem_of_getElem? (i := 811) (by decide +kernel), List.mem_of_getElem? (i := 952) (by decide +kernel), List.mem_of_getElem? (i := 953) (by decide +kernel)⟩
theorem lw_p29 : lw_okq (⟨"BlameTownModel", "fails", "(I)V"⟩, 36) := ⟨⟨by decide +kernel, by decide +kernel⟩, List.mem_of_getElem? (i := 811) (by decide +kernel), List.mem_of_getElem? (i := 956) (by decide +kernel), List.mem_of_getElem? (i := 957) (by decide +kernel)⟩
theorem lw_p30 : lw_okq (⟨"BlameTownModel", "number", "(II)I"⟩, 36) := ⟨⟨by decide +kernel, by decide +kernel⟩, List.mem_of_getElem? (i := 811) (by decide +kernel), List.mem_of_getElem? (i := 960) (by decide +kernel), List.mem_of_getElem? (i := 961) (by decide +kernel)⟩
theorem lw_p31 : lw_okq (⟨"BlameTownModel", "skipsIfWell", "()V"⟩, 36) := ⟨⟨by decide +kernel, by decide +kernel⟩, List.mem_of_getElem? (i := 811) (by decide +kernel), List.mem_of_getElem? (i := 964) (by decide +kernel), List.mem_of_getElem? (i := 965) (by decide +kernel)⟩
def lw_privs_2 : List (MethodName × Nat) := [(⟨"BlameTown$Sharing", "lookAt", "(I)V"⟩, 14), (⟨"BlameTown$Sharing", "listSets", "(I)V"⟩, 14), (⟨"BlameTown$Sharing", "addSet", "(III)V"⟩, 14), (⟨"BlameTown$Sharing", "allTake", "(II)Z"⟩, 14), (⟨"BlameTown$Sharing", "takes", "(II)Z"⟩, 14), (⟨"BlameTown$Sharing", "search", "(II)V"⟩, 14), (⟨"BlameTown$Sharing", "pick", "(III)V"⟩, 14), (⟨"BlameTown$Sharing", "give", "(II)V"⟩, 14), (⟨"BlameTown", "imageOf", "(I)LBlameTown$Image;"⟩, 12), (⟨"BlameTownModel", "skips", "()V"⟩, 36), (⟨"BlameTownModel", "look", "()I"⟩, 36), (⟨"BlameTownModel", "reads", "()V"⟩, 36), (⟨"BlameTownModel", "word", "(I)V"⟩, 36), (⟨"BlameTownModel", "fails", "(I)V"⟩, 36), (⟨"BlameTownModel", "number", "(II)I"⟩, 36), (⟨"BlameTownModel", "skipsIfWell", "()V"⟩, 36)]
theorem lw_r2 : ∀ q ∈ lw_privs_2, lw_okq q := List.forall_mem_cons.mpr ⟨lw_p16, List.forall_mem_cons.mpr ⟨lw_p17, List.forall_mem_cons.mpr ⟨lw_p18, List.forall_mem_cons.mpr ⟨lw_p19, List.forall_mem_cons.mpr ⟨lw_p20, List.forall_mem_cons.mpr ⟨lw_p21, List.forall_mem_cons.mpr ⟨lw_p22, List.forall_mem_cons.mpr ⟨lw_p23, List.forall_mem_cons.mpr ⟨lw_p24, List.forall_mem_cons.mpr ⟨lw_p25, List.forall_mem_cons.mpr ⟨lw_p26, List.forall_mem_cons.mpr ⟨lw_p27, List.forall_mem_cons.mpr ⟨lw_p28, List.forall_mem_cons.mpr ⟨lw_p29, List.forall_mem_cons.mpr ⟨lw_p30, List.forall_mem_cons.mpr ⟨lw_p31, fun _ h => absurd h List.not_mem_nil⟩⟩⟩⟩⟩⟩⟩⟩⟩⟩⟩⟩⟩⟩⟩⟩
theorem lw_p32 : lw_okq (⟨"BlameTownModel", "readsMan", "()V"⟩, 36) := ⟨⟨by decide +kernel, by decide +kernel⟩, List.mem_of_getElem? (i := 811) (by decide +kernel), List.mem_of_getElem? (i := 968) (by decide +kernel), List.mem_of_getElem? (i := 969) (by decide +kernel)⟩
theorem lw_p33 : lw_okq (⟨"BlameTownModel", "readsMishap", "()V"⟩, 36) := ⟨⟨by decide +kernel, by decide +kernel⟩, List.mem_of_getElem? (i := 811) (by decide +kernel), List.mem_of_getElem? (i := 972) (by decide +kernel), List.mem_of_getElem? (i := 973) (by decide +kernel)⟩
theorem lw_p34 : lw_okq (⟨"BlameTownModel", "takes", "()V"⟩, 36) := ⟨⟨by decide +kernel, by decide +kernel⟩, List.mem_of_getElem? (i := 811) (by decide +kernel), List.mem_of_getElem? (i := 976) (by decide +kernel), List.mem_of_getElem? (i := 977) (by decide +kernel)⟩
theorem lw_p35 : lw_okq (⟨"BlameTownModel", "allFree", "()I"⟩, 36) := ⟨⟨by decide +kernel, by decide +kernel⟩, List.mem_of_getElem? (i := 811) (by decide +kernel), List.mem_of_getElem? (i := 988) (by decide +kernel), List.mem_of_getElem? (i := 989) (by decide +kernel)⟩
theorem lw_p36 : lw_okq (⟨"BlameTownModel", "free", "(I)I"⟩, 36) := ⟨⟨by decide +kernel, by decide +kernel⟩, List.mem_of_getElem? (i := 811) (by decide +kernel), List.mem_of_getElem? (i := 992) (by decide +kernel), List.mem_of_getElem? (i := 993) (by decide +kernel)⟩
theorem lw_p37 : lw_okq (⟨"BlameTownModel", "blamedFor", "(I)I"⟩, 36) := ⟨⟨by decide +kernel, by decide +kernel⟩, List.mem_of_getElem? (i := 811) (by decide +kernel), List.mem_of_getElem? (i := 996) (by decide +kernel), List.mem_of_getElem? (i := 997) (by decide +kernel)⟩
theorem lw_p38 : lw_okq (⟨"BlameTownModel", "isMan", "(I)Z"⟩, 36) := ⟨⟨by decide +kernel, by decide +kernel⟩, List.mem_of_getElem? (i := 811) (by decide +kernel), List.mem_of_getElem? (i := 1007) (by decide +kernel), List.mem_of_getElem? (i := 1008) (by decide +kernel)⟩
theorem lw_p39 : lw_okq (⟨"BlameTownModel", "blamesOf", "(I)I"⟩, 36) := ⟨⟨by decide +kernel, by decide +kernel⟩, List.mem_of_getElem? (i := 811) (by decide +kernel), List.mem_of_getElem? (i := 1012) (by decide +kernel), List.mem_of_getElem? (i := 1013) (by decide +kernel)⟩
theorem lw_p40 : lw_okq (⟨"BlameTownModel", "isMishap", "(I)Z"⟩, 36) := ⟨⟨by decide +kernel, by decide +kernel⟩, List.mem_of_getElem? (i := 811) (by decide +kernel), List.mem_of_getElem? (i := 1023) (by decide +kernel), List.mem_of_getElem? (i := 1024) (by decide +kernel)⟩
theorem lw_p41 : lw_okq (⟨"BlameTownModel", "isNear", "(II)Z"⟩, 36) := ⟨⟨by decide +kernel, by decide +kernel⟩, List.mem_of_getElem? (i := 811) (by decide +kernel), List.mem_of_getElem? (i := 1031) (by decide +kernel), List.mem_of_getElem? (i := 1032) (by decide +kernel)⟩
theorem lw_p42 : lw_okq (⟨"BlameTownModel", "whereIs", "(II)I"⟩, 36) := ⟨⟨by decide +kernel, by decide +kernel⟩, List.mem_of_getElem? (i := 811) (by decide +kernel), List.mem_of_getElem? (i := 1035) (by decide +kernel), List.mem_of_getElem? (i := 1036) (by decide +kernel)⟩
theorem lw_p43 : lw_okq (⟨"BlameTownModel", "can", "(II)Z"⟩, 36) := ⟨⟨by decide +kernel, by decide +kernel⟩, List.mem_of_getElem? (i := 811) (by decide +kernel), List.mem_of_getElem? (i := 1042) (by decide +kernel), List.mem_of_getElem? (i := 1043) (by decide +kernel)⟩
theorem lw_p44 : lw_okq (⟨"BlameTownModel", "beliefAt", "(IIII)I"⟩, 36) := ⟨⟨by decide +kernel, by decide +kernel⟩, List.mem_of_getElem? (i := 811) (by decide +kernel), List.mem_of_getElem? (i := 1046) (by decide +kernel), List.mem_of_getElem? (i := 1047) (by decide +kernel)⟩
theorem lw_p45 : lw_okq (⟨"BlameTownModel", "mayBe", "(II)Z"⟩, 36) := ⟨⟨by decide +kernel, by decide +kernel⟩, List.mem_of_getElem? (i := 811) (by decide +kernel), List.mem_of_getElem? (i := 1054) (by decide +kernel), List.mem_of_getElem? (i := 1055) (by decide +kernel)⟩
theorem lw_p46 : lw_okq (⟨"BlameTownModel", "fits", "(III)Z"⟩, 36) := ⟨⟨by decide +kernel, by decide +kernel⟩, List.mem_of_getElem? (i := 811) (by decide +kernel), List.mem_of_getElem? (i := 1058) (by decide +kernel), List.mem_of_getElem? (i := 1059) (by decide +kernel)⟩
theorem lw_p47 : lw_okq (⟨"BlameTownModel", "areFar", "(II)Z"⟩, 36) := ⟨⟨by decide +kernel, by decide +kernel⟩, List.mem_of_getElem? (i := 811) (by decide +kernel), List.mem_of_getElem? (i := 1062) (by decide +kernel), List.mem_of_getElem? (i := 1063) (by decide +kernel)⟩
def lw_privs_3 : List (MethodName × Nat) := [(⟨"BlameTownModel", "readsMan", "()V"⟩, 36), (⟨"BlameTownModel", "readsMishap", "()V"⟩, 36), (⟨"BlameTownModel", "takes", "()V"⟩, 36), (⟨"BlameTownModel", "allFree", "()I"⟩, 36), (⟨"BlameTownModel", "free", "(I)I"⟩, 36), (⟨"BlameTownModel", "blamedFor", "(I)I"⟩, 36), (⟨"BlameTownModel", "isMan", "(I)Z"⟩, 36), (⟨"BlameTownModel", "blamesOf", "(I)I"⟩, 36), (⟨"BlameTownModel", "isMishap", "(I)Z"⟩, 36), (⟨"BlameTownModel", "isNear", "(II)Z"⟩, 36), (⟨"BlameTownModel", "whereIs", "(II)I"⟩, 36), (⟨"BlameTownModel", "can", "(II)Z"⟩, 36), (⟨"BlameTownModel", "beliefAt", "(IIII)I"⟩, 36), (⟨"BlameTownModel", "mayBe", "(II)Z"⟩, 36), (⟨"BlameTownModel", "fits", "(III)Z"⟩, 36), (⟨"BlameTownModel", "areFar", "(II)Z"⟩, 36)]
theorem lw_r3 : ∀ q ∈ lw_privs_3, lw_okq q := List.forall_mem_cons.mpr ⟨lw_p32, List.forall_mem_cons.mpr ⟨lw_p33, List.forall_mem_cons.mpr ⟨lw_p34, List.forall_mem_cons.mpr ⟨lw_p35, List.forall_mem_cons.mpr ⟨lw_p36, List.forall_mem_cons.mpr ⟨lw_p37, List.forall_mem_cons.mpr ⟨lw_p38, List.forall_mem_cons.mpr ⟨lw_p39, List.forall_mem_cons.mpr ⟨lw_p40, List.forall_mem_cons.mpr ⟨lw_p41, List.forall_mem_cons.mpr ⟨lw_p42, List.forall_mem_cons.mpr ⟨lw_p43, List.forall_mem_cons.mpr ⟨lw_p44, List.forall_mem_cons.mpr ⟨lw_p45, List.forall_mem_cons.mpr ⟨lw_p46, List.forall_mem_cons.mpr ⟨lw_p47, fun _ h => absurd h List.not_mem_nil⟩⟩⟩⟩⟩⟩⟩⟩⟩⟩⟩⟩⟩⟩⟩⟩
theorem lw_p48 : lw_okq (⟨"BlameTownModel", "notes", "()V"⟩, 36) := ⟨⟨by decide +kernel, by decide +kernel⟩, List.mem_of_getElem? (i := 811) (by decide +kernel), List.mem_of_getElem? (i := 1067) (by decide +kernel), List.mem_of_getElem? (i := 1068) (by decide +kernel)⟩
theorem lw_p49 : lw_okq (⟨"BlameTownModel", "blames", "(II)V"⟩, 36) := ⟨⟨by decide +kernel, by decide +kernel⟩, List.mem_of_getElem? (i := 811) (by decide +kernel), List.mem_of_getElem? (i := 1074) (by decide +kernel), List.mem_of_getElem? (i := 1075) (by decide +kernel)⟩
theorem lw_p50 : lw_okq (⟨"BlameTownModel", "sets", "()I"⟩, 36) := ⟨⟨by decide +kernel, by decide +kernel⟩, List.mem_of_getElem? (i := 811) (by decide +kernel), List.mem_of_getElem? (i := 1090) (by decide +kernel), List.mem_of_getElem? (i := 1091) (by decide +kernel)⟩
theorem lw_p51 : lw_okq (⟨"BlameTownModel", "mayFor", "(I)I"⟩, 36) := ⟨⟨by decide +kernel, by decide +kernel⟩, List.mem_of_getElem? (i := 811) (by decide +kernel), List.mem_of_getElem? (i := 1098) (by decide +kernel), List.mem_of_getElem? (i := 1099) (by decide +kernel)⟩
theorem lw_p52 : lw_okq (⟨"BlameTownModel", "draw", "(I)I"⟩, 36) := ⟨⟨by decide +kernel, by decide +kernel⟩, List.mem_of_getElem? (i := 811) (by decide +kernel), List.mem_of_getElem? (i := 1102) (by decide +kernel), List.mem_of_getElem? (i := 1103) (by decide +kernel)⟩
theorem lw_p53 : lw_okq (⟨"BlameTownModel", "shares", "()V"⟩, 36) := ⟨⟨by decide +kernel, by decide +kernel⟩, List.mem_of_getElem? (i := 811) (by decide +kernel), List.mem_of_getElem? (i := 1129) (by decide +kernel), List.mem_of_getElem? (i := 1130) (by decide +kernel)⟩
theorem lw_p54 : lw_okq (⟨"BlameTownModel", "costs", "()I"⟩, 36) := ⟨⟨by decide +kernel, by decide +kernel⟩, List.mem_of_getElem? (i := 811) (by decide +kernel), List.mem_of_getElem? (i := 1133) (by decide +kernel), List.mem_of_getElem? (i := 1134) (by decide +kernel)⟩
theorem lw_p55 : lw_okq (⟨"BlameTownModel", "canBe", "()Z"⟩, 36) := ⟨⟨by decide +kernel, by decide +kernel⟩, List.mem_of_getElem? (i := 811) (by decide +kernel), List.mem_of_getElem? (i := 1137) (by decide +kernel), List.mem_of_getElem? (i := 1138) (by decide +kernel)⟩
theorem lw_p56 : lw_okq (⟨"BlameTownModel", "counts", "()Z"⟩, 36) := ⟨⟨by decide +kernel, by decide +kernel⟩, List.mem_of_getElem? (i := 811) (by decide +kernel), List.mem_of_getElem? (i := 1141) (by decide +kernel), List.mem_of_getElem? (i := 1142) (by decide +kernel)⟩
theorem lw_p57 : lw_okq (⟨"BlameTownModel", "root", "(I)I"⟩, 36) := ⟨⟨by decide +kernel, by decide +kernel⟩, List.mem_of_getElem? (i := 811) (by decide +kernel), List.mem_of_getElem? (i := 1165) (by decide +kernel), List.mem_of_getElem? (i := 1166) (by decide +kernel)⟩
def lw_privs_4 : List (MethodName × Nat) := [(⟨"BlameTownModel", "notes", "()V"⟩, 36), (⟨"BlameTownModel", "blames", "(II)V"⟩, 36), (⟨"BlameTownModel", "sets", "()I"⟩, 36), (⟨"BlameTownModel", "mayFor", "(I)I"⟩, 36), (⟨"BlameTownModel", "draw", "(I)I"⟩, 36), (⟨"BlameTownModel", "shares", "()V"⟩, 36), (⟨"BlameTownModel", "costs", "()I"⟩, 36), (⟨"BlameTownModel", "canBe", "()Z"⟩, 36), (⟨"BlameTownModel", "counts", "()Z"⟩, 36), (⟨"BlameTownModel", "root", "(I)I"⟩, 36)]
theorem lw_r4 : ∀ q ∈ lw_privs_4, lw_okq q := List.forall_mem_cons.mpr ⟨lw_p48, List.forall_mem_cons.mpr ⟨lw_p49, List.forall_mem_cons.mpr ⟨lw_p50, List.forall_mem_cons.mpr ⟨lw_p51, List.forall_mem_cons.mpr ⟨lw_p52, List.forall_mem_cons.mpr ⟨lw_p53, List.forall_mem_cons.mpr ⟨lw_p54, List.forall_mem_cons.mpr ⟨lw_p55, List.forall_mem_cons.mpr ⟨lw_p56, List.forall_mem_cons.mpr ⟨lw_p57, fun _ h => absurd h List.not_mem_nil⟩⟩⟩⟩⟩⟩⟩⟩⟩⟩
def lw_privs : List (MethodName × Nat) := lw_privs_1 ++ (lw_privs_2 ++ (lw_privs_3 ++ (lw_privs_4)))
def lw_tbl : List Cond := k2_sels lw_privs ++ tables_1
theorem lw_privs_ok : ∀ q ∈ lw_privs, lw_okq q := by
  show ∀ q ∈ lw_privs_1 ++ (lw_privs_2 ++ (lw_privs_3 ++ (lw_privs_4))), lw_okq q
  exact List.forall_mem_append.mpr ⟨lw_r1, List.forall_mem_append.mpr ⟨lw_r2, List.forall_mem_append.mpr ⟨lw_r3, lw_r4⟩⟩⟩
def RX0 : String := "BlameTown$Court"
def TX0 : u_T := fun k => match k with
  | 0 => ("BlameTown$Court", "facts", "LBlameTown$Facts;", true)
  | _ => ("BlameTown$Court", "now", "LBlameTown$Standing;", true)
def tyX0 : Nat → FieldType := fun k => match k with
  | 0 => .object "BlameTown$Facts"
  | _ => .object "BlameTown$Standing"
abbrev wsX00 : List Cond := u_ws RX0 TX0 2
theorem nmX0 : ∀ a, a < 2 → ∀ b, b < 2 → a ≠ b → (TX0 a).2.1 ≠ (TX0 b).2.1 := by decide +kernel
theorem tyX0_ok : ∀ k, k < 2 → parseFieldDescriptor (TX0 k).2.2.1 = some (tyX0 k) := by decide +kernel
abbrev cX0_init : ByteArray := prog_2_method_1_code
def yX0_init : MethodName := ⟨RX0, "<init>", "(LBlameTown$Facts;LBlameTown$Standing;)V"⟩
abbrev cX0_isNear : ByteArray := prog_2_method_2_code
def yX0_isNear : MethodName := ⟨RX0, "isNear", "(II)Z"⟩
abbrev cX0_hasPowers : ByteArray := prog_2_method_3_code
def yX0_hasPowers : MethodName := ⟨RX0, "hasPowers", "(II)Z"⟩
abbrev cX0_freshBelief : ByteArray := prog_2_method_4_code
def yX0_freshBelief : MethodName := ⟨RX0, "freshBelief", "(III)I"⟩
abbrev cX0_wornLimit : ByteArray := prog_2_method_5_code
def yX0_wornLimit : MethodName := ⟨RX0, "wornLimit", "(III)I"⟩
abbrev cX0_freeOf : ByteArray := prog_2_method_6_code
def yX0_freeOf : MethodName := ⟨RX0, "freeOf", "(I)I"⟩
abbrev cX0_freeInAll : ByteArray := prog_2_method_7_code
def yX0_freeInAll : MethodName := ⟨RX0, "freeInAll", "()I"⟩
abbrev cX0_blamesOf : ByteArray := prog_2_method_8_code
def yX0_blamesOf : MethodName := ⟨RX0, "blamesOf", "(I)I"⟩
abbrev cX0_mayTake : ByteArray := prog_2_method_9_code
def yX0_mayTake : MethodName := ⟨RX0, "mayTake", "(II)Z"⟩
abbrev cX0_takers : ByteArray := prog_2_method_10_code
def yX0_takers : MethodName := ⟨RX0, "takers", "(I)I"⟩
abbrev cX0_cheapestFor : ByteArray := prog_2_method_11_code
def yX0_cheapestFor : MethodName := ⟨RX0, "cheapestFor", "(I)I"⟩
abbrev cX0_nearestFit : ByteArray := prog_2_method_12_code
def yX0_nearestFit : MethodName := ⟨RX0, "nearestFit", "(III)I"⟩
def RX1 : String := "BlameTown$Facts"
def TX1 : u_T := fun k => match k with
  | 0 => ("BlameTown$Facts", "there", "Z", false)
  | 1 => ("BlameTown$Facts", "jury", "I", false)
  | 2 => ("BlameTown$Facts", "pay", "I", false)
  | 3 => ("BlameTown$Facts", "men", "I", false)
  | 4 => ("BlameTown$Facts", "mishaps", "I", false)
  | 5 => ("BlameTown$Facts", "powers", "[I", true)
  | 6 => ("BlameTown$Facts", "hates", "[I", true)
  | 7 => ("BlameTown$Facts", "rates", "[I", true)
  | 8 => ("BlameTown$Facts", "rows", "[I", true)
  | 9 => ("BlameTown$Facts", "places", "[I", true)
  | 10 => ("BlameTown$Facts", "hours", "[I", true)
  | 11 => ("BlameTown$Facts", "needs", "[I", true)
  | 12 => ("BlameTown$Facts", "victims", "[I", true)
  | 13 => ("BlameTown$Facts", "sharers", "[I", true)
  | _ => ("BlameTown$Facts", "origins", "[I", true)
def tyX1 : Nat → FieldType := fun k => match k with
  | 0 => .boolean
  | 1 => .int
  | 2 => .int
  | 3 => .int
  | 4 => .int
  | 5 => .array .int
  | 6 => .array .int
  | 7 => .array .int
  | 8 => .array .int
  | 9 => .array .int
  | 10 => .array .int
  | 11 => .array .int
  | 12 => .array .int
  | 13 => .array .int
  | _ => .array .int
abbrev wsX10 : List Cond := u_ws RX1 TX1 15
theorem nmX1 : ∀ a, a < 15 → ∀ b, b < 15 → a ≠ b → (TX1 a).2.1 ≠ (TX1 b).2.1 := by decide +kernel
theorem tyX1_ok : ∀ k, k < 15 → parseFieldDescriptor (TX1 k).2.2.1 = some (tyX1 k) := by decide +kernel
abbrev cX1_init : ByteArray := prog_3_method_1_code
def yX1_init : MethodName := ⟨RX1, "<init>", "()V"⟩
abbrev cX1_empty : ByteArray := prog_3_method_2_code
def yX1_empty : MethodName := ⟨RX1, "empty", "()V"⟩
abbrev cX1_become : ByteArray := prog_3_method_3_code
def yX1_become : MethodName := ⟨RX1, "become", "(LBlameTown$Facts;)V"⟩
abbrev cX1_areFar : ByteArray := prog_3_method_4_code
def yX1_areFar : MethodName := ⟨RX1, "areFar", "(II)Z"⟩
abbrev cX1_ratesOf : ByteArray := prog_3_method_5_code
def yX1_ratesOf : MethodName := ⟨RX1, "ratesOf", "(I)I"⟩
abbrev cX1_chainOf : ByteArray := prog_3_method_6_code
def yX1_chainOf : MethodName := ⟨RX1, "chainOf", "(I)I"⟩
abbrev cX1_rootOf : ByteArray := prog_3_method_7_code
def yX1_rootOf : MethodName := ⟨RX1, "rootOf", "(I)I"⟩
abbrev cX1_wholeOf : ByteArray := prog_3_method_8_code
def yX1_wholeOf : MethodName := ⟨RX1, "wholeOf", "(I)I"⟩
def RX2 : String := "BlameTown$Image"
def TX2 : u_T := fun k => match k with
  | 0 => ("BlameTown$Image", "cells", "[I", true)
  | 1 => ("BlameTown$Image", "draws", "I", false)
  | _ => ("BlameTown$Image", "kept", "Z", false)
def tyX2 : Nat → FieldType := fun k => match k with
  | 0 => .array .int
  | 1 => .int
  | _ => .boolean
abbrev wsX20 : List Cond := u_ws RX2 TX2 3
theorem nmX2 : ∀ a, a < 3 → ∀ b, b < 3 → a ≠ b → (TX2 a).2.1 ≠ (TX2 b).2.1 := by decide +kernel
theorem tyX2_ok : ∀ k, k < 3 → parseFieldDescriptor (TX2 k).2.2.1 = some (tyX2 k) := by decide +kernel
abbrev cX2_init : ByteArray := prog_4_method_1_code
def yX2_init : MethodName := ⟨RX2, "<init>", "()V"⟩
def RX3 : String := "BlameTown$Papers"
def TX3 : u_T := fun k => match k with
  | 0 => ("BlameTown$Papers", "seenMan", "[I", true)
  | 1 => ("BlameTown$Papers", "seenHour", "[I", true)
  | 2 => ("BlameTown$Papers", "seenPlace", "[I", true)
  | 3 => ("BlameTown$Papers", "seen", "I", false)
  | 4 => ("BlameTown$Papers", "entryMan", "[I", true)
  | 5 => ("BlameTown$Papers", "entryMishap", "[I", true)
  | _ => ("BlameTown$Papers", "entries", "I", false)
def tyX3 : Nat → FieldType := fun k => match k with
  | 0 => .array .int
  | 1 => .array .int
  | 2 => .array .int
  | 3 => .int
  | 4 => .array .int
  | 5 => .array .int
  | _ => .int
abbrev wsX30 : List Cond := u_ws RX3 TX3 7
theorem nmX3 : ∀ a, a < 7 → ∀ b, b < 7 → a ≠ b → (TX3 a).2.1 ≠ (TX3 b).2.1 := by decide +kernel
theorem tyX3_ok : ∀ k, k < 7 → parseFieldDescriptor (TX3 k).2.2.1 = some (tyX3 k) := by decide +kernel
abbrev cX3_init : ByteArray := prog_5_method_1_code
def yX3_init : MethodName := ⟨RX3, "<init>", "()V"⟩
abbrev cX3_burn : ByteArray := prog_5_method_2_code
def yX3_burn : MethodName := ⟨RX3, "burn", "()V"⟩
abbrev cX3_addSeen : ByteArray := prog_5_method_3_code
def yX3_addSeen : MethodName := ⟨RX3, "addSeen", "(III)I"⟩
abbrev cX3_addEntry : ByteArray := prog_5_method_4_code
def yX3_addEntry : MethodName := ⟨RX3, "addEntry", "(II)I"⟩
abbrev cX3_excludes : ByteArray := prog_5_method_5_code
def yX3_excludes : MethodName := ⟨RX3, "excludes", "(III)Z"⟩
def RX4 : String := "BlameTown$Past"
def TX4 : u_T := fun k => match k with
  | 0 => ("BlameTown$Past", "rows", "[[I", true)
  | 1 => ("BlameTown$Past", "next", "I", false)
  | _ => ("BlameTown$Past", "count", "I", false)
def tyX4 : Nat → FieldType := fun k => match k with
  | 0 => .array (.array .int)
  | 1 => .int
  | _ => .int
abbrev wsX40 : List Cond := u_ws RX4 TX4 3
theorem nmX4 : ∀ a, a < 3 → ∀ b, b < 3 → a ≠ b → (TX4 a).2.1 ≠ (TX4 b).2.1 := by decide +kernel
theorem tyX4_ok : ∀ k, k < 3 → parseFieldDescriptor (TX4 k).2.2.1 = some (tyX4 k) := by decide +kernel
abbrev cX4_init : ByteArray := prog_6_method_1_code
def yX4_init : MethodName := ⟨RX4, "<init>", "()V"⟩
abbrev cX4_forget : ByteArray := prog_6_method_2_code
def yX4_forget : MethodName := ⟨RX4, "forget", "()V"⟩
abbrev cX4_remember : ByteArray := prog_6_method_3_code
def yX4_remember : MethodName := ⟨RX4, "remember", "(LBlameTown$Standing;)V"⟩
abbrev cX4_giveBack : ByteArray := prog_6_method_4_code
def yX4_giveBack : MethodName := ⟨RX4, "giveBack", "(ILBlameTown$Standing;)V"⟩
def RX5 : String := "BlameTown$Sharing"
def TX5 : u_T := fun k => match k with
  | 0 => ("BlameTown$Sharing", "facts", "LBlameTown$Facts;", true)
  | 1 => ("BlameTown$Sharing", "now", "LBlameTown$Standing;", true)
  | 2 => ("BlameTown$Sharing", "court", "LBlameTown$Court;", true)
  | 3 => ("BlameTown$Sharing", "wornBefore", "[I", true)
  | 4 => ("BlameTown$Sharing", "wornLimits", "[I", true)
  | 5 => ("BlameTown$Sharing", "farFrom", "[I", true)
  | 6 => ("BlameTown$Sharing", "sets", "[I", true)
  | 7 => ("BlameTown$Sharing", "prices", "[I", true)
  | 8 => ("BlameTown$Sharing", "setCounts", "[I", true)
  | 9 => ("BlameTown$Sharing", "restCosts", "[I", true)
  | 10 => ("BlameTown$Sharing", "given", "[I", true)
  | 11 => ("BlameTown$Sharing", "picked", "[I", true)
  | 12 => ("BlameTown$Sharing", "found", "[I", true)
  | _ => ("BlameTown$Sharing", "least", "I", false)
def tyX5 : Nat → FieldType := fun k => match k with
  | 0 => .object "BlameTown$Facts"
  | 1 => .object "BlameTown$Standing"
  | 2 => .object "BlameTown$Court"
  | 3 => .array .int
  | 4 => .array .int
  | 5 => .array .int
  | 6 => .array .int
  | 7 => .array .int
  | 8 => .array .int
  | 9 => .array .int
  | 10 => .array .int
  | 11 => .array .int
  | 12 => .array .int
  | _ => .int
abbrev wsX50 : List Cond := u_ws RX5 TX5 14
theorem nmX5 : ∀ a, a < 14 → ∀ b, b < 14 → a ≠ b → (TX5 a).2.1 ≠ (TX5 b).2.1 := by decide +kernel
theorem tyX5_ok : ∀ k, k < 14 → parseFieldDescriptor (TX5 k).2.2.1 = some (tyX5 k) := by decide +kernel
abbrev cX5_init : ByteArray := prog_7_method_1_code
def yX5_init : MethodName := ⟨RX5, "<init>", "(LBlameTown$Facts;LBlameTown$Standing;LBlameTown$Court;)V"⟩
abbrev cX5_solve : ByteArray := prog_7_method_2_code
def yX5_solve : MethodName := ⟨RX5, "solve", "()V"⟩
abbrev cX5_lookAt : ByteArray := prog_7_method_3_code
def yX5_lookAt : MethodName := ⟨RX5, "lookAt", "(I)V"⟩
abbrev cX5_listSets : ByteArray := prog_7_method_4_code
def yX5_listSets : MethodName := ⟨RX5, "listSets", "(I)V"⟩
abbrev cX5_addSet : ByteArray := prog_7_method_5_code
def yX5_addSet : MethodName := ⟨RX5, "addSet", "(III)V"⟩
abbrev cX5_allTake : ByteArray := prog_7_method_6_code
def yX5_allTake : MethodName := ⟨RX5, "allTake", "(II)Z"⟩
abbrev cX5_takes : ByteArray := prog_7_method_7_code
def yX5_takes : MethodName := ⟨RX5, "takes", "(II)Z"⟩
abbrev cX5_search : ByteArray := prog_7_method_8_code
def yX5_search : MethodName := ⟨RX5, "search", "(II)V"⟩
abbrev cX5_pick : ByteArray := prog_7_method_9_code
def yX5_pick : MethodName := ⟨RX5, "pick", "(III)V"⟩
abbrev cX5_give : ByteArray := prog_7_method_10_code
def yX5_give : MethodName := ⟨RX5, "give", "(II)V"⟩
def RX6 : String := "BlameTown$Standing"
def TX6 : u_T := fun k => match k with
  | _ => ("BlameTown$Standing", "cells", "[I", true)
def tyX6 : Nat → FieldType := fun k => match k with
  | _ => .array .int
abbrev wsX60 : List Cond := u_ws RX6 TX6 1
theorem nmX6 : ∀ a, a < 1 → ∀ b, b < 1 → a ≠ b → (TX6 a).2.1 ≠ (TX6 b).2.1 := by decide +kernel
theorem tyX6_ok : ∀ k, k < 1 → parseFieldDescriptor (TX6 k).2.2.1 = some (tyX6 k) := by decide +kernel
abbrev cX6_init : ByteArray := prog_8_method_1_code
def yX6_init : MethodName := ⟨RX6, "<init>", "()V"⟩
abbrev cX6_begin : ByteArray := prog_8_method_2_code
def yX6_begin : MethodName := ⟨RX6, "begin", "(LBlameTown$Facts;)V"⟩
abbrev cX6_takeRows : ByteArray := prog_8_method_3_code
def yX6_takeRows : MethodName := ⟨RX6, "takeRows", "(LBlameTown$Facts;)V"⟩
abbrev cX6_placeOf : ByteArray := prog_8_method_4_code
def yX6_placeOf : MethodName := ⟨RX6, "placeOf", "(II)I"⟩
abbrev cX6_setPlace : ByteArray := prog_8_method_5_code
def yX6_setPlace : MethodName := ⟨RX6, "setPlace", "(III)V"⟩
abbrev cX6_wornOf : ByteArray := prog_8_method_6_code
def yX6_wornOf : MethodName := ⟨RX6, "wornOf", "(I)I"⟩
abbrev cX6_wear : ByteArray := prog_8_method_7_code
def yX6_wear : MethodName := ⟨RX6, "wear", "(II)V"⟩
abbrev cX6_blamedFor : ByteArray := prog_8_method_8_code
def yX6_blamedFor : MethodName := ⟨RX6, "blamedFor", "(I)I"⟩
abbrev cX6_setBlamed : ByteArray := prog_8_method_9_code
def yX6_setBlamed : MethodName := ⟨RX6, "setBlamed", "(II)V"⟩
abbrev cX6_spent : ByteArray := prog_8_method_10_code
def yX6_spent : MethodName := ⟨RX6, "spent", "()I"⟩
abbrev cX6_spend : ByteArray := prog_8_method_11_code
def yX6_spend : MethodName := ⟨RX6, "spend", "(I)V"⟩
abbrev cX6_days : ByteArray := prog_8_method_12_code
def yX6_days : MethodName := ⟨RX6, "days", "()I"⟩
abbrev cX6_countDay : ByteArray := prog_8_method_13_code
def yX6_countDay : MethodName := ⟨RX6, "countDay", "()V"⟩
def RX7 : String := "BlameTown$Telling"
def TX7 : u_T := fun k => match k with
  | 0 => ("BlameTown$Telling", "text", "[I", true)
  | 1 => ("BlameTown$Telling", "letters", "I", false)
  | 2 => ("BlameTown$Telling", "faultAt", "I", false)
  | 3 => ("BlameTown$Telling", "fault", "I", false)
  | 4 => ("BlameTown$Telling", "next", "I", false)
  | _ => ("BlameTown$Telling", "numberAt", "I", false)
def tyX7 : Nat → FieldType := fun k => match k with
  | 0 => .array .int
  | 1 => .int
  | 2 => .int
  | 3 => .int
  | 4 => .int
  | _ => .int
abbrev wsX70 : List Cond := u_ws RX7 TX7 6
theorem nmX7 : ∀ a, a < 6 → ∀ b, b < 6 → a ≠ b → (TX7 a).2.1 ≠ (TX7 b).2.1 := by decide +kernel
theorem tyX7_ok : ∀ k, k < 6 → parseFieldDescriptor (TX7 k).2.2.1 = some (tyX7 k) := by decide +kernel
abbrev cX7_init : ByteArray := prog_9_method_1_code
def yX7_init : MethodName := ⟨RX7, "<init>", "()V"⟩
abbrev cX7_add : ByteArray := prog_9_method_2_code
def yX7_add : MethodName := ⟨RX7, "add", "(I)I"⟩
abbrev cX7_readInto : ByteArray := prog_9_method_3_code
def yX7_readInto : MethodName := ⟨RX7, "readInto", "(LBlameTown$Facts;)I"⟩
abbrev cX7_readClause : ByteArray := prog_9_method_4_code
def yX7_readClause : MethodName := ⟨RX7, "readClause", "(LBlameTown$Facts;)V"⟩
abbrev cX7_readJury : ByteArray := prog_9_method_5_code
def yX7_readJury : MethodName := ⟨RX7, "readJury", "(LBlameTown$Facts;)V"⟩
abbrev cX7_readMan : ByteArray := prog_9_method_6_code
def yX7_readMan : MethodName := ⟨RX7, "readMan", "(LBlameTown$Facts;)V"⟩
abbrev cX7_readMishap : ByteArray := prog_9_method_7_code
def yX7_readMishap : MethodName := ⟨RX7, "readMishap", "(LBlameTown$Facts;)V"⟩
abbrev cX7_readNumber : ByteArray := prog_9_method_8_code
def yX7_readNumber : MethodName := ⟨RX7, "readNumber", "(II)I"⟩
abbrev cX7_readRow : ByteArray := prog_9_method_9_code
def yX7_readRow : MethodName := ⟨RX7, "readRow", "(LBlameTown$Facts;I)V"⟩
abbrev cX7_readEnd : ByteArray := prog_9_method_10_code
def yX7_readEnd : MethodName := ⟨RX7, "readEnd", "()V"⟩
abbrev cX7_skipBlanks : ByteArray := prog_9_method_11_code
def yX7_skipBlanks : MethodName := ⟨RX7, "skipBlanks", "()V"⟩
abbrev cX7_here : ByteArray := prog_9_method_12_code
def yX7_here : MethodName := ⟨RX7, "here", "()I"⟩
abbrev cX7_mark : ByteArray := prog_9_method_13_code
def yX7_mark : MethodName := ⟨RX7, "mark", "(II)V"⟩
def RX8 : String := "BlameTown"
def TX8 : u_T := fun k => match k with
  | 0 => ("BlameTown", "telling", "LBlameTown$Telling;", true)
  | 1 => ("BlameTown", "draft", "LBlameTown$Facts;", true)
  | 2 => ("BlameTown", "facts", "LBlameTown$Facts;", true)
  | 3 => ("BlameTown", "now", "LBlameTown$Standing;", true)
  | 4 => ("BlameTown", "court", "LBlameTown$Court;", true)
  | 5 => ("BlameTown", "sharing", "LBlameTown$Sharing;", true)
  | 6 => ("BlameTown", "past", "LBlameTown$Past;", true)
  | 7 => ("BlameTown", "papers", "LBlameTown$Papers;", true)
  | 8 => ("BlameTown", "firstImage", "LBlameTown$Image;", true)
  | 9 => ("BlameTown", "secondImage", "LBlameTown$Image;", true)
  | 10 => ("BlameTown", "faultAt", "I", false)
  | _ => ("BlameTown", "draws", "I", false)
def tyX8 : Nat → FieldType := fun k => match k with
  | 0 => .object "BlameTown$Telling"
  | 1 => .object "BlameTown$Facts"
  | 2 => .object "BlameTown$Facts"
  | 3 => .object "BlameTown$Standing"
  | 4 => .object "BlameTown$Court"
  | 5 => .object "BlameTown$Sharing"
  | 6 => .object "BlameTown$Past"
  | 7 => .object "BlameTown$Papers"
  | 8 => .object "BlameTown$Image"
  | 9 => .object "BlameTown$Image"
  | 10 => .int
  | _ => .int
abbrev wsX80 : List Cond := u_ws RX8 TX8 12
theorem nmX8 : ∀ a, a < 12 → ∀ b, b < 12 → a ≠ b → (TX8 a).2.1 ≠ (TX8 b).2.1 := by decide +kernel
theorem tyX8_ok : ∀ k, k < 12 → parseFieldDescriptor (TX8 k).2.2.1 = some (tyX8 k) := by decide +kernel
abbrev cX8_init : ByteArray := prog_1_method_1_code
def yX8_init : MethodName := ⟨RX8, "<init>", "()V"⟩
abbrev cX8_feed : ByteArray := prog_1_method_2_code
def yX8_feed : MethodName := ⟨RX8, "feed", "(I)I"⟩
abbrev cX8_town : ByteArray := prog_1_method_3_code
def yX8_town : MethodName := ⟨RX8, "town", "()I"⟩
abbrev cX8_fault : ByteArray := prog_1_method_4_code
def yX8_fault : MethodName := ⟨RX8, "fault", "()I"⟩
abbrev cX8_told : ByteArray := prog_1_method_5_code
def yX8_told : MethodName := ⟨RX8, "told", "(I)I"⟩
abbrev cX8_man : ByteArray := prog_1_method_6_code
def yX8_man : MethodName := ⟨RX8, "man", "(II)I"⟩
abbrev cX8_mishap : ByteArray := prog_1_method_7_code
def yX8_mishap : MethodName := ⟨RX8, "mishap", "(II)I"⟩
abbrev cX8_belief : ByteArray := prog_1_method_8_code
def yX8_belief : MethodName := ⟨RX8, "belief", "(II)I"⟩
abbrev cX8_blame : ByteArray := prog_1_method_9_code
def yX8_blame : MethodName := ⟨RX8, "blame", "(II)I"⟩
abbrev cX8_clear : ByteArray := prog_1_method_10_code
def yX8_clear : MethodName := ⟨RX8, "clear", "(II)I"⟩
abbrev cX8_walk : ByteArray := prog_1_method_11_code
def yX8_walk : MethodName := ⟨RX8, "walk", "(III)I"⟩
abbrev cX8_sunset : ByteArray := prog_1_method_12_code
def yX8_sunset : MethodName := ⟨RX8, "sunset", "()I"⟩
abbrev cX8_drift : ByteArray := prog_1_method_13_code
def yX8_drift : MethodName := ⟨RX8, "drift", "(I)I"⟩
abbrev cX8_undo : ByteArray := prog_1_method_14_code
def yX8_undo : MethodName := ⟨RX8, "undo", "(I)I"⟩
abbrev cX8_may : ByteArray := prog_1_method_15_code
def yX8_may : MethodName := ⟨RX8, "may", "(I)I"⟩
abbrev cX8_orphans : ByteArray := prog_1_method_16_code
def yX8_orphans : MethodName := ⟨RX8, "orphans", "()I"⟩
abbrev cX8_shared : ByteArray := prog_1_method_17_code
def yX8_shared : MethodName := ⟨RX8, "shared", "(I)I"⟩
abbrev cX8_cheapest : ByteArray := prog_1_method_18_code
def yX8_cheapest : MethodName := ⟨RX8, "cheapest", "(I)I"⟩
abbrev cX8_culprits : ByteArray := prog_1_method_19_code
def yX8_culprits : MethodName := ⟨RX8, "culprits", "(I)I"⟩
abbrev cX8_idle : ByteArray := prog_1_method_20_code
def yX8_idle : MethodName := ⟨RX8, "idle", "()I"⟩
abbrev cX8_nearer : ByteArray := prog_1_method_21_code
def yX8_nearer : MethodName := ⟨RX8, "nearer", "(III)I"⟩
abbrev cX8_chain : ByteArray := prog_1_method_22_code
def yX8_chain : MethodName := ⟨RX8, "chain", "(II)I"⟩
abbrev cX8_quiet : ByteArray := prog_1_method_23_code
def yX8_quiet : MethodName := ⟨RX8, "quiet", "(II)I"⟩
abbrev cX8_see : ByteArray := prog_1_method_24_code
def yX8_see : MethodName := ⟨RX8, "see", "(III)I"⟩
abbrev cX8_alibi : ByteArray := prog_1_method_25_code
def yX8_alibi : MethodName := ⟨RX8, "alibi", "(I)I"⟩
abbrev cX8_write : ByteArray := prog_1_method_26_code
def yX8_write : MethodName := ⟨RX8, "write", "(II)I"⟩
abbrev cX8_judge : ByteArray := prog_1_method_27_code
def yX8_judge : MethodName := ⟨RX8, "judge", "()I"⟩
abbrev cX8_tear : ByteArray := prog_1_method_28_code
def yX8_tear : MethodName := ⟨RX8, "tear", "()I"⟩
abbrev cX8_seed : ByteArray := prog_1_method_29_code
def yX8_seed : MethodName := ⟨RX8, "seed", "(I)I"⟩
abbrev cX8_keep : ByteArray := prog_1_method_30_code
def yX8_keep : MethodName := ⟨RX8, "keep", "(I)I"⟩
abbrev cX8_goBack : ByteArray := prog_1_method_31_code
def yX8_goBack : MethodName := ⟨RX8, "goBack", "(I)I"⟩
abbrev cX8_isMan : ByteArray := prog_1_method_32_code
def yX8_isMan : MethodName := ⟨RX8, "isMan", "(I)Z"⟩
abbrev cX8_isMishap : ByteArray := prog_1_method_33_code
def yX8_isMishap : MethodName := ⟨RX8, "isMishap", "(I)Z"⟩
abbrev cX8_imageOf : ByteArray := prog_1_method_34_code
def yX8_imageOf : MethodName := ⟨RX8, "imageOf", "(I)LBlameTown$Image;"⟩
abbrev cX8_putBlame : ByteArray := prog_1_method_35_code
def yX8_putBlame : MethodName := ⟨RX8, "putBlame", "(II)V"⟩
abbrev cX8_blameByDraws : ByteArray := prog_1_method_36_code
def yX8_blameByDraws : MethodName := ⟨RX8, "blameByDraws", "(I)V"⟩
abbrev cX8_draw : ByteArray := prog_1_method_37_code
def yX8_draw : MethodName := ⟨RX8, "draw", "(I)I"⟩
abbrev cX8_endDay : ByteArray := prog_1_method_38_code
def yX8_endDay : MethodName := ⟨RX8, "endDay", "()I"⟩
abbrev cX8_isHour : ByteArray := prog_1_method_39_code
def yX8_isHour : MethodName := ⟨RX8, "isHour", "(I)Z"⟩
abbrev cX8_isPlace : ByteArray := prog_1_method_40_code
def yX8_isPlace : MethodName := ⟨RX8, "isPlace", "(I)Z"⟩
abbrev cX8_isWithin : ByteArray := prog_1_method_41_code
def yX8_isWithin : MethodName := ⟨RX8, "isWithin", "(III)Z"⟩
abbrev cX8_isIn : ByteArray := prog_1_method_42_code
def yX8_isIn : MethodName := ⟨RX8, "isIn", "(II)Z"⟩
abbrev cX8_memberOf : ByteArray := prog_1_method_43_code
def yX8_memberOf : MethodName := ⟨RX8, "memberOf", "(II)I"⟩
abbrev cX8_at : ByteArray := prog_1_method_44_code
def yX8_at : MethodName := ⟨RX8, "at", "([II)I"⟩
abbrev cX8_put : ByteArray := prog_1_method_45_code
def yX8_put : MethodName := ⟨RX8, "put", "([III)V"⟩
abbrev cX8_copyRow : ByteArray := prog_1_method_46_code
def yX8_copyRow : MethodName := ⟨RX8, "copyRow", "([I[I)V"⟩
def RX9 : String := "BlameTownModel"
def TX9 : u_T := fun k => match k with
  | 0 => ("BlameTownModel", "text", "[I", true)
  | 1 => ("BlameTownModel", "letters", "I", false)
  | 2 => ("BlameTownModel", "faultAt", "I", false)
  | 3 => ("BlameTownModel", "isTown", "Z", false)
  | 4 => ("BlameTownModel", "jury", "I", false)
  | 5 => ("BlameTownModel", "mayor", "I", false)
  | 6 => ("BlameTownModel", "men", "I", false)
  | 7 => ("BlameTownModel", "mishaps", "I", false)
  | 8 => ("BlameTownModel", "man", "[I", true)
  | 9 => ("BlameTownModel", "rows", "[I", true)
  | 10 => ("BlameTownModel", "mishap", "[I", true)
  | 11 => ("BlameTownModel", "draftJury", "I", false)
  | 12 => ("BlameTownModel", "draftMayor", "I", false)
  | 13 => ("BlameTownModel", "draftMen", "I", false)
  | 14 => ("BlameTownModel", "draftMishaps", "I", false)
  | 15 => ("BlameTownModel", "draftMan", "[I", true)
  | 16 => ("BlameTownModel", "draftRows", "[I", true)
  | 17 => ("BlameTownModel", "draftMishap", "[I", true)
  | 18 => ("BlameTownModel", "now", "[I", true)
  | 19 => ("BlameTownModel", "past", "[I", true)
  | 20 => ("BlameTownModel", "deeds", "I", false)
  | 21 => ("BlameTownModel", "images", "[I", true)
  | 22 => ("BlameTownModel", "imageSeeds", "[I", true)
  | 23 => ("BlameTownModel", "kept", "[Z", true)
  | 24 => ("BlameTownModel", "seed", "I", false)
  | 25 => ("BlameTownModel", "seen", "[I", true)
  | 26 => ("BlameTownModel", "sights", "I", false)
  | 27 => ("BlameTownModel", "book", "[I", true)
  | 28 => ("BlameTownModel", "entries", "I", false)
  | 29 => ("BlameTownModel", "at", "I", false)
  | 30 => ("BlameTownModel", "wrong", "I", false)
  | 31 => ("BlameTownModel", "options", "[I", true)
  | 32 => ("BlameTownModel", "many", "[I", true)
  | 33 => ("BlameTownModel", "place", "[I", true)
  | 34 => ("BlameTownModel", "best", "[I", true)
  | _ => ("BlameTownModel", "least", "I", false)
def tyX9 : Nat → FieldType := fun k => match k with
  | 0 => .array .int
  | 1 => .int
  | 2 => .int
  | 3 => .boolean
  | 4 => .int
  | 5 => .int
  | 6 => .int
  | 7 => .int
  | 8 => .array .int
  | 9 => .array .int
  | 10 => .array .int
  | 11 => .int
  | 12 => .int
  | 13 => .int
  | 14 => .int
  | 15 => .array .int
  | 16 => .array .int
  | 17 => .array .int
  | 18 => .array .int
  | 19 => .array .int
  | 20 => .int
  | 21 => .array .int
  | 22 => .array .int
  | 23 => .array .boolean
  | 24 => .int
  | 25 => .array .int
  | 26 => .int
  | 27 => .array .int
  | 28 => .int
  | 29 => .int
  | 30 => .int
  | 31 => .array .int
  | 32 => .array .int
  | 33 => .array .int
  | 34 => .array .int
  | _ => .int
abbrev wsX90 : List Cond := u_ws RX9 TX9 36
theorem nmX9 : ∀ a, a < 36 → ∀ b, b < 36 → a ≠ b → (TX9 a).2.1 ≠ (TX9 b).2.1 := by decide +kernel
theorem tyX9_ok : ∀ k, k < 36 → parseFieldDescriptor (TX9 k).2.2.1 = some (tyX9 k) := by decide +kernel
abbrev cX9_init : ByteArray := prog_11_method_1_code
def yX9_init : MethodName := ⟨RX9, "<init>", "()V"⟩
abbrev cX9_in : ByteArray := prog_11_method_3_code
def yX9_in : MethodName := ⟨RX9, "in", "(III)Z"⟩
abbrev cX9_has : ByteArray := prog_11_method_4_code
def yX9_has : MethodName := ⟨RX9, "has", "(II)Z"⟩
abbrev cX9_ones : ByteArray := prog_11_method_5_code
def yX9_ones : MethodName := ⟨RX9, "ones", "(I)I"⟩
abbrev cX9_off : ByteArray := prog_11_method_6_code
def yX9_off : MethodName := ⟨RX9, "off", "(II)I"⟩
abbrev cX9_feed : ByteArray := prog_11_method_7_code
def yX9_feed : MethodName := ⟨RX9, "feed", "(I)I"⟩
abbrev cX9_look : ByteArray := prog_11_method_8_code
def yX9_look : MethodName := ⟨RX9, "look", "()I"⟩
abbrev cX9_skips : ByteArray := prog_11_method_9_code
def yX9_skips : MethodName := ⟨RX9, "skips", "()V"⟩
abbrev cX9_fails : ByteArray := prog_11_method_10_code
def yX9_fails : MethodName := ⟨RX9, "fails", "(I)V"⟩
abbrev cX9_word : ByteArray := prog_11_method_11_code
def yX9_word : MethodName := ⟨RX9, "word", "(I)V"⟩
abbrev cX9_number : ByteArray := prog_11_method_12_code
def yX9_number : MethodName := ⟨RX9, "number", "(II)I"⟩
abbrev cX9_readsMan : ByteArray := prog_11_method_13_code
def yX9_readsMan : MethodName := ⟨RX9, "readsMan", "()V"⟩
abbrev cX9_readsMishap : ByteArray := prog_11_method_14_code
def yX9_readsMishap : MethodName := ⟨RX9, "readsMishap", "()V"⟩
abbrev cX9_reads : ByteArray := prog_11_method_15_code
def yX9_reads : MethodName := ⟨RX9, "reads", "()V"⟩
abbrev cX9_skipsIfWell : ByteArray := prog_11_method_16_code
def yX9_skipsIfWell : MethodName := ⟨RX9, "skipsIfWell", "()V"⟩
abbrev cX9_takes : ByteArray := prog_11_method_17_code
def yX9_takes : MethodName := ⟨RX9, "takes", "()V"⟩
abbrev cX9_town : ByteArray := prog_11_method_18_code
def yX9_town : MethodName := ⟨RX9, "town", "()I"⟩
abbrev cX9_fault : ByteArray := prog_11_method_19_code
def yX9_fault : MethodName := ⟨RX9, "fault", "()I"⟩
abbrev cX9_isMan : ByteArray := prog_11_method_20_code
def yX9_isMan : MethodName := ⟨RX9, "isMan", "(I)Z"⟩
abbrev cX9_isMishap : ByteArray := prog_11_method_21_code
def yX9_isMishap : MethodName := ⟨RX9, "isMishap", "(I)Z"⟩
abbrev cX9_blamedFor : ByteArray := prog_11_method_22_code
def yX9_blamedFor : MethodName := ⟨RX9, "blamedFor", "(I)I"⟩
abbrev cX9_free : ByteArray := prog_11_method_23_code
def yX9_free : MethodName := ⟨RX9, "free", "(I)I"⟩
abbrev cX9_allFree : ByteArray := prog_11_method_24_code
def yX9_allFree : MethodName := ⟨RX9, "allFree", "()I"⟩
abbrev cX9_told : ByteArray := prog_11_method_25_code
def yX9_told : MethodName := ⟨RX9, "told", "(I)I"⟩
abbrev cX9_blamesOf : ByteArray := prog_11_method_26_code
def yX9_blamesOf : MethodName := ⟨RX9, "blamesOf", "(I)I"⟩
abbrev cX9_man : ByteArray := prog_11_method_27_code
def yX9_man : MethodName := ⟨RX9, "man", "(II)I"⟩
abbrev cX9_mishap : ByteArray := prog_11_method_28_code
def yX9_mishap : MethodName := ⟨RX9, "mishap", "(II)I"⟩
abbrev cX9_whereIs : ByteArray := prog_11_method_29_code
def yX9_whereIs : MethodName := ⟨RX9, "whereIs", "(II)I"⟩
abbrev cX9_isNear : ByteArray := prog_11_method_30_code
def yX9_isNear : MethodName := ⟨RX9, "isNear", "(II)Z"⟩
abbrev cX9_can : ByteArray := prog_11_method_31_code
def yX9_can : MethodName := ⟨RX9, "can", "(II)Z"⟩
abbrev cX9_beliefAt : ByteArray := prog_11_method_32_code
def yX9_beliefAt : MethodName := ⟨RX9, "beliefAt", "(IIII)I"⟩
abbrev cX9_fits : ByteArray := prog_11_method_33_code
def yX9_fits : MethodName := ⟨RX9, "fits", "(III)Z"⟩
abbrev cX9_belief : ByteArray := prog_11_method_34_code
def yX9_belief : MethodName := ⟨RX9, "belief", "(II)I"⟩
abbrev cX9_areFar : ByteArray := prog_11_method_35_code
def yX9_areFar : MethodName := ⟨RX9, "areFar", "(II)Z"⟩
abbrev cX9_mayBe : ByteArray := prog_11_method_36_code
def yX9_mayBe : MethodName := ⟨RX9, "mayBe", "(II)Z"⟩
abbrev cX9_mayFor : ByteArray := prog_11_method_37_code
def yX9_mayFor : MethodName := ⟨RX9, "mayFor", "(I)I"⟩
abbrev cX9_copies : ByteArray := prog_11_method_38_code
def yX9_copies : MethodName := ⟨RX9, "copies", "([II[II)V"⟩
abbrev cX9_notes : ByteArray := prog_11_method_39_code
def yX9_notes : MethodName := ⟨RX9, "notes", "()V"⟩
abbrev cX9_blames : ByteArray := prog_11_method_40_code
def yX9_blames : MethodName := ⟨RX9, "blames", "(II)V"⟩
abbrev cX9_blame : ByteArray := prog_11_method_41_code
def yX9_blame : MethodName := ⟨RX9, "blame", "(II)I"⟩
abbrev cX9_clear : ByteArray := prog_11_method_42_code
def yX9_clear : MethodName := ⟨RX9, "clear", "(II)I"⟩
abbrev cX9_walk : ByteArray := prog_11_method_43_code
def yX9_walk : MethodName := ⟨RX9, "walk", "(III)I"⟩
abbrev cX9_sets : ByteArray := prog_11_method_44_code
def yX9_sets : MethodName := ⟨RX9, "sets", "()I"⟩
abbrev cX9_sunset : ByteArray := prog_11_method_45_code
def yX9_sunset : MethodName := ⟨RX9, "sunset", "()I"⟩
abbrev cX9_draw : ByteArray := prog_11_method_46_code
def yX9_draw : MethodName := ⟨RX9, "draw", "(I)I"⟩
abbrev cX9_member : ByteArray := prog_11_method_47_code
def yX9_member : MethodName := ⟨RX9, "member", "(II)I"⟩
abbrev cX9_drift : ByteArray := prog_11_method_48_code
def yX9_drift : MethodName := ⟨RX9, "drift", "(I)I"⟩
abbrev cX9_undo : ByteArray := prog_11_method_49_code
def yX9_undo : MethodName := ⟨RX9, "undo", "(I)I"⟩
abbrev cX9_may : ByteArray := prog_11_method_50_code
def yX9_may : MethodName := ⟨RX9, "may", "(I)I"⟩
abbrev cX9_orphans : ByteArray := prog_11_method_51_code
def yX9_orphans : MethodName := ⟨RX9, "orphans", "()I"⟩
abbrev cX9_canBe : ByteArray := prog_11_method_52_code
def yX9_canBe : MethodName := ⟨RX9, "canBe", "()Z"⟩
abbrev cX9_costs : ByteArray := prog_11_method_53_code
def yX9_costs : MethodName := ⟨RX9, "costs", "()I"⟩
abbrev cX9_counts : ByteArray := prog_11_method_54_code
def yX9_counts : MethodName := ⟨RX9, "counts", "()Z"⟩
abbrev cX9_shares : ByteArray := prog_11_method_55_code
def yX9_shares : MethodName := ⟨RX9, "shares", "()V"⟩
abbrev cX9_shared : ByteArray := prog_11_method_56_code
def yX9_shared : MethodName := ⟨RX9, "shared", "(I)I"⟩
abbrev cX9_cheapest : ByteArray := prog_11_method_57_code
def yX9_cheapest : MethodName := ⟨RX9, "cheapest", "(I)I"⟩
abbrev cX9_culprits : ByteArray := prog_11_method_58_code
def yX9_culprits : MethodName := ⟨RX9, "culprits", "(I)I"⟩
abbrev cX9_idle : ByteArray := prog_11_method_59_code
def yX9_idle : MethodName := ⟨RX9, "idle", "()I"⟩
abbrev cX9_nearer : ByteArray := prog_11_method_60_code
def yX9_nearer : MethodName := ⟨RX9, "nearer", "(III)I"⟩
abbrev cX9_root : ByteArray := prog_11_method_61_code
def yX9_root : MethodName := ⟨RX9, "root", "(I)I"⟩
abbrev cX9_chain : ByteArray := prog_11_method_62_code
def yX9_chain : MethodName := ⟨RX9, "chain", "(II)I"⟩
abbrev cX9_quiet : ByteArray := prog_11_method_63_code
def yX9_quiet : MethodName := ⟨RX9, "quiet", "(II)I"⟩
abbrev cX9_see : ByteArray := prog_11_method_64_code
def yX9_see : MethodName := ⟨RX9, "see", "(III)I"⟩
abbrev cX9_alibi : ByteArray := prog_11_method_65_code
def yX9_alibi : MethodName := ⟨RX9, "alibi", "(I)I"⟩
abbrev cX9_write : ByteArray := prog_11_method_66_code
def yX9_write : MethodName := ⟨RX9, "write", "(II)I"⟩
abbrev cX9_judge : ByteArray := prog_11_method_67_code
def yX9_judge : MethodName := ⟨RX9, "judge", "()I"⟩
abbrev cX9_tear : ByteArray := prog_11_method_68_code
def yX9_tear : MethodName := ⟨RX9, "tear", "()I"⟩
abbrev cX9_seed : ByteArray := prog_11_method_69_code
def yX9_seed : MethodName := ⟨RX9, "seed", "(I)I"⟩
abbrev cX9_keep : ByteArray := prog_11_method_70_code
def yX9_keep : MethodName := ⟨RX9, "keep", "(I)I"⟩
abbrev cX9_goBack : ByteArray := prog_11_method_71_code
def yX9_goBack : MethodName := ⟨RX9, "goBack", "(I)I"⟩
def RJ6 : String := "java/lang/Integer"
abbrev cJ6_bitCount_0f7a4 : ByteArray := prog_12_method_49_code
def yJ6_bitCount_0f7a4 : MethodName := ⟨RJ6, "bitCount", "(I)I"⟩
def RJ9 : String := "java/lang/Math"
abbrev cJ9_floorMod_7cf53 : ByteArray := prog_13_method_50_code
def yJ9_floorMod_7cf53 : MethodName := ⟨RJ9, "floorMod", "(II)I"⟩
abbrev cJ9_abs_0f7a4 : ByteArray := prog_13_method_59_code
def yJ9_abs_0f7a4 : MethodName := ⟨RJ9, "abs", "(I)I"⟩
abbrev cJ9_max_7cf53 : ByteArray := prog_13_method_65_code
def yJ9_max_7cf53 : MethodName := ⟨RJ9, "max", "(II)I"⟩
abbrev cJ9_min_7cf53 : ByteArray := prog_13_method_69_code
def yJ9_min_7cf53 : MethodName := ⟨RJ9, "min", "(II)I"⟩
def RL : String := "BlameTownLaw"
def yL_law : MethodName := ⟨RL, "law", "([I)Z"⟩
abbrev zCl : List vw_C := [(RX0, TX0, 2), (RX1, TX1, 15), (RX2, TX2, 3), (RX3, TX3, 7), (RX4, TX4, 3), (RX5, TX5, 14), (RX6, TX6, 1), (RX7, TX7, 6), (RX8, TX8, 12), (RX9, TX9, 36)]
end
section
/-! The heap as a list of cells: a reference is a place in the list; 'ad' gives each place its address. Q: what is to hold of the answer and the list behind it. -/
def zT : List Jvm.Cond := lw_tbl.filter goodWord
def zIsN : Jvm.Cond → Bool
  | .methodLinkNest .. => true
  | _ => false
def zN : List Jvm.Cond := lw_tbl.filter zIsN
abbrev zG : Type := MethodName × ByteArray × Nat × Option FieldType × Nat × Nat
def zCd (g : zG) : Jvm.Cond := .code g.1 g.2.1 g.2.2.1 g.2.2.2.1
def zWs (g : zG) : List Jvm.Cond := zCd g :: zT
def zRm (g : zG) (d : Nat) : Room := { frames := d, cells := g.2.2.2.2.1, slots := g.2.2.2.2.2, locals := 40 * d }
theorem zT_good {w : Jvm.Cond} (h : w ∈ zT) : w ∈ lw_tbl ∧ goodWord w = true := List.mem_filter.mp h
theorem zT_app {g : zG} {ws : List Jvm.Cond} (h : ∀ w ∈ ws, w ∈ zT) : GoodIn (zWs g) ws := fun w hw => ⟨List.mem_cons_of_mem _ (h w hw), good_of_word (zT_good (h w hw)).2⟩
theorem zWs_in {g : zG} (h : zCd g ∈ zT) : ∀ w ∈ zWs g, w ∈ zT := fun w hw => by
  rcases List.mem_cons.mp hw with rfl | h2
  · exact h
  · exact h2
-- values, cells, worlds
def zRe (ad : Nat → Nat) : Value → Value
  | .ref k => .ref (ad k)
  | v => v
theorem zRe_cat (ad : Nat → Nat) (v : Value) : (zRe ad v).category = v.category := by cases v <;> rfl
def zE (cs : ClassId × ClassId × ClassId) (ad : Nat → Nat) : va_E → va_E
  | .inl (t, n, .inl f) => .inl (bif Nat.beq t 0 then cs.1 else cs.2.1, n, .inl f)
  | .inl (_, n, .inr (.inr (.inr (.inr f)))) => .inl (cs.2.2, n, .inr (.inr (.inr (.inr (fun j => if j < n then (f j).map ad else none)))))
  | .inl (_, x) => .inl (cs.1, x)
  | .inr (ci, fs) => .inr (ci, fs.map (zRe ad))
def zW (cs : ClassId × ClassId × ClassId) (ad : Nat → Nat) (σ : List va_E) : va_W := σ.mapIdx (fun k e => (ad k, zE cs ad e))
theorem zW_get {cs : ClassId × ClassId × ClassId} {ad : Nat → Nat} {σ : List va_E} {k : Nat} {e : va_E} (h : σ[k]? = some e) : (zW cs ad σ)[k]? = some (ad k, zE cs ad e) := by
  simp [zW, List.getElem?_mapIdx, h]
theorem zW_set {cs : ClassId × ClassId × ClassId} {ad : Nat → Nat} {σ : List va_E} {k : Nat} {e : va_E} : zW cs ad (σ.set k e) = (zW cs ad σ).set k (ad k, zE cs ad e) := by
  apply List.ext_getElem?
  intro j
  simp only [zW, List.getElem?_mapIdx, List.getElem?_set, List.length_mapIdx]
  by_cases h : k = j
  · subst h
    by_cases h2 : k < σ.length <;> simp [h2]
  · simp [h]
theorem zW_push {cs : ClassId × ClassId × ClassId} {ad : Nat → Nat} {σ : List va_E} {e : va_E} : zW cs ad (σ ++ [e]) = zW cs ad σ ++ [(ad σ.length, zE cs ad e)] := by
  simp [zW, List.mapIdx_append]
-- references below a bound
def zBV (n : Nat) : Value → Bool
  | .ref k => Nat.blt k n
  | _ => true
def zBL (n : Nat) : List Value → Bool
  | [] => true
  | v :: r => zBV n v && zBL n r
def zBO (n : Nat) : List (Option Value) → Bool
  | [] => true
  | some v :: r => zBV n v && zBO n r
  | none :: r => zBO n r
def zBF (n : Nat) (f : Nat → Option Nat) : Nat → Bool
  | 0 => true
  | m + 1 => (match f m with | some k => Nat.blt k n | none => true) && zBF n f m
def zBE (n : Nat) : va_E → Bool
  | .inr (_, fs) => zBL n fs
  | .inl (_, m, .inr (.inr (.inr (.inr f)))) => zBF n f m
  | _ => true
def zBS (n : Nat) : List va_E → Bool
  | [] => true
  | e :: r => zBE n e && zBS n r
theorem zBV_re {ad ad' : Nat → Nat} {n : Nat} (hk : ∀ k, k < n → ad' k = ad k) {v : Value} (h : zBV n v = true) : zRe ad' v = zRe ad v := by
  cases v <;> first | rfl | (rename_i k; exact congrArg Value.ref (hk k (by simpa [zBV] using h)))
theorem zBL_re {ad ad' : Nat → Nat} {n : Nat} (hk : ∀ k, k < n → ad' k = ad k) : ∀ {l : List Value}, zBL n l = true → l.map (zRe ad') = l.map (zRe ad)
  | [], _ => rfl
  | v :: r, h => by
    have h2 : zBV n v = true ∧ zBL n r = true := by simpa [zBL] using h
    rw [List.map_cons, List.map_cons, zBV_re hk h2.1, zBL_re hk h2.2]
theorem zBF_re {ad ad' : Nat → Nat} {n : Nat} (hk : ∀ k, k < n → ad' k = ad k) {f : Nat → Option Nat} : ∀ {m : Nat}, zBF n f m = true → ∀ j, j < m → (f j).map ad' = (f j).map ad
  | 0, _ => fun j hj => absurd hj (Nat.not_lt_zero j)
  | m + 1, h => fun j hj => by
    have h2 : (match f m with | some k => Nat.blt k n | none => true) = true ∧ zBF n f m = true := by
      unfold zBF at h
      exact Bool.and_eq_true_iff.mp h
    by_cases e : j = m
    · subst e
      cases hf : f j with
      | none => rfl
      | some k =>
        have h3 := h2.1
        rw [hf] at h3
        exact congrArg some (hk k (by simpa using h3))
    · exact zBF_re hk h2.2 j (by omega)
theorem zBE_re {cs : ClassId × ClassId × ClassId} {ad ad' : Nat → Nat} {n : Nat} (hk : ∀ k, k < n → ad' k = ad k) {e : va_E} (h : zBE n e = true) : zE cs ad' e = zE cs ad e := by
  rcases e with ⟨t, m, f | f | f | f | f⟩ | ⟨ci, fs⟩
  · rfl
  · rfl
  · rfl
  · rfl
  · have h2 := zBF_re hk (f := f) (m := m) h
    have h3 : (fun j => if j < m then (f j).map ad' else none) = (fun j => if j < m then (f j).map ad else none) := funext fun j => by
      by_cases hj : j < m
      · simp [hj, h2 j hj]
      · simp [hj]
    simp only [zE]
    rw [h3]
  · simp only [zE]
    rw [zBL_re hk h]
theorem zBS_re {cs : ClassId × ClassId × ClassId} {ad ad' : Nat → Nat} {n : Nat} (hk : ∀ k, k < n → ad' k = ad k) {σ : List va_E} (hl : σ.length ≤ n) (h : zBS n σ = true) : zW cs ad' σ = zW cs ad σ := by
  have key : ∀ (σ : List va_E), zBS n σ = true → ∀ e ∈ σ, zE cs ad' e = zE cs ad e := by
    intro σ
    induction σ with
    | nil => intro _ e he; cases he
    | cons a r ih =>
      intro h e he
      have h2 : zBE n a = true ∧ zBS n r = true := by simpa [zBS] using h
      rcases List.mem_cons.mp he with rfl | he
      · exact zBE_re hk h2.1
      · exact ih h2.2 e he
  apply List.ext_getElem?
  intro j
  simp only [zW, List.getElem?_mapIdx]
  cases hj : σ[j]? with
  | none => rfl
  | some e =>
    have hlt : j < σ.length := (List.getElem?_eq_some_iff.mp hj).1
    simp only [Option.map_some]
    rw [hk j (by omega), key σ h e (List.mem_of_getElem? hj)]
-- what the tables say all along
def zAO (U : State) : Prop := (Jvm.Cond.arrayOver (.array .int)).before #[] U = true
theorem zAO_moved {u U : State} (hvm : u.vm.Alike U.vm) (h : zAO u) : zAO U := by
  obtain ⟨comp, c, k, h1, h2, h3, h4, h5⟩ := arrayOverA_spec h
  obtain ⟨k', hk', he⟩ := hvm.2.2 _ _ h3
  have hi : (U.vm.classes.findIdx? fun (x : Class) => match x.kind with | .array component _ => component == comp | _ => false) = some c := by
    have e1 := va_idx_bare U.vm comp
    have e2 := va_idx_bare u.vm comp
    have e3 : u.vm.bare = U.vm.bare := by first | exact hvm.bare_eq | exact hvm.bare_eq.symm
    rw [e3] at e2
    exact e1.symm.trans (e2.trans h2)
  have hkind : k'.kind = .array comp (.array .int) := by rw [he]; exact h4
  have f1 : U.vm.findClass (FieldType.array .int).toString = some comp := by rw [hvm.findClass]; exact h1
  have f2 : U.vm.findClass ("[" ++ (FieldType.array .int).toString) = some c := by rw [hvm.findClass]; exact h5
  unfold zAO Jvm.Cond.before Jvm.Cond.holds
  simp only [Jvm.Cond.value]
  rw [f1, Option.bind_some]
  refine (congrArg (fun o : Option Nat => (o.bind (fun c => (U.vm.classes[c]?).map fun (k : Class) => match k.kind with | .array _ ty => decide (ty = FieldType.array .int) && decide (U.vm.findClass ("[" ++ (FieldType.array .int).toString) = some c) | _ => false) == some true)) hi).trans ?_
  simp [hk', hkind, f2]
def zTy (cs : ClassId × ClassId × ClassId) : List (ClassId × FieldType) := [(cs.1, .int), (cs.2.1, .boolean), (cs.2.2, .array .int)]
def zK (cs : ClassId × ClassId × ClassId) (D : va_G) (U : State) : Prop := va_K D zCl (zTy cs) U ∧ (∀ w ∈ zN, va_Nw w U) ∧ zAO U
theorem zK_warm {cs : ClassId × ClassId × ClassId} {D : va_G} {u U : State} (hW : u.WarmedH U.vm) (h : zK cs D u) : zK cs D U := by
  refine ⟨va_K.moved hW.alike h.1, fun w hw => ?_, zAO_moved hW.alike h.2.2⟩
  have h1 := h.2.1 w hw
  have h2 : zIsN w = true := (List.mem_filter.mp hw).2
  cases w <;> first | exact va_Nw.warmM hW h1 | (exact absurd h2 (by simp [zIsN]))
theorem zK_same {cs : ClassId × ClassId × ClassId} {D : va_G} {u U : State} (hv : u.vm = U.vm) (h : zK cs D u) : zK cs D U := by
  have ha : u.vm.Alike U.vm := hv ▸ Vm.Alike.refl u.vm
  refine ⟨va_K.moved ha h.1, fun w hw => ?_, zAO_moved ha h.2.2⟩
  have h2 : zIsN w = true := (List.mem_filter.mp hw).2
  exact va_Nw.same (by cases w <;> first | rfl | (exact absurd h2 (by simp [zIsN]))) hv (h.2.1 w hw)
-- locals
def zGet : List (Option Value) → Nat → Option Value
  | [], _ => none
  | a :: _, 0 => a
  | _ :: r, k + 1 => zGet r k
def zClr (i : Nat) (a : Option Value) : Option Value := match i with
  | 0 => match a with
    | some (.long _) => none
    | some (.double _) => none
    | a => a
  | _ + 1 => a
def zPut : List (Option Value) → Nat → Value → List (Option Value)
  | [], _, _ => []
  | _ :: r, 0, v => some v :: r
  | a :: r, i + 1, v => zClr i a :: zPut r i v
def zDel : List (Option Value) → Nat → List (Option Value)
  | [], _ => []
  | _ :: r, 0 => none :: r
  | a :: r, i + 1 => a :: zDel r i
theorem zClr_eq : ∀ {i : Nat} {a : Option Value} {w : Value}, zClr i a = some w → a = some w ∧ ¬ (i = 0 ∧ w.category = 2)
  | _ + 1, _, _, h => ⟨h, fun q => by have := q.1; omega⟩
  | 0, none, _, h => by cases (show (none : Option Value) = some _ from h)
  | 0, some (.long _), _, h => by cases (show (none : Option Value) = some _ from h)
  | 0, some (.double _), _, h => by cases (show (none : Option Value) = some _ from h)
  | 0, some (.int x), w, h => by cases (show some (Value.int x) = some w from h); exact ⟨rfl, by simp [Value.category]⟩
  | 0, some (.float x), w, h => by cases (show some (Value.float x) = some w from h); exact ⟨rfl, by simp [Value.category]⟩
  | 0, some .null, w, h => by cases (show some Value.null = some w from h); exact ⟨rfl, by simp [Value.category]⟩
  | 0, some (.ref x), w, h => by cases (show some (Value.ref x) = some w from h); exact ⟨rfl, by simp [Value.category]⟩
  | 0, some (.retAddr x), w, h => by cases (show some (Value.retAddr x) = some w from h); exact ⟨rfl, by simp [Value.category]⟩
theorem zPut_get : ∀ {ls : List (Option Value)} {i k : Nat} {v w : Value}, zGet (zPut ls i v) k = some w → (k = i ∧ w = v) ∨ (k ≠ i ∧ zGet ls k = some w ∧ ¬ (k + 1 = i ∧ w.category = 2))
  | [], i, k, v, w, h => by cases h
  | a :: r, 0, 0, v, w, h => by cases h; exact Or.inl ⟨rfl, rfl⟩
  | a :: r, 0, k + 1, v, w, h => Or.inr ⟨by omega, h, fun q => by have := q.1; omega⟩
  | a :: r, i + 1, 0, v, w, h => by
    obtain ⟨h1, h2⟩ := zClr_eq (i := i) (a := a) h
    exact Or.inr ⟨by omega, h1, fun q => h2 ⟨by omega, q.2⟩⟩
  | a :: r, i + 1, k + 1, v, w, h => by
    rcases zPut_get (ls := r) (i := i) (k := k) (v := v) (w := w) h with ⟨h1, h2⟩ | ⟨h1, h2, h3⟩
    · exact Or.inl ⟨by omega, h2⟩
    · exact Or.inr ⟨by omega, h2, fun q => h3 ⟨by omega, q.2⟩⟩
theorem zDel_get : ∀ {ls : List (Option Value)} {i k : Nat} {w : Value}, zGet (zDel ls i) k = some w → k ≠ i ∧ zGet ls k = some w
  | [], i, k, w, h => by cases h
  | a :: r, 0, 0, w, h => by cases h
  | a :: r, 0, k + 1, w, h => ⟨by omega, h⟩
  | a :: r, i + 1, 0, w, h => ⟨by omega, h⟩
  | a :: r, i + 1, k + 1, w, h => by
    obtain ⟨h1, h2⟩ := zDel_get (ls := r) (i := i) (k := k) (w := w) h
    exact ⟨by omega, h2⟩
def zLoc (ad : Nat → Nat) (ls : List (Option Value)) (lr : Array Slot) (nL : Nat) : Prop := lr.size = nL ∧ lv_wf lr ∧ ∀ (k : Nat) (v : Value), zGet ls k = some v → lr[k]? = some (.val (zRe ad v))
/-- the listed locals, as the kit lists them -/
def zLv (ad : Nat → Nat) : Nat → List (Option Value) → List (Nat × Value)
  | _, [] => []
  | i, some v :: r => (i, zRe ad v) :: zLv ad (i + 1) r
  | i, none :: r => zLv ad (i + 1) r
theorem zLv_mem {ad : Nat → Nat} : ∀ {ls : List (Option Value)} {i k : Nat} {v : Value}, zGet ls k = some v → (i + k, zRe ad v) ∈ zLv ad i ls
  | [], i, k, v, h => by cases h
  | some a :: r, i, 0, v, h => by cases h; exact List.mem_cons_self
  | none :: r, i, 0, v, h => by cases h
  | some a :: r, i, k + 1, v, h => by
    have := zLv_mem (ad := ad) (ls := r) (i := i + 1) (k := k) (v := v) h
    rw [show i + (k + 1) = i + 1 + k by omega]
    exact List.mem_cons_of_mem _ this
  | none :: r, i, k + 1, v, h => by
    have := zLv_mem (ad := ad) (ls := r) (i := i + 1) (k := k) (v := v) h
    rw [show i + (k + 1) = i + 1 + k by omega]
    exact this
theorem zLv_of {ad : Nat → Nat} : ∀ {ls : List (Option Value)} {i : Nat} {q : Nat × Value}, q ∈ zLv ad i ls → ∃ k v, q = (i + k, zRe ad v) ∧ zGet ls k = some v
  | [], i, q, h => by cases h
  | some a :: r, i, q, h => by
    rcases List.mem_cons.mp h with rfl | h
    · exact ⟨0, a, rfl, rfl⟩
    · obtain ⟨k, v, rfl, h2⟩ := zLv_of (ls := r) h
      exact ⟨k + 1, v, by rw [show i + (k + 1) = i + 1 + k by omega], h2⟩
  | none :: r, i, q, h => by
    obtain ⟨k, v, rfl, h2⟩ := zLv_of (ls := r) h
    exact ⟨k + 1, v, by rw [show i + (k + 1) = i + 1 + k by omega], h2⟩
theorem zLoc_has {ad : Nat → Nat} {ls : List (Option Value)} {lr : Array Slot} {nL : Nat} (h : zLoc ad ls lr nL) : lv_has lr nL (zLv ad 0 ls) := by
  refine ⟨h.1, h.2.1, fun q hq => ?_⟩
  obtain ⟨k, v, rfl, h2⟩ := zLv_of hq
  rw [Nat.zero_add]
  exact h.2.2 k v h2
theorem zLoc_put1 {ad : Nat → Nat} {ls : List (Option Value)} {lr' : Array Slot} {nL i : Nat} {v : Value} (h : lv_has lr' nL ((i, zRe ad v) :: (zLv ad 0 ls).filter (fun q => !(q.1 == i) && !(q.1 + 1 == i && q.2.category == 2)))) : zLoc ad (zPut ls i v) lr' nL := by
  refine ⟨h.1, h.2.1, fun k w hw => ?_⟩
  rcases zPut_get hw with ⟨rfl, rfl⟩ | ⟨h1, h2, h3⟩
  · exact h.2.2 (k, zRe ad w) List.mem_cons_self
  · refine h.2.2 (k, zRe ad w) (List.mem_cons_of_mem _ (List.mem_filter.mpr ⟨?_, ?_⟩))
    · have := zLv_mem (ad := ad) (i := 0) h2
      rwa [Nat.zero_add] at this
    · simp only [zRe_cat]
      by_cases e : k + 1 = i
      · have : w.category ≠ 2 := fun q => h3 ⟨e, q⟩
        simp [h1, this]
      · simp [h1, e]
theorem zLoc_put2 {ad : Nat → Nat} {ls : List (Option Value)} {lr' : Array Slot} {nL i : Nat} {v : Value} (h : lv_has lr' nL ((i, zRe ad v) :: (zLv ad 0 ls).filter (fun q => !(q.1 == i) && (!(q.1 == i + 1) && !(q.1 + 1 == i && q.2.category == 2))))) : zLoc ad (zDel (zPut ls i v) (i + 1)) lr' nL := by
  refine ⟨h.1, h.2.1, fun k w hw => ?_⟩
  obtain ⟨h0, hw⟩ := zDel_get hw
  rcases zPut_get hw with ⟨rfl, rfl⟩ | ⟨h1, h2, h3⟩
  · exact h.2.2 (k, zRe ad w) List.mem_cons_self
  · refine h.2.2 (k, zRe ad w) (List.mem_cons_of_mem _ (List.mem_filter.mpr ⟨?_, ?_⟩))
    · have := zLv_mem (ad := ad) (i := 0) h2
      rwa [Nat.zero_add] at this
    · simp only [zRe_cat]
      by_cases e : k + 1 = i
      · have : w.category ≠ 2 := fun q => h3 ⟨e, q⟩
        simp [h1, h0, this]
      · simp [h1, h0, e]
theorem zLoc_ad {ad ad' : Nat → Nat} {n : Nat} (hk : ∀ k, k < n → ad' k = ad k) {ls : List (Option Value)} {lr : Array Slot} {nL : Nat} (hb : zBO n ls = true) (h : zLoc ad ls lr nL) : zLoc ad' ls lr nL := by
  refine ⟨h.1, h.2.1, fun k v hv => ?_⟩
  have key : ∀ (ls : List (Option Value)) (k : Nat), zBO n ls = true → zGet ls k = some v → zBV n v = true := by
    intro ls
    induction ls with
    | nil => intro k _ h; cases h
    | cons a r ih =>
      intro k hb hg
      cases a with
      | none =>
        cases k with
        | zero => cases hg
        | succ k => exact ih k hb hg
      | some x =>
        have h2 : zBV n x = true ∧ zBO n r = true := by simpa [zBO] using hb
        cases k with
        | zero => cases hg; exact h2.1
        | succ k => exact ih k h2.2 hg
  rw [zBV_re hk (key ls k hb hv)]
  exact h.2.2 k v hv
-- the judgement
def zCtx (g : zG) (p : Program) (s : State) (m : MethodId) (args : Array Value) (meth : Method) (c : Code) (cs : ClassId × ClassId × ClassId) (D : va_G) (A : Nat → Prop) : Prop :=
  p.tables.exec = Jvm.exec ∧ c.code = g.2.1 ∧ c.maxLocals = g.2.2.1 ∧ meth.sig.returnType = g.2.2.2.1 ∧ meth.locks = false ∧ s.vm.findClass g.1.cls = some m.cls ∧ (∀ w ∈ zWs g, w.before args s = true) ∧ zK cs D s ∧ (∀ q, s.heap.size ≤ q → A q) ∧ meth.name = g.1.name
def zQ (cs : ClassId × ClassId × ClassId) (D : va_G) (A : Nat → Prop) (ad0 : Nat → Nat) (n0 : Nat) (g : zG) (Q : Option Value → List va_E → Prop) : Array Value → State → Outcome → State → Prop := fun _ st o t =>
  (∃ (v : Option Value) (ad' : Nat → Nat) (σ' : List va_E), o = .returned (v.map (zRe ad')) ∧ Q v σ' ∧ (g.2.2.2.2.1 = 0 → ad' = ad0) ∧ (∀ k, k < n0 → ad' k = ad0 k) ∧ n0 ≤ σ'.length ∧ va_P D zCl (zW cs ad' σ') t.heap ∧ va_D A (zW cs ad' σ')) ∧ va_F A st t
def zGood (g : zG) (d : Nat) (Q : Option Value → List va_E → Prop) (pc : Nat) (ls : List (Option Value)) (st : List Value) (σ : List va_E) (uc us : Nat) : Prop :=
  ∀ (p : Program) (l : Launch) (e : Env) (s : State) (m : MethodId) (args : Array Value) (below : List Frame) (meth : Method) (c : Code) (cs : ClassId × ClassId × ClassId) (D : va_G) (A : Nat → Prop) (ad0 ad : Nat → Nat) (n0 : Nat) (H : Heap) (locs : List Loc) (lr : Array Slot),
    zCtx g p s m args meth c cs D A → ((g.2.2.2.2.1 = 0 → ad = ad0) ∧ (∀ k, k < n0 → ad k = ad0 k) ∧ n0 ≤ σ.length ∧ uc ≤ g.2.2.2.2.1 ∧ us ≤ g.2.2.2.2.2) → va_P D zCl (zW cs ad σ) H → va_D A (zW cs ad σ) → va_S A s.heap H locs → zLoc ad ls lr g.2.2.1 →
      W p l e (zRm g d) s m args below meth c H locs uc us (MQ below (zQ cs D A ad0 n0 g Q) args s g.2.2.2.2.1 g.2.2.2.2.2 A) (F0 m pc lr (st.map (zRe ad)))
def zRuns (g : zG) (d : Nat) (av : List Value) (σ : List va_E) (Q : Option Value → List va_E → Prop) : Prop :=
  ∀ (l : Launch) (cs : ClassId × ClassId × ClassId) (D : va_G) (ad : Nat → Nat) (sz : Nat), Met l g.1 (zWs g) (zRm g d)
    (va_Pc (av.map (zRe ad)) (fun U => U.heap.size = sz ∧ va_P D zCl (zW cs ad σ) U.heap ∧ zK cs D U ∧ va_D (fun _ => True) (zW cs ad σ)))
    (zQ cs D (va_A (zW cs ad σ) sz) ad σ.length g Q) g.2.2.2.2.1 g.2.2.2.2.2 (va_A (zW cs ad σ) sz)
theorem zRuns.mono {g : zG} {d : Nat} {av : List Value} {σ : List va_E} {Q Q' : Option Value → List va_E → Prop} (h : zRuns g d av σ Q) (hQ : ∀ v σ', Q v σ' → Q' v σ') : zRuns g d av σ Q' := by
  intro l cs D ad sz p e ha hc hk s m args below hf happ hP hK
  obtain ⟨k, o, h1, h2, h3, ⟨⟨v, ad', σ', q1, q2, q3⟩, q4⟩, h5⟩ := h l cs D ad sz p e ha hc hk s m args below hf happ hP hK
  exact ⟨k, o, h1, h2, h3, ⟨⟨v, ad', σ', q1, hQ v σ' q2, q3⟩, q4⟩, h5⟩
/-- a call whose answer and list are known -/
theorem zRuns.eq {g : zG} {d : Nat} {av : List Value} {σ σ1 : List va_E} {v1 : Option Value} {Q' : Option Value → List va_E → Prop} (h : zRuns g d av σ (fun v σ' => v = v1 ∧ σ' = σ1)) (hQ : Q' v1 σ1) : zRuns g d av σ Q' :=
  h.mono fun v σ' q => by rw [q.1, q.2]; exact hQ
section ZR
variable {g : zG} {d : Nat} {Q : Option Value → List va_E → Prop} {pc : Nat} {ls : List (Option Value)} {st r : List Value} {σ : List va_E} {uc us : Nat}
theorem s_iconst {n : Int} {v : Int32} (hdg : decode g.2.1 pc = .ok (.iconst n, 1)) (hv : Int32.ofInt n = v) (k : zGood g d Q (pc + 1) ls (.int v :: st) σ uc us) : zGood g d Q pc ls st σ uc us := by
  intro p l e s m args below meth c cs D A ad0 ad n0 H locs lr C hn hP hD hS hl
  exact lv_iconst C.1 C.2.1 hdg hv (k p l e s m args below meth c cs D A ad0 ad n0 H locs lr C hn hP hD hS hl)
theorem s_bipush {n : Int} {v : Int32} (hdg : decode g.2.1 pc = .ok (.bipush n, 2)) (hv : (Int8.ofInt n).toInt32 = v) (k : zGood g d Q (pc + 2) ls (.int v :: st) σ uc us) : zGood g d Q pc ls st σ uc us := by
  intro p l e s m args below meth c cs D A ad0 ad n0 H locs lr C hn hP hD hS hl
  exact lv_bipush C.1 C.2.1 hdg hv (k p l e s m args below meth c cs D A ad0 ad n0 H locs lr C hn hP hD hS hl)
theorem s_sipush {n : Int} {v : Int32} (hdg : decode g.2.1 pc = .ok (.sipush n, 3)) (hv : (Int16.ofInt n).toInt32 = v) (k : zGood g d Q (pc + 3) ls (.int v :: st) σ uc us) : zGood g d Q pc ls st σ uc us := by
  intro p l e s m args below meth c cs D A ad0 ad n0 H locs lr C hn hP hD hS hl
  exact lv_sipush C.1 C.2.1 hdg hv (k p l e s m args below meth c cs D A ad0 ad n0 H locs lr C hn hP hD hS hl)
theorem s_null (hdg : decode g.2.1 pc = .ok (.aconst_null, 1)) (k : zGood g d Q (pc + 1) ls (.null :: st) σ uc us) : zGood g d Q pc ls st σ uc us := by
  intro p l e s m args below meth c cs D A ad0 ad n0 H locs lr C hn hP hD hS hl
  exact lv_null C.1 C.2.1 hdg (k p l e s m args below meth c cs D A ad0 ad n0 H locs lr C hn hP hD hS hl)
theorem s_ldc {n : Nat} {v : Int32} (hdg : decode g.2.1 pc = .ok (.ldc n, 2)) (hv : Jvm.Cond.constant g.1.cls n v ∈ zT) (k : zGood g d Q (pc + 2) ls (.int v :: st) σ uc us) : zGood g d Q pc ls st σ uc us := by
  intro p l e s m args below meth c cs D A ad0 ad n0 H locs lr C hn hP hD hS hl
  exact W.ldc C.1 C.2.1 C.2.2.2.2.2.1 (C.2.2.2.2.2.2.1 _ (List.mem_cons_of_mem _ hv)) rfl hdg (k p l e s m args below meth c cs D A ad0 ad n0 H locs lr C hn hP hD hS hl)
theorem s_ldcw {n : Nat} {v : Int32} (hdg : decode g.2.1 pc = .ok (.ldc_w n, 3)) (hv : Jvm.Cond.constant g.1.cls n v ∈ zT) (k : zGood g d Q (pc + 3) ls (.int v :: st) σ uc us) : zGood g d Q pc ls st σ uc us := by
  intro p l e s m args below meth c cs D A ad0 ad n0 H locs lr C hn hP hD hS hl
  exact lv_ldcw C.1 C.2.1 C.2.2.2.2.2.1 (C.2.2.2.2.2.2.1 _ (List.mem_cons_of_mem _ hv)) hdg (k p l e s m args below meth c cs D A ad0 ad n0 H locs lr C hn hP hD hS hl)
theorem s_ldc2 {n : Nat} {v : Int64} (hdg : decode g.2.1 pc = .ok (.ldc2_w n, 3)) (hv : Jvm.Cond.constantLong g.1.cls n v ∈ zT) (k : zGood g d Q (pc + 3) ls (.long v :: st) σ uc us) : zGood g d Q pc ls st σ uc us := by
  intro p l e s m args below meth c cs D A ad0 ad n0 H locs lr C hn hP hD hS hl
  exact W.ldc2 C.1 C.2.1 C.2.2.2.2.2.1 (C.2.2.2.2.2.2.1 _ (List.mem_cons_of_mem _ hv)) rfl hdg (k p l e s m args below meth c cs D A ad0 ad n0 H locs lr C hn hP hD hS hl)
theorem s_iload_n {k4 : Fin 4} {x : Int32} (hdg : decode g.2.1 pc = .ok (.iload_n k4, 1)) (hx : zGet ls k4.val = some (.int x)) (k : zGood g d Q (pc + 1) ls (.int x :: st) σ uc us) : zGood g d Q pc ls st σ uc us := by
  intro p l e s m args below meth c cs D A ad0 ad n0 H locs lr C hn hP hD hS hl
  exact lv_iload_n C.1 C.2.1 hdg rfl (hl.2.2 _ _ hx) (k p l e s m args below meth c cs D A ad0 ad n0 H locs lr C hn hP hD hS hl)
theorem s_iload {i : Nat} {x : Int32} (hdg : decode g.2.1 pc = .ok (.iload i, 2)) (hx : zGet ls i = some (.int x)) (k : zGood g d Q (pc + 2) ls (.int x :: st) σ uc us) : zGood g d Q pc ls st σ uc us := by
  intro p l e s m args below meth c cs D A ad0 ad n0 H locs lr C hn hP hD hS hl
  exact lv_iload C.1 C.2.1 hdg (hl.2.2 _ _ hx) (k p l e s m args below meth c cs D A ad0 ad n0 H locs lr C hn hP hD hS hl)
theorem s_lload_n {k4 : Fin 4} {x : Int64} (hdg : decode g.2.1 pc = .ok (.lload_n k4, 1)) (hx : zGet ls k4.val = some (.long x)) (k : zGood g d Q (pc + 1) ls (.long x :: st) σ uc us) : zGood g d Q pc ls st σ uc us := by
  intro p l e s m args below meth c cs D A ad0 ad n0 H locs lr C hn hP hD hS hl
  exact lv_lload_n C.1 C.2.1 hdg rfl (hl.2.2 _ _ hx) (k p l e s m args below meth c cs D A ad0 ad n0 H locs lr C hn hP hD hS hl)
theorem s_lload {i : Nat} {x : Int64} (hdg : decode g.2.1 pc = .ok (.lload i, 2)) (hx : zGet ls i = some (.long x)) (k : zGood g d Q (pc + 2) ls (.long x :: st) σ uc us) : zGood g d Q pc ls st σ uc us := by
  intro p l e s m args below meth c cs D A ad0 ad n0 H locs lr C hn hP hD hS hl
  exact lv_lload C.1 C.2.1 hdg (hl.2.2 _ _ hx) (k p l e s m args below meth c cs D A ad0 ad n0 H locs lr C hn hP hD hS hl)
theorem s_aload_n {k4 : Fin 4} {x : Nat} (hdg : decode g.2.1 pc = .ok (.aload_n k4, 1)) (hx : zGet ls k4.val = some (.ref x)) (k : zGood g d Q (pc + 1) ls (.ref x :: st) σ uc us) : zGood g d Q pc ls st σ uc us := by
  intro p l e s m args below meth c cs D A ad0 ad n0 H locs lr C hn hP hD hS hl
  exact lv_aload_n C.1 C.2.1 hdg rfl (hl.2.2 _ _ hx) (k p l e s m args below meth c cs D A ad0 ad n0 H locs lr C hn hP hD hS hl)
theorem s_aload {i : Nat} {x : Nat} (hdg : decode g.2.1 pc = .ok (.aload i, 2)) (hx : zGet ls i = some (.ref x)) (k : zGood g d Q (pc + 2) ls (.ref x :: st) σ uc us) : zGood g d Q pc ls st σ uc us := by
  intro p l e s m args below meth c cs D A ad0 ad n0 H locs lr C hn hP hD hS hl
  exact lv_aload C.1 C.2.1 hdg (hl.2.2 _ _ hx) (k p l e s m args below meth c cs D A ad0 ad n0 H locs lr C hn hP hD hS hl)
theorem s_aload_nN {k4 : Fin 4} (hdg : decode g.2.1 pc = .ok (.aload_n k4, 1)) (hx : zGet ls k4.val = some .null) (k : zGood g d Q (pc + 1) ls (.null :: st) σ uc us) : zGood g d Q pc ls st σ uc us := by
  intro p l e s m args below meth c cs D A ad0 ad n0 H locs lr C hn hP hD hS hl
  exact lv_aload_nN C.1 C.2.1 hdg rfl (hl.2.2 _ _ hx) (k p l e s m args below meth c cs D A ad0 ad n0 H locs lr C hn hP hD hS hl)
theorem s_aloadN {i : Nat} (hdg : decode g.2.1 pc = .ok (.aload i, 2)) (hx : zGet ls i = some .null) (k : zGood g d Q (pc + 2) ls (.null :: st) σ uc us) : zGood g d Q pc ls st σ uc us := by
  intro p l e s m args below meth c cs D A ad0 ad n0 H locs lr C hn hP hD hS hl
  exact lv_aloadN C.1 C.2.1 hdg (hl.2.2 _ _ hx) (k p l e s m args below meth c cs D A ad0 ad n0 H locs lr C hn hP hD hS hl)
theorem s_istore_n {k4 : Fin 4} {x : Int32} (hdg : decode g.2.1 pc = .ok (.istore_n k4, 1)) (hx : k4.val < g.2.2.1) (k : zGood g d Q (pc + 1) (zPut ls k4.val (.int x)) st σ uc us) : zGood g d Q pc ls (.int x :: st) σ uc us := by
  intro p l e s m args below meth c cs D A ad0 ad n0 H locs lr C hn hP hD hS hl
  exact lv_istore_n C.1 C.2.1 hdg rfl (zLoc_has hl) hx rfl (fun lr2 hl2 => k p l e s m args below meth c cs D A ad0 ad n0 H locs lr2 C hn hP hD hS (zLoc_put1 hl2))
theorem s_istore {i : Nat} {x : Int32} (hdg : decode g.2.1 pc = .ok (.istore i, 2)) (hx : i < g.2.2.1) (k : zGood g d Q (pc + 2) (zPut ls i (.int x)) st σ uc us) : zGood g d Q pc ls (.int x :: st) σ uc us := by
  intro p l e s m args below meth c cs D A ad0 ad n0 H locs lr C hn hP hD hS hl
  exact lv_istore C.1 C.2.1 hdg (zLoc_has hl) hx rfl (fun lr2 hl2 => k p l e s m args below meth c cs D A ad0 ad n0 H locs lr2 C hn hP hD hS (zLoc_put1 hl2))
theorem s_astore_n {k4 : Fin 4} {x : Nat} (hdg : decode g.2.1 pc = .ok (.astore_n k4, 1)) (hx : k4.val < g.2.2.1) (k : zGood g d Q (pc + 1) (zPut ls k4.val (.ref x)) st σ uc us) : zGood g d Q pc ls (.ref x :: st) σ uc us := by
  intro p l e s m args below meth c cs D A ad0 ad n0 H locs lr C hn hP hD hS hl
  exact lv_astore_n C.1 C.2.1 hdg rfl (zLoc_has hl) hx rfl (fun lr2 hl2 => k p l e s m args below meth c cs D A ad0 ad n0 H locs lr2 C hn hP hD hS (zLoc_put1 hl2))
theorem s_astore {i : Nat} {x : Nat} (hdg : decode g.2.1 pc = .ok (.astore i, 2)) (hx : i < g.2.2.1) (k : zGood g d Q (pc + 2) (zPut ls i (.ref x)) st σ uc us) : zGood g d Q pc ls (.ref x :: st) σ uc us := by
  intro p l e s m args below meth c cs D A ad0 ad n0 H locs lr C hn hP hD hS hl
  exact lv_astore C.1 C.2.1 hdg (zLoc_has hl) hx rfl (fun lr2 hl2 => k p l e s m args below meth c cs D A ad0 ad n0 H locs lr2 C hn hP hD hS (zLoc_put1 hl2))
theorem s_astore_nN {k4 : Fin 4}  (hdg : decode g.2.1 pc = .ok (.astore_n k4, 1)) (hx : k4.val < g.2.2.1) (k : zGood g d Q (pc + 1) (zPut ls k4.val (.null)) st σ uc us) : zGood g d Q pc ls (.null :: st) σ uc us := by
  intro p l e s m args below meth c cs D A ad0 ad n0 H locs lr C hn hP hD hS hl
  exact lv_astore_nN C.1 C.2.1 hdg rfl (zLoc_has hl) hx rfl (fun lr2 hl2 => k p l e s m args below meth c cs D A ad0 ad n0 H locs lr2 C hn hP hD hS (zLoc_put1 hl2))
theorem s_astoreN {i : Nat}  (hdg : decode g.2.1 pc = .ok (.astore i, 2)) (hx : i < g.2.2.1) (k : zGood g d Q (pc + 2) (zPut ls i (.null)) st σ uc us) : zGood g d Q pc ls (.null :: st) σ uc us := by
  intro p l e s m args below meth c cs D A ad0 ad n0 H locs lr C hn hP hD hS hl
  exact lv_astoreN C.1 C.2.1 hdg (zLoc_has hl) hx rfl (fun lr2 hl2 => k p l e s m args below meth c cs D A ad0 ad n0 H locs lr2 C hn hP hD hS (zLoc_put1 hl2))
theorem s_lstore_n {k4 : Fin 4} {x : Int64} (hdg : decode g.2.1 pc = .ok (.lstore_n k4, 1)) (hx : k4.val + 1 < g.2.2.1) (k : zGood g d Q (pc + 1) (zDel (zPut ls k4.val (.long x)) (k4.val + 1)) st σ uc us) : zGood g d Q pc ls (.long x :: st) σ uc us := by
  intro p l e s m args below meth c cs D A ad0 ad n0 H locs lr C hn hP hD hS hl
  exact lv_lstore_n C.1 C.2.1 hdg rfl (zLoc_has hl) hx rfl (fun lr2 hl2 => k p l e s m args below meth c cs D A ad0 ad n0 H locs lr2 C hn hP hD hS (zLoc_put2 hl2))
theorem s_iinc {i : Nat} {n : Int} {x v : Int32} (hdg : decode g.2.1 pc = .ok (.iinc i n, 3)) (hv : Int32.ofInt n = v) (hx : zGet ls i = some (.int x)) (hi : i < g.2.2.1) (k : zGood g d Q (pc + 3) (zPut ls i (.int (x + v))) st σ uc us) : zGood g d Q pc ls st σ uc us := by
  intro p l e s m args below meth c cs D A ad0 ad n0 H locs lr C hn hP hD hS hl
  obtain ⟨k9, hk9⟩ := List.mem_iff_getElem?.mp (zLv_mem (ad := ad) (i := 0) hx)
  rw [Nat.zero_add] at hk9
  exact lv_iinc C.1 C.2.1 hdg (zLoc_has hl) (k := k9) hk9 (by rw [hv]) hi rfl (fun lr2 hl2 => k p l e s m args below meth c cs D A ad0 ad n0 H locs lr2 C hn hP hD hS (zLoc_put1 hl2))
theorem s_iadd {x y : Int32} (hdg : decode g.2.1 pc = .ok (.iadd, 1)) (k : zGood g d Q (pc + 1) ls (.int (x + y) :: st) σ uc us) : zGood g d Q pc ls (.int y :: .int x :: st) σ uc us := by
  intro p l e s m args below meth c cs D A ad0 ad n0 H locs lr C hn hP hD hS hl
  exact lv_iadd C.1 C.2.1 hdg (k p l e s m args below meth c cs D A ad0 ad n0 H locs lr C hn hP hD hS hl)
theorem s_isub {x y : Int32} (hdg : decode g.2.1 pc = .ok (.isub, 1)) (k : zGood g d Q (pc + 1) ls (.int (x - y) :: st) σ uc us) : zGood g d Q pc ls (.int y :: .int x :: st) σ uc us := by
  intro p l e s m args below meth c cs D A ad0 ad n0 H locs lr C hn hP hD hS hl
  exact lv_isub C.1 C.2.1 hdg (k p l e s m args below meth c cs D A ad0 ad n0 H locs lr C hn hP hD hS hl)
theorem s_imul {x y : Int32} (hdg : decode g.2.1 pc = .ok (.imul, 1)) (k : zGood g d Q (pc + 1) ls (.int (x * y) :: st) σ uc us) : zGood g d Q pc ls (.int y :: .int x :: st) σ uc us := by
  intro p l e s m args below meth c cs D A ad0 ad n0 H locs lr C hn hP hD hS hl
  exact lv_imul C.1 C.2.1 hdg (k p l e s m args below meth c cs D A ad0 ad n0 H locs lr C hn hP hD hS hl)
theorem s_iand {x y : Int32} (hdg : decode g.2.1 pc = .ok (.iand, 1)) (k : zGood g d Q (pc + 1) ls (.int (x &&& y) :: st) σ uc us) : zGood g d Q pc ls (.int y :: .int x :: st) σ uc us := by
  intro p l e s m args below meth c cs D A ad0 ad n0 H locs lr C hn hP hD hS hl
  exact lv_iand C.1 C.2.1 hdg (k p l e s m args below meth c cs D A ad0 ad n0 H locs lr C hn hP hD hS hl)
theorem s_ior {x y : Int32} (hdg : decode g.2.1 pc = .ok (.ior, 1)) (k : zGood g d Q (pc + 1) ls (.int (x ||| y) :: st) σ uc us) : zGood g d Q pc ls (.int y :: .int x :: st) σ uc us := by
  intro p l e s m args below meth c cs D A ad0 ad n0 H locs lr C hn hP hD hS hl
  exact lv_ior C.1 C.2.1 hdg (k p l e s m args below meth c cs D A ad0 ad n0 H locs lr C hn hP hD hS hl)
theorem s_ixor {x y : Int32} (hdg : decode g.2.1 pc = .ok (.ixor, 1)) (k : zGood g d Q (pc + 1) ls (.int (x ^^^ y) :: st) σ uc us) : zGood g d Q pc ls (.int y :: .int x :: st) σ uc us := by
  intro p l e s m args below meth c cs D A ad0 ad n0 H locs lr C hn hP hD hS hl
  exact lv_ixor C.1 C.2.1 hdg (k p l e s m args below meth c cs D A ad0 ad n0 H locs lr C hn hP hD hS hl)
theorem s_ishl {x y : Int32} (hdg : decode g.2.1 pc = .ok (.ishl, 1)) (k : zGood g d Q (pc + 1) ls (.int (x <<< (y &&& 31)) :: st) σ uc us) : zGood g d Q pc ls (.int y :: .int x :: st) σ uc us := by
  intro p l e s m args below meth c cs D A ad0 ad n0 H locs lr C hn hP hD hS hl
  exact lv_ishl C.1 C.2.1 hdg (k p l e s m args below meth c cs D A ad0 ad n0 H locs lr C hn hP hD hS hl)
theorem s_ishr {x y : Int32} (hdg : decode g.2.1 pc = .ok (.ishr, 1)) (k : zGood g d Q (pc + 1) ls (.int (x >>> (y &&& 31)) :: st) σ uc us) : zGood g d Q pc ls (.int y :: .int x :: st) σ uc us := by
  intro p l e s m args below meth c cs D A ad0 ad n0 H locs lr C hn hP hD hS hl
  exact lv_ishr C.1 C.2.1 hdg (k p l e s m args below meth c cs D A ad0 ad n0 H locs lr C hn hP hD hS hl)
theorem s_iushr {x y : Int32} (hdg : decode g.2.1 pc = .ok (.iushr, 1)) (k : zGood g d Q (pc + 1) ls (.int ((x.toUInt32 >>> (y.toUInt32 &&& Int32.toUInt32 31)).toInt32) :: st) σ uc us) : zGood g d Q pc ls (.int y :: .int x :: st) σ uc us := by
  intro p l e s m args below meth c cs D A ad0 ad n0 H locs lr C hn hP hD hS hl
  exact lv_iushr C.1 C.2.1 hdg rfl (k p l e s m args below meth c cs D A ad0 ad n0 H locs lr C hn hP hD hS hl)
theorem s_idiv {x y : Int32} (hdg : decode g.2.1 pc = .ok (.idiv, 1)) (hne : ¬ y = 0) (k : zGood g d Q (pc + 1) ls (.int (x / y) :: st) σ uc us) : zGood g d Q pc ls (.int y :: .int x :: st) σ uc us := by
  intro p l e s m args below meth c cs D A ad0 ad n0 H locs lr C hn hP hD hS hl
  exact lv_idiv C.1 C.2.1 hdg hne (k p l e s m args below meth c cs D A ad0 ad n0 H locs lr C hn hP hD hS hl)
theorem s_irem {x y : Int32} (hdg : decode g.2.1 pc = .ok (.irem, 1)) (hne : ¬ y = 0) (k : zGood g d Q (pc + 1) ls (.int (x - x / y * y) :: st) σ uc us) : zGood g d Q pc ls (.int y :: .int x :: st) σ uc us := by
  intro p l e s m args below meth c cs D A ad0 ad n0 H locs lr C hn hP hD hS hl
  exact lv_irem C.1 C.2.1 hdg hne (k p l e s m args below meth c cs D A ad0 ad n0 H locs lr C hn hP hD hS hl)
theorem s_ineg {x : Int32} (hdg : decode g.2.1 pc = .ok (.ineg, 1)) (k : zGood g d Q (pc + 1) ls (.int (-x) :: st) σ uc us) : zGood g d Q pc ls (.int x :: st) σ uc us := by
  intro p l e s m args below meth c cs D A ad0 ad n0 H locs lr C hn hP hD hS hl
  exact lv_ineg C.1 C.2.1 hdg (k p l e s m args below meth c cs D A ad0 ad n0 H locs lr C hn hP hD hS hl)
theorem s_ladd {x y : Int64} (hdg : decode g.2.1 pc = .ok (.ladd, 1)) (k : zGood g d Q (pc + 1) ls (.long (x + y) :: st) σ uc us) : zGood g d Q pc ls (.long y :: .long x :: st) σ uc us := by
  intro p l e s m args below meth c cs D A ad0 ad n0 H locs lr C hn hP hD hS hl
  exact lv_ladd C.1 C.2.1 hdg (k p l e s m args below meth c cs D A ad0 ad n0 H locs lr C hn hP hD hS hl)
theorem s_lmul {x y : Int64} (hdg : decode g.2.1 pc = .ok (.lmul, 1)) (k : zGood g d Q (pc + 1) ls (.long (x * y) :: st) σ uc us) : zGood g d Q pc ls (.long y :: .long x :: st) σ uc us := by
  intro p l e s m args below meth c cs D A ad0 ad n0 H locs lr C hn hP hD hS hl
  exact lv_lmul C.1 C.2.1 hdg (k p l e s m args below meth c cs D A ad0 ad n0 H locs lr C hn hP hD hS hl)
theorem s_land {x y : Int64} (hdg : decode g.2.1 pc = .ok (.land, 1)) (k : zGood g d Q (pc + 1) ls (.long (x &&& y) :: st) σ uc us) : zGood g d Q pc ls (.long y :: .long x :: st) σ uc us := by
  intro p l e s m args below meth c cs D A ad0 ad n0 H locs lr C hn hP hD hS hl
  exact lv_land C.1 C.2.1 hdg (k p l e s m args below meth c cs D A ad0 ad n0 H locs lr C hn hP hD hS hl)
theorem s_ldiv {x y : Int64} (hdg : decode g.2.1 pc = .ok (.ldiv, 1)) (hne : ¬ y = 0) (k : zGood g d Q (pc + 1) ls (.long (x / y) :: st) σ uc us) : zGood g d Q pc ls (.long y :: .long x :: st) σ uc us := by
  intro p l e s m args below meth c cs D A ad0 ad n0 H locs lr C hn hP hD hS hl
  exact lv_ldiv C.1 C.2.1 hdg hne (k p l e s m args below meth c cs D A ad0 ad n0 H locs lr C hn hP hD hS hl)
theorem s_i2l {x : Int32} (hdg : decode g.2.1 pc = .ok (.i2l, 1)) (k : zGood g d Q (pc + 1) ls (.long x.toInt64 :: st) σ uc us) : zGood g d Q pc ls (.int x :: st) σ uc us := by
  intro p l e s m args below meth c cs D A ad0 ad n0 H locs lr C hn hP hD hS hl
  exact lv_i2l C.1 C.2.1 hdg rfl (k p l e s m args below meth c cs D A ad0 ad n0 H locs lr C hn hP hD hS hl)
theorem s_l2i {x : Int64} (hdg : decode g.2.1 pc = .ok (.l2i, 1)) (k : zGood g d Q (pc + 1) ls (.int x.toInt32 :: st) σ uc us) : zGood g d Q pc ls (.long x :: st) σ uc us := by
  intro p l e s m args below meth c cs D A ad0 ad n0 H locs lr C hn hP hD hS hl
  exact lv_l2i C.1 C.2.1 hdg rfl (k p l e s m args below meth c cs D A ad0 ad n0 H locs lr C hn hP hD hS hl)
theorem s_dup {v : Value} (hdg : decode g.2.1 pc = .ok (.dup, 1)) (hv : v.category = 1) (k : zGood g d Q (pc + 1) ls (v :: v :: st) σ uc us) : zGood g d Q pc ls (v :: st) σ uc us := by
  intro p l e s m args below meth c cs D A ad0 ad n0 H locs lr C hn hP hD hS hl
  exact lv_dup C.1 C.2.1 hdg (by rw [zRe_cat]; exact hv) (k p l e s m args below meth c cs D A ad0 ad n0 H locs lr C hn hP hD hS hl)
theorem s_dup2 {v u : Value} (hdg : decode g.2.1 pc = .ok (.dup2, 1)) (hv : v.category = 1) (hu : u.category = 1) (k : zGood g d Q (pc + 1) ls (v :: u :: v :: u :: st) σ uc us) : zGood g d Q pc ls (v :: u :: st) σ uc us := by
  intro p l e s m args below meth c cs D A ad0 ad n0 H locs lr C hn hP hD hS hl
  exact lv_dup2_11 C.1 C.2.1 hdg (by rw [zRe_cat]; exact hv) (by rw [zRe_cat]; exact hu) (k p l e s m args below meth c cs D A ad0 ad n0 H locs lr C hn hP hD hS hl)
theorem s_pop {v : Value} (hdg : decode g.2.1 pc = .ok (.pop, 1)) (hv : v.category = 1) (k : zGood g d Q (pc + 1) ls st σ uc us) : zGood g d Q pc ls (v :: st) σ uc us := by
  intro p l e s m args below meth c cs D A ad0 ad n0 H locs lr C hn hP hD hS hl
  exact lv_pop C.1 C.2.1 hdg (by rw [zRe_cat]; exact hv) (k p l e s m args below meth c cs D A ad0 ad n0 H locs lr C hn hP hD hS hl)
theorem s_if_eq {x : Int32} {off : Int} {tgt : Nat} (hdg : decode g.2.1 pc = .ok (.ifCond .eq off, 3)) (ht : (pc : Int) + off = (tgt : Int)) (kt : x = 0 → zGood g d Q tgt ls st σ uc us) (kf : ¬ x = 0 → zGood g d Q (pc + 3) ls st σ uc us) : zGood g d Q pc ls (.int x :: st) σ uc us := by
  intro p l e s m args below meth c cs D A ad0 ad n0 H locs lr C hn hP hD hS hl
  exact lv_if_eq C.1 C.2.1 hdg ht (fun q => kt q p l e s m args below meth c cs D A ad0 ad n0 H locs lr C hn hP hD hS hl) (fun q => kf q p l e s m args below meth c cs D A ad0 ad n0 H locs lr C hn hP hD hS hl)
theorem s_icmp_eq {x y : Int32} {off : Int} {tgt : Nat} (hdg : decode g.2.1 pc = .ok (.if_icmp .eq off, 3)) (ht : (pc : Int) + off = (tgt : Int)) (kt : x = y → zGood g d Q tgt ls st σ uc us) (kf : ¬ x = y → zGood g d Q (pc + 3) ls st σ uc us) : zGood g d Q pc ls (.int y :: .int x :: st) σ uc us := by
  intro p l e s m args below meth c cs D A ad0 ad n0 H locs lr C hn hP hD hS hl
  exact lv_icmp_eq C.1 C.2.1 hdg ht (fun q => kt q p l e s m args below meth c cs D A ad0 ad n0 H locs lr C hn hP hD hS hl) (fun q => kf q p l e s m args below meth c cs D A ad0 ad n0 H locs lr C hn hP hD hS hl)
theorem s_if_ne {x : Int32} {off : Int} {tgt : Nat} (hdg : decode g.2.1 pc = .ok (.ifCond .ne off, 3)) (ht : (pc : Int) + off = (tgt : Int)) (kt : ¬ x = 0 → zGood g d Q tgt ls st σ uc us) (kf : x = 0 → zGood g d Q (pc + 3) ls st σ uc us) : zGood g d Q pc ls (.int x :: st) σ uc us := by
  intro p l e s m args below meth c cs D A ad0 ad n0 H locs lr C hn hP hD hS hl
  exact lv_if_ne C.1 C.2.1 hdg ht (fun q => kt q p l e s m args below meth c cs D A ad0 ad n0 H locs lr C hn hP hD hS hl) (fun q => kf q p l e s m args below meth c cs D A ad0 ad n0 H locs lr C hn hP hD hS hl)
theorem s_icmp_ne {x y : Int32} {off : Int} {tgt : Nat} (hdg : decode g.2.1 pc = .ok (.if_icmp .ne off, 3)) (ht : (pc : Int) + off = (tgt : Int)) (kt : ¬ x = y → zGood g d Q tgt ls st σ uc us) (kf : x = y → zGood g d Q (pc + 3) ls st σ uc us) : zGood g d Q pc ls (.int y :: .int x :: st) σ uc us := by
  intro p l e s m args below meth c cs D A ad0 ad n0 H locs lr C hn hP hD hS hl
  exact lv_icmp_ne C.1 C.2.1 hdg ht (fun q => kt q p l e s m args below meth c cs D A ad0 ad n0 H locs lr C hn hP hD hS hl) (fun q => kf q p l e s m args below meth c cs D A ad0 ad n0 H locs lr C hn hP hD hS hl)
theorem s_if_lt {x : Int32} {off : Int} {tgt : Nat} (hdg : decode g.2.1 pc = .ok (.ifCond .lt off, 3)) (ht : (pc : Int) + off = (tgt : Int)) (kt : x < 0 → zGood g d Q tgt ls st σ uc us) (kf : ¬ x < 0 → zGood g d Q (pc + 3) ls st σ uc us) : zGood g d Q pc ls (.int x :: st) σ uc us := by
  intro p l e s m args below meth c cs D A ad0 ad n0 H locs lr C hn hP hD hS hl
  exact lv_if_lt C.1 C.2.1 hdg ht (fun q => kt q p l e s m args below meth c cs D A ad0 ad n0 H locs lr C hn hP hD hS hl) (fun q => kf q p l e s m args below meth c cs D A ad0 ad n0 H locs lr C hn hP hD hS hl)
theorem s_icmp_lt {x y : Int32} {off : Int} {tgt : Nat} (hdg : decode g.2.1 pc = .ok (.if_icmp .lt off, 3)) (ht : (pc : Int) + off = (tgt : Int)) (kt : x < y → zGood g d Q tgt ls st σ uc us) (kf : ¬ x < y → zGood g d Q (pc + 3) ls st σ uc us) : zGood g d Q pc ls (.int y :: .int x :: st) σ uc us := by
  intro p l e s m args below meth c cs D A ad0 ad n0 H locs lr C hn hP hD hS hl
  exact lv_icmp_lt C.1 C.2.1 hdg ht (fun q => kt q p l e s m args below meth c cs D A ad0 ad n0 H locs lr C hn hP hD hS hl) (fun q => kf q p l e s m args below meth c cs D A ad0 ad n0 H locs lr C hn hP hD hS hl)
theorem s_if_ge {x : Int32} {off : Int} {tgt : Nat} (hdg : decode g.2.1 pc = .ok (.ifCond .ge off, 3)) (ht : (pc : Int) + off = (tgt : Int)) (kt : 0 ≤ x → zGood g d Q tgt ls st σ uc us) (kf : ¬ 0 ≤ x → zGood g d Q (pc + 3) ls st σ uc us) : zGood g d Q pc ls (.int x :: st) σ uc us := by
  intro p l e s m args below meth c cs D A ad0 ad n0 H locs lr C hn hP hD hS hl
  exact lv_if_ge C.1 C.2.1 hdg ht (fun q => kt q p l e s m args below meth c cs D A ad0 ad n0 H locs lr C hn hP hD hS hl) (fun q => kf q p l e s m args below meth c cs D A ad0 ad n0 H locs lr C hn hP hD hS hl)
theorem s_icmp_ge {x y : Int32} {off : Int} {tgt : Nat} (hdg : decode g.2.1 pc = .ok (.if_icmp .ge off, 3)) (ht : (pc : Int) + off = (tgt : Int)) (kt : y ≤ x → zGood g d Q tgt ls st σ uc us) (kf : ¬ y ≤ x → zGood g d Q (pc + 3) ls st σ uc us) : zGood g d Q pc ls (.int y :: .int x :: st) σ uc us := by
  intro p l e s m args below meth c cs D A ad0 ad n0 H locs lr C hn hP hD hS hl
  exact lv_icmp_ge C.1 C.2.1 hdg ht (fun q => kt q p l e s m args below meth c cs D A ad0 ad n0 H locs lr C hn hP hD hS hl) (fun q => kf q p l e s m args below meth c cs D A ad0 ad n0 H locs lr C hn hP hD hS hl)
theorem s_if_gt {x : Int32} {off : Int} {tgt : Nat} (hdg : decode g.2.1 pc = .ok (.ifCond .gt off, 3)) (ht : (pc : Int) + off = (tgt : Int)) (kt : 0 < x → zGood g d Q tgt ls st σ uc us) (kf : ¬ 0 < x → zGood g d Q (pc + 3) ls st σ uc us) : zGood g d Q pc ls (.int x :: st) σ uc us := by
  intro p l e s m args below meth c cs D A ad0 ad n0 H locs lr C hn hP hD hS hl
  exact lv_if_gt C.1 C.2.1 hdg ht (fun q => kt q p l e s m args below meth c cs D A ad0 ad n0 H locs lr C hn hP hD hS hl) (fun q => kf q p l e s m args below meth c cs D A ad0 ad n0 H locs lr C hn hP hD hS hl)
theorem s_icmp_gt {x y : Int32} {off : Int} {tgt : Nat} (hdg : decode g.2.1 pc = .ok (.if_icmp .gt off, 3)) (ht : (pc : Int) + off = (tgt : Int)) (kt : y < x → zGood g d Q tgt ls st σ uc us) (kf : ¬ y < x → zGood g d Q (pc + 3) ls st σ uc us) : zGood g d Q pc ls (.int y :: .int x :: st) σ uc us := by
  intro p l e s m args below meth c cs D A ad0 ad n0 H locs lr C hn hP hD hS hl
  exact lv_icmp_gt C.1 C.2.1 hdg ht (fun q => kt q p l e s m args below meth c cs D A ad0 ad n0 H locs lr C hn hP hD hS hl) (fun q => kf q p l e s m args below meth c cs D A ad0 ad n0 H locs lr C hn hP hD hS hl)
theorem s_if_le {x : Int32} {off : Int} {tgt : Nat} (hdg : decode g.2.1 pc = .ok (.ifCond .le off, 3)) (ht : (pc : Int) + off = (tgt : Int)) (kt : x ≤ 0 → zGood g d Q tgt ls st σ uc us) (kf : ¬ x ≤ 0 → zGood g d Q (pc + 3) ls st σ uc us) : zGood g d Q pc ls (.int x :: st) σ uc us := by
  intro p l e s m args below meth c cs D A ad0 ad n0 H locs lr C hn hP hD hS hl
  exact lv_if_le C.1 C.2.1 hdg ht (fun q => kt q p l e s m args below meth c cs D A ad0 ad n0 H locs lr C hn hP hD hS hl) (fun q => kf q p l e s m args below meth c cs D A ad0 ad n0 H locs lr C hn hP hD hS hl)
theorem s_icmp_le {x y : Int32} {off : Int} {tgt : Nat} (hdg : decode g.2.1 pc = .ok (.if_icmp .le off, 3)) (ht : (pc : Int) + off = (tgt : Int)) (kt : x ≤ y → zGood g d Q tgt ls st σ uc us) (kf : ¬ x ≤ y → zGood g d Q (pc + 3) ls st σ uc us) : zGood g d Q pc ls (.int y :: .int x :: st) σ uc us := by
  intro p l e s m args below meth c cs D A ad0 ad n0 H locs lr C hn hP hD hS hl
  exact lv_icmp_le C.1 C.2.1 hdg ht (fun q => kt q p l e s m args below meth c cs D A ad0 ad n0 H locs lr C hn hP hD hS hl) (fun q => kf q p l e s m args below meth c cs D A ad0 ad n0 H locs lr C hn hP hD hS hl)
theorem s_goto {off : Int} {tgt : Nat} (hdg : decode g.2.1 pc = .ok (.goto off, 3)) (ht : (pc : Int) + off = (tgt : Int)) (k : zGood g d Q tgt ls st σ uc us) : zGood g d Q pc ls st σ uc us := by
  intro p l e s m args below meth c cs D A ad0 ad n0 H locs lr C hn hP hD hS hl
  exact lv_goto C.1 C.2.1 hdg ht (k p l e s m args below meth c cs D A ad0 ad n0 H locs lr C hn hP hD hS hl)
theorem s_ifnull {x : Nat} {off : Int} (hdg : decode g.2.1 pc = .ok (.ifnull off, 3)) (k : zGood g d Q (pc + 3) ls st σ uc us) : zGood g d Q pc ls (.ref x :: st) σ uc us := by
  intro p l e s m args below meth c cs D A ad0 ad n0 H locs lr C hn hP hD hS hl
  exact lv_ifnull C.1 C.2.1 hdg (k p l e s m args below meth c cs D A ad0 ad n0 H locs lr C hn hP hD hS hl)
theorem s_ifnullN {off : Int} {tgt : Nat} (hdg : decode g.2.1 pc = .ok (.ifnull off, 3)) (ht : (pc : Int) + off = (tgt : Int)) (k : zGood g d Q tgt ls st σ uc us) : zGood g d Q pc ls (.null :: st) σ uc us := by
  intro p l e s m args below meth c cs D A ad0 ad n0 H locs lr C hn hP hD hS hl
  exact lv_ifnullN C.1 C.2.1 hdg ht (k p l e s m args below meth c cs D A ad0 ad n0 H locs lr C hn hP hD hS hl)
theorem s_ifnonnull {x : Nat} {off : Int} {tgt : Nat} (hdg : decode g.2.1 pc = .ok (.ifnonnull off, 3)) (ht : (pc : Int) + off = (tgt : Int)) (k : zGood g d Q tgt ls st σ uc us) : zGood g d Q pc ls (.ref x :: st) σ uc us := by
  intro p l e s m args below meth c cs D A ad0 ad n0 H locs lr C hn hP hD hS hl
  exact lv_ifnonnull C.1 C.2.1 hdg ht (k p l e s m args below meth c cs D A ad0 ad n0 H locs lr C hn hP hD hS hl)
theorem s_ifnonnullN {off : Int} (hdg : decode g.2.1 pc = .ok (.ifnonnull off, 3)) (k : zGood g d Q (pc + 3) ls st σ uc us) : zGood g d Q pc ls (.null :: st) σ uc us := by
  intro p l e s m args below meth c cs D A ad0 ad n0 H locs lr C hn hP hD hS hl
  exact lv_ifnonnullN C.1 C.2.1 hdg (k p l e s m args below meth c cs D A ad0 ad n0 H locs lr C hn hP hD hS hl)
theorem s_alen {a : Nat} {t n : Nat} {f : Nat → Int32} (ht : t = 0 ∨ t = 1) (hdg : decode g.2.1 pc = .ok (.arraylength, 1)) (ha : σ[a]? = some (.inl (t, n, .inl f))) (k : zGood g d Q (pc + 1) ls (.int (Int32.ofNat n) :: st) σ uc us) : zGood g d Q pc ls (.ref a :: st) σ uc us := by
  intro p l e s m args below meth c cs D A ad0 ad n0 H locs lr C hn hP hD hS hl
  rcases ht with rfl | rfl
  · exact va_alen C.1 C.2.1 C.2.2.2.2.2.2.2.1.1 hP a 0 (zW_get ha) rfl rfl hdg (k p l e s m args below meth c cs D A ad0 ad n0 H locs lr C hn hP hD hS hl)
  · exact va_alen C.1 C.2.1 C.2.2.2.2.2.2.2.1.1 hP a 1 (zW_get ha) rfl rfl hdg (k p l e s m args below meth c cs D A ad0 ad n0 H locs lr C hn hP hD hS hl)
theorem s_alenq {a : Nat} {t n : Nat} {f : Nat → Option Nat} (hdg : decode g.2.1 pc = .ok (.arraylength, 1)) (ha : σ[a]? = some (.inl (t, n, .inr (.inr (.inr (.inr f)))))) (k : zGood g d Q (pc + 1) ls (.int (Int32.ofNat n) :: st) σ uc us) : zGood g d Q pc ls (.ref a :: st) σ uc us := by
  intro p l e s m args below meth c cs D A ad0 ad n0 H locs lr C hn hP hD hS hl
  exact va_alen C.1 C.2.1 C.2.2.2.2.2.2.2.1.1 hP a 2 (zW_get ha) rfl rfl hdg (k p l e s m args below meth c cs D A ad0 ad n0 H locs lr C hn hP hD hS hl)
theorem s_iald {a n : Nat} {f : Nat → Int32} {i : Int32} (hdg : decode g.2.1 pc = .ok (.iaload, 1)) (ha : σ[a]? = some (.inl (0, n, .inl f))) (hi : vp_in i n) (k : zGood g d Q (pc + 1) ls (.int (f i.toNatClampNeg) :: st) σ uc us) : zGood g d Q pc ls (.int i :: .ref a :: st) σ uc us := by
  intro p l e s m args below meth c cs D A ad0 ad n0 H locs lr C hn hP hD hS hl
  exact va_iald C.1 C.2.1 C.2.2.2.2.2.2.2.1.1 hP a 0 (zW_get ha) rfl hi hdg (k p l e s m args below meth c cs D A ad0 ad n0 H locs lr C hn hP hD hS hl)
theorem s_zald {a n : Nat} {f : Nat → Int32} {i : Int32} (hdg : decode g.2.1 pc = .ok (.baload, 1)) (ha : σ[a]? = some (.inl (1, n, .inl f))) (hi : vp_in i n) (k : zGood g d Q (pc + 1) ls (.int (f i.toNatClampNeg) :: st) σ uc us) : zGood g d Q pc ls (.int i :: .ref a :: st) σ uc us := by
  intro p l e s m args below meth c cs D A ad0 ad n0 H locs lr C hn hP hD hS hl
  exact va_zald C.1 C.2.1 C.2.2.2.2.2.2.2.1.1 hP a 1 (zW_get ha) rfl hi hdg (k p l e s m args below meth c cs D A ad0 ad n0 H locs lr C hn hP hD hS hl)
theorem s_iast {a n : Nat} {f : Nat → Int32} {i x : Int32} (hdg : decode g.2.1 pc = .ok (.iastore, 1)) (ha : σ[a]? = some (.inl (0, n, .inl f))) (hi : vp_in i n) (k : zGood g d Q (pc + 1) ls st (σ.set a (.inl (0, n, .inl (upd f i.toNatClampNeg x)))) uc us) : zGood g d Q pc ls (.int x :: .int i :: .ref a :: st) σ uc us := by
  intro p l e s m args below meth c cs D A ad0 ad n0 H locs lr C hn hP hD hS hl
  exact va_iast C.1 C.2.1 C.2.2.2.2.2.2.2.1.1 hP hD hS a 0 (zW_get ha) rfl hi hdg (fun H1 locs1 hP1 hD1 hS1 => k p l e s m args below meth c cs D A ad0 ad n0 H1 locs1 lr C ⟨hn.1, hn.2.1, by rw [List.length_set]; exact hn.2.2.1, hn.2.2.2⟩ (by rw [zW_set]; exact hP1) (by rw [zW_set]; exact hD1) hS1 hl)
theorem s_zast {a n : Nat} {f : Nat → Int32} {i x : Int32} (hdg : decode g.2.1 pc = .ok (.bastore, 1)) (ha : σ[a]? = some (.inl (1, n, .inl f))) (hi : vp_in i n) (k : zGood g d Q (pc + 1) ls st (σ.set a (.inl (1, n, .inl (upd f i.toNatClampNeg (vp_nar .boolean x))))) uc us) : zGood g d Q pc ls (.int x :: .int i :: .ref a :: st) σ uc us := by
  intro p l e s m args below meth c cs D A ad0 ad n0 H locs lr C hn hP hD hS hl
  exact va_zast C.1 C.2.1 C.2.2.2.2.2.2.2.1.1 hP hD hS a 1 (zW_get ha) rfl hi hdg (fun H1 locs1 hP1 hD1 hS1 => k p l e s m args below meth c cs D A ad0 ad n0 H1 locs1 lr C ⟨hn.1, hn.2.1, by rw [List.length_set]; exact hn.2.2.1, hn.2.2.2⟩ (by rw [zW_set]; exact hP1) (by rw [zW_set]; exact hD1) hS1 hl)
/-- a reference out of a row of rows -/
def zRf : Option Nat → Value
  | some k => .ref k
  | none => .null
theorem zRf_re (ad : Nat → Nat) (o : Option Nat) : zRe ad (zRf o) = va_rf (o.map ad) := by cases o <;> rfl
theorem s_aald {a t n : Nat} {f : Nat → Option Nat} {i : Int32} (hdg : decode g.2.1 pc = .ok (.aaload, 1)) (ha : σ[a]? = some (.inl (t, n, .inr (.inr (.inr (.inr f)))))) (hi : vp_in i n) (k : zGood g d Q (pc + 1) ls (zRf (f i.toNatClampNeg) :: st) σ uc us) : zGood g d Q pc ls (.int i :: .ref a :: st) σ uc us := by
  intro p l e s m args below meth c cs D A ad0 ad n0 H locs lr C hn hP hD hS hl
  have hlt : i.toNatClampNeg < n := Nat.not_le.mp fun q => hi (Or.inr q)
  have hx := k p l e s m args below meth c cs D A ad0 ad n0 H locs lr C hn hP hD hS hl
  rw [List.map_cons, zRf_re] at hx
  have hc := hP a _ (zW_get ha)
  refine W.aald (v := va_rf ((f i.toNatClampNeg).map ad)) (ty := .array .int) C.1 C.2.1 hc ((C.2.2.2.2.2.2.2.1.1.2 2 _ rfl).1 n (fun j => va_rf (if j < n then (f j).map ad else none))) rfl (fun q => by cases q) (by show ¬ (i < 0 ∨ (arrV _ _ _).slots.size ≤ _); rw [arrV_size]; exact hi) (by show (arrV _ _ _).slots[_]? = _; rw [arrV_read _ _ hlt]; simp [hlt]) rfl rfl hdg hx
end ZR
end
section
/-- what the tables say of the classes -/
def zClass (ci : Nat) (C : String) (T : u_T) (N : Nat) : Prop := zCl[ci]? = some (C, T, N) ∧ (∀ w ∈ u_ws C T N, w ∈ zT) ∧ (∀ a, a < N → ∀ b, b < N → a ≠ b → (T a).2.1 ≠ (T b).2.1) ∧ ∃ ty : Nat → FieldType, ∀ k, k < N → parseFieldDescriptor (T k).2.2.1 = some (ty k)
section ZF
variable {g : zG} {d : Nat} {Q : Option Value → List va_E → Prop} {pc : Nat} {ls : List (Option Value)} {st r : List Value} {σ : List va_E} {uc us : Nat}
theorem s_getf {a ci k idx N : Nat} {Cn : String} {T : u_T} {fs : List Value} {v : Value} (hc : zClass ci Cn T N) (hk : k < N) (hlink : Jvm.Cond.fieldLink g.1.cls idx (T k).1 (T k).2.1 (T k).2.2.1 ∈ zT) (hdg : decode g.2.1 pc = .ok (.getfield idx, 3)) (ha : σ[a]? = some (.inr (ci, fs))) (hv : fs[k]? = some v)
    (kk : zGood g d Q (pc + 3) ls (v :: st) σ uc us) : zGood g d Q pc ls (.ref a :: st) σ uc us := by
  intro p l e s m args below meth c cs D A ad0 ad n0 H locs lr C hn hP hD hS hl
  exact va_get (D := D) C.1 C.2.1 C.2.2.2.2.2.2.1 (fun w hw => List.mem_cons_of_mem _ (hc.2.1 w hw)) C.2.2.2.2.2.1 C.2.2.2.2.2.2.2.1.1 hP a (zW_get ha) hc.1 k hk (C.2.2.2.2.2.2.1 _ (List.mem_cons_of_mem _ hlink)) (fun _ h9 => h9) (v := zRe ad v) (by rw [List.getElem?_map, hv]; rfl) hdg (kk p l e s m args below meth c cs D A ad0 ad n0 H locs lr C hn hP hD hS hl)
/-- what may be put into a field of type ty -/
def zFits (ty : FieldType) (v : Value) : Prop := narrow ty v = v ∧ fits ty v = true
theorem zFits_re {ty : FieldType} {v : Value} (ad : Nat → Nat) (h : zFits ty v) : zFits ty (zRe ad v) := by
  cases v <;> first | exact h | (refine ⟨?_, ?_⟩ <;> cases ty <;> first | rfl | (exact absurd h.2 (by simp [fits])))
theorem zE_set (cs : ClassId × ClassId × ClassId) (ad : Nat → Nat) (ci : Nat) (fs : List Value) (k : Nat) (v : Value) : zE cs ad (.inr (ci, fs.set k v)) = .inr (ci, (fs.map (zRe ad)).set k (zRe ad v)) := by
  simp [zE, List.map_set]
theorem s_putf {a ci k idx N : Nat} {Cn : String} {T : u_T} {fs : List Value} {v : Value} {ty : FieldType} (hc : zClass ci Cn T N) (hk : k < N) (hlink : Jvm.Cond.fieldLink g.1.cls idx (T k).1 (T k).2.1 (T k).2.2.1 ∈ zT) (hty : parseFieldDescriptor (T k).2.2.1 = some ty) (hfin : (T k).2.2.2 = false ∨ (g.1.name = "<init>" ∧ (T k).1 = g.1.cls)) (hdg : decode g.2.1 pc = .ok (.putfield idx, 3)) (ha : σ[a]? = some (.inr (ci, fs))) (hv : zFits ty v) (hlen : k < fs.length)
    (kk : zGood g d Q (pc + 3) ls st (σ.set a (.inr (ci, fs.set k v))) uc us) : zGood g d Q pc ls (v :: .ref a :: st) σ uc us := by
  intro p l e s m args below meth c cs D A ad0 ad n0 H locs lr C hn hP hD hS hl
  obtain ⟨ty0, hty0⟩ := hc.2.2.2
  have hn2 : (g.2.2.2.2.1 = 0 → ad = ad0) ∧ (∀ k, k < n0 → ad k = ad0 k) ∧ n0 ≤ (σ.set a (.inr (ci, fs.set k v))).length ∧ uc ≤ g.2.2.2.2.1 ∧ us ≤ g.2.2.2.2.2 := ⟨hn.1, hn.2.1, by rw [List.length_set]; exact hn.2.2.1, hn.2.2.2⟩
  have hv2 := zFits_re ad hv
  have hl2 : k < (fs.map (zRe ad)).length := by rw [List.length_map]; exact hlen
  by_cases hf : (T k).2.2.2 = false
  · refine va_put (D := D) C.1 C.2.1 C.2.2.2.2.2.2.1 (fun w hw => List.mem_cons_of_mem _ (hc.2.1 w hw)) ty0 hty0 hc.2.2.1 C.2.2.2.2.2.1 C.2.2.2.2.2.2.2.1.1 hP hD hS a (zW_get ha) hc.1 k hk (C.2.2.2.2.2.2.1 _ (List.mem_cons_of_mem _ hlink)) (fun _ h9 => h9) hf hty hv2.1 hv2.2 hl2 hdg (fun H1 locs1 hP1 hD1 hS1 => ?_)
    exact kk p l e s m args below meth c cs D A ad0 ad n0 H1 locs1 lr C hn2 (by rw [zW_set, zE_set]; exact hP1) (by rw [zW_set, zE_set]; exact hD1) hS1 hl
  · obtain ⟨hin, hdecl⟩ := hfin.resolve_left hf
    have hf2 : (T k).2.2.2 = true := by simpa using hf
    refine va_putF (D := D) C.1 C.2.1 C.2.2.2.2.2.2.1 (fun w hw => List.mem_cons_of_mem _ (hc.2.1 w hw)) ty0 hty0 hc.2.2.1 C.2.2.2.2.2.1 C.2.2.2.2.2.2.2.1.1 hP hD hS a (zW_get ha) hc.1 k hk (C.2.2.2.2.2.2.1 _ (List.mem_cons_of_mem _ hlink)) (fun _ h9 => h9) hf2 (C.2.2.2.2.2.2.2.2.2.trans hin) hdecl hty hv2.1 hv2.2 hl2 hdg (fun H1 locs1 hP1 hD1 hS1 => ?_)
    exact kk p l e s m args below meth c cs D A ad0 ad n0 H1 locs1 lr C hn2 (by rw [zW_set, zE_set]; exact hP1) (by rw [zW_set, zE_set]; exact hD1) hS1 hl
-- making
theorem zUp_lt (ad : Nat → Nat) (n q : Nat) : ∀ k, k < n → (fun j => if j < n then ad j else q) k = ad k := fun k hk => by simp [hk]
def zUp (ad : Nat → Nat) (n q : Nat) : Nat → Nat := fun j => if j < n then ad j else q
theorem zUp_old {ad : Nat → Nat} {n q : Nat} : ∀ k, k < n → zUp ad n q k = ad k := fun k hk => if_pos hk
theorem zUp_new {ad : Nat → Nat} {n q : Nat} : zUp ad n q n = q := if_neg (Nat.lt_irrefl n)
theorem s_new {ci idx N : Nat} {Cn : String} {T : u_T} {ty : Nat → FieldType} {fs : List Value} (hc : zClass ci Cn T N) (hty : ∀ k, k < N → parseFieldDescriptor (T k).2.2.1 = some (ty k)) (hcl : Jvm.Cond.classLink g.1.cls idx Cn ∈ zT) (hins : Jvm.Cond.instantiable Cn N ∈ zT) (hini : Jvm.Cond.initialized Cn ∈ zT) (hfs : ∀ j, j < N → defaultValue (ty j) = vp_V fs j) (hre : ∀ ad : Nat → Nat, fs.map (zRe ad) = fs) (hdg : decode g.2.1 pc = .ok (.new idx, 3))
    (hb : (zBO σ.length ls && (zBL σ.length st && zBS σ.length σ)) = true) (huc : uc + 1 ≤ g.2.2.2.2.1) (hus : us + N ≤ g.2.2.2.2.2)
    (kk : zGood g d Q (pc + 3) ls (.ref σ.length :: st) (σ ++ [.inr (ci, fs)]) (uc + 1) (us + N)) : zGood g d Q pc ls st σ uc us := by
  intro p l e s m args below meth c cs D A ad0 ad n0 H locs lr C hn hP hD hS hl
  simp only [Bool.and_eq_true] at hb
  refine va_new (D := D) C.1 C.2.1 C.2.2.2.2.2.2.1 (fun w hw => List.mem_cons_of_mem _ (hc.2.1 w hw)) ty hty C.2.2.2.2.2.1 (C.2.2.2.2.2.2.1 _ (List.mem_cons_of_mem _ hcl)) (C.2.2.2.2.2.2.1 _ (List.mem_cons_of_mem _ hins)) (C.2.2.2.2.2.2.1 _ (List.mem_cons_of_mem _ hini)) C.2.2.2.2.2.2.2.1.1 hP hD hS C.2.2.2.2.2.2.2.2.1 hc.1 hfs huc hus hdg (fun q H1 hP1 hD1 hS1 => ?_)
  have e1 : zW cs (zUp ad σ.length q) (σ ++ [.inr (ci, fs)]) = zW cs ad σ ++ [(q, .inr (ci, fs))] := by
    rw [zW_push, zBS_re zUp_old (Nat.le_refl _) hb.2.2, zUp_new]
    simp only [zE]
    rw [hre]
  have e2 : (Value.ref σ.length :: st).map (zRe (zUp ad σ.length q)) = .ref q :: st.map (zRe ad) := by
    rw [List.map_cons, zBL_re zUp_old hb.2.1]
    exact congrArg (fun x => Value.ref x :: st.map (zRe ad)) zUp_new
  have h9 := kk p l e s m args below meth c cs D A ad0 (zUp ad σ.length q) n0 H1 locs lr C ⟨fun z => by omega, fun k hk => (zUp_old k (by have := hn.2.2.1; omega)).trans (hn.2.1 k hk), by rw [List.length_append]; have := hn.2.2.1; omega, huc, hus⟩ (by rw [e1]; exact hP1) (by rw [e1]; exact hD1) hS1 (zLoc_ad zUp_old hb.1 hl)
  rw [e2] at h9
  exact h9
theorem s_newa {n : Int32} {N : Nat} {t : Nat} {aty : ArrayType} (ht : (t = 0 ∧ aty = .int) ∨ (t = 1 ∧ aty = .boolean)) (harr : Jvm.Cond.arrayClass (newarray.typeOf aty) ∈ zT) (hdg : decode g.2.1 pc = .ok (.newarray aty, 2)) (h0 : ¬ n < 0) (hN : n.toNatClampNeg = N) (hsm : N ≤ 100000)
    (hb : (zBO σ.length ls && (zBL σ.length st && zBS σ.length σ)) = true) (huc : uc + 1 ≤ g.2.2.2.2.1) (hus : us + N ≤ g.2.2.2.2.2)
    (kk : zGood g d Q (pc + 2) ls (.ref σ.length :: st) (σ ++ [.inl (t, N, .inl (fun _ => 0))]) (uc + 1) (us + N)) : zGood g d Q pc ls (.int n :: st) σ uc us := by
  intro p l e s m args below meth c cs D A ad0 ad n0 H locs lr C hn hP hD hS hl
  simp only [Bool.and_eq_true] at hb
  have key : ∀ (q : Nat) (cA : ClassId) (H1 : Heap), cA = (bif Nat.beq t 0 then cs.1 else cs.2.1) → va_P D zCl (zW cs ad σ ++ [(q, .inl (cA, N, .inl (fun _ => 0)))]) H1 → va_D A (zW cs ad σ ++ [(q, .inl (cA, N, .inl (fun _ => 0)))]) → va_S A s.heap H1 locs →
      W p l e (zRm g d) s m args below meth c H1 locs (uc + 1) (us + N) (MQ below (zQ cs D A ad0 n0 g Q) args s g.2.2.2.2.1 g.2.2.2.2.2 A) (F0 m (pc + 2) lr (.ref q :: st.map (zRe ad))) := by
    intro q cA H1 hcA hP1 hD1 hS1
    subst hcA
    have e1 : zW cs (zUp ad σ.length q) (σ ++ [.inl (t, N, .inl (fun _ => 0))]) = zW cs ad σ ++ [(q, .inl (bif Nat.beq t 0 then cs.1 else cs.2.1, N, .inl (fun _ => 0)))] := by
      rw [zW_push, zBS_re zUp_old (Nat.le_refl _) hb.2.2, zUp_new]
      rfl
    have e2 : (Value.ref σ.length :: st).map (zRe (zUp ad σ.length q)) = .ref q :: st.map (zRe ad) := by
      rw [List.map_cons, zBL_re zUp_old hb.2.1]
      exact congrArg (fun x => Value.ref x :: st.map (zRe ad)) zUp_new
    have h9 := kk p l e s m args below meth c cs D A ad0 (zUp ad σ.length q) n0 H1 locs lr C ⟨fun z => by omega, fun k hk => (zUp_old k (by have := hn.2.2.1; omega)).trans (hn.2.1 k hk), by rw [List.length_append]; have := hn.2.2.1; omega, huc, hus⟩ (by rw [e1]; exact hP1) (by rw [e1]; exact hD1) hS1 (zLoc_ad zUp_old hb.1 hl)
    rw [e2] at h9
    exact h9
  have hKK := C.2.2.2.2.2.2.2.1.1
  rcases ht with ⟨rfl, rfl⟩ | ⟨rfl, rfl⟩
  · refine va_newa (D := D) (atype := .int) (ty := .int) (a0 := (N, .inl (fun _ => 0))) C.1 C.2.1 (C.2.2.2.2.2.2.1 _ (List.mem_cons_of_mem _ harr)) rfl hKK hP hD hS C.2.2.2.2.2.2.2.2.1 (fun _ => rfl) h0 hN (by show N * 4 ≤ _; omega) huc hus hdg (fun q cA H1 hK1 hP1 hD1 hS1 => ?_)
    have e1 : s.vm.findClass ("[" ++ (FieldType.int).toString) = some cA := (hK1.2 3 _ rfl).2
    have e2 : s.vm.findClass ("[" ++ (FieldType.int).toString) = some cs.1 := (hKK.2 0 _ rfl).2
    exact key q cA H1 (Option.some.inj (e1.symm.trans e2)) hP1 hD1 hS1
  · refine va_newa (D := D) (atype := .boolean) (ty := .boolean) (a0 := (N, .inl (fun _ => 0))) C.1 C.2.1 (C.2.2.2.2.2.2.1 _ (List.mem_cons_of_mem _ harr)) rfl hKK hP hD hS C.2.2.2.2.2.2.2.2.1 (fun _ => rfl) h0 hN (by show N * 1 ≤ _; omega) huc hus hdg (fun q cA H1 hK1 hP1 hD1 hS1 => ?_)
    have e1 : s.vm.findClass ("[" ++ (FieldType.boolean).toString) = some cA := (hK1.2 3 _ rfl).2
    have e2 : s.vm.findClass ("[" ++ (FieldType.boolean).toString) = some cs.2.1 := (hKK.2 1 _ rfl).2
    exact key q cA H1 (Option.some.inj (e1.symm.trans e2)) hP1 hD1 hS1
end ZF
-- calls
section ZC
variable {p : Program} {l : Launch} {e : Env} {R : Room} {s : State} {m : MethodId} {args : Array Value} {below : List Frame} {meth : Method} {c : Code} {H : Heap} {locs : List Loc} {cells slots : Nat} {Qm : State → Prop}
theorem z_after {cs : ClassId × ClassId × ClassId} {D : va_G} {A0 A1 : Nat → Prop} {ad : Nat → Nat} {n : Nat} {g' : zG} {Q' : Option Value → List va_E → Prop} {a : Array Value} {H0 : Heap} {pc : Nat} {lr : Array Slot} {st0 rest : List Value}
    (hr : va_Run p l e R s m args below meth c H locs cells slots g'.2.2.2.2.1 g'.2.2.2.2.2 (F0 m pc lr st0) rest (zQ cs D A1 ad n g' Q' a) A1) (hS : va_S A0 H0 H locs) (hf : ∀ q, A1 q → A0 q)
    (kk : ∀ (v : Option Value) (ad' : Nat → Nat) (σ' : List va_E) (H1 : Heap) (locs1 : List Loc), Q' v σ' → (g'.2.2.2.2.1 = 0 → ad' = ad) → (∀ k, k < n → ad' k = ad k) → n ≤ σ'.length → va_P D zCl (zW cs ad' σ') H1 → va_D A1 (zW cs ad' σ') → va_S A0 H0 H1 locs1 →
      W p l e R s m args below meth c H1 locs1 (cells + g'.2.2.2.2.1) (slots + g'.2.2.2.2.2) Qm (F0 m (pc + 3) lr ((v.map (zRe ad')).toList ++ rest))) : W p l e R s m args below meth c H locs cells slots Qm (F0 m pc lr st0) := by
  intro T hT X
  obtain ⟨v, st₀, t, T', L, h0, X', hL, e1, e2, ⟨⟨v', ad', σ', hv, q1, q2, q3, q4, q5, q6⟩, hz, hk⟩, st⟩ := hr T hT X
  cases hv
  rw [h0] at hz hk
  obtain ⟨t2, a1, b1⟩ := kk v' ad' σ' T'.heap (locs ++ L) q1 q2 q3 q4 (by rw [e1]; exact q5) q6
    ⟨Nat.le_trans hS.1 (by rw [e1]; exact hz), fun q h1 h2 => by rw [e1, hk q (Nat.lt_of_lt_of_le h1 hS.1) (fun z => h2 (hf q z))]; exact hS.2.1 q h1 h2, fun q hq => by
      rcases List.mem_append.mp hq with h | h
      · exact hS.2.2 q h
      · exact hf _ (hL q h)⟩ T' rfl X'
  exact ⟨t2, st t2 a1, b1⟩
end ZC
def zPop : Nat → List Value → List Value → Option (List Value × List Value)
  | 0, acc, st => some (acc, st)
  | n + 1, acc, v :: st => zPop n (v :: acc) st
  | _ + 1, _, [] => none
theorem zPop_eq : ∀ {n : Nat} {acc st av r : List Value}, zPop n acc st = some (av, r) → av.reverse ++ r = acc.reverse ++ st ∧ av.length = acc.length + n
  | 0, acc, st, av, r, h => by cases h; exact ⟨rfl, rfl⟩
  | n + 1, acc, v :: st, av, r, h => by
    obtain ⟨h1, h2⟩ := zPop_eq (n := n) (acc := v :: acc) (st := st) h
    refine ⟨by rw [h1]; simp, by rw [h2, List.length_cons]; omega⟩
  | n + 1, acc, [], av, r, h => by cases h
def zCat : List Value → Nat
  | [] => 0
  | v :: r => v.category + zCat r
theorem zCat_eq (ad : Nat → Nat) : ∀ (r : List Value), ((r.map (zRe ad)).map fun v => v.category).sum = zCat r
  | [] => rfl
  | v :: r => by
    rw [List.map_cons, List.map_cons, List.sum_cons, zCat_eq ad r, zRe_cat]
    rfl
def zMeth (own : String) (g' : zG) (idx kind n ci : Nat) : Prop :=
  zCd g' ∈ zT ∧ Jvm.Cond.initialized g'.1.cls ∈ zT ∧ (g'.1.cls ≠ "java/lang/invoke/MethodHandle" ∧ g'.1.cls ≠ "java/lang/invoke/VarHandle") ∧ g'.2.2.1 ≤ 21 ∧
  match kind with
  | 0 => Jvm.Cond.methodLink own idx g'.1 ∈ zT ∧ Jvm.Cond.instanceMethod g'.1 ∈ zT ∧ Jvm.Cond.selects g'.1.cls g'.1 g'.1 ∈ zT ∧ (parseMethodDescriptor g'.1.desc).map (fun d => d.parameters.length + 1) = some n ∧ (zCl[ci]?).map (fun q => q.1) = some g'.1.cls
  | 1 => Jvm.Cond.methodLink own idx g'.1 ∈ zT ∧ Jvm.Cond.static g'.1 ∈ zT ∧ (parseMethodDescriptor g'.1.desc).map (fun d => d.parameters.length) = some n
  | 2 => Jvm.Cond.methodLink own idx g'.1 ∈ zT ∧ Jvm.Cond.instanceMethod g'.1 ∈ zT ∧ g'.1.name = "<init>" ∧ g'.2.2.2.1 = none ∧ (parseMethodDescriptor g'.1.desc).map (fun d => d.parameters.length + 1) = some n ∧ (zCl[ci]?).map (fun q => q.1) = some g'.1.cls
  | 3 => Jvm.Cond.methodLinkNest own idx g'.1 "BlameTown" ∈ zN ∧ Jvm.Cond.static g'.1 ∈ zT ∧ (parseMethodDescriptor g'.1.desc).map (fun d => d.parameters.length) = some n
  | _ => False
section ZD
variable {g g' : zG} {d : Nat} {Q : Option Value → List va_E → Prop} {pc : Nat} {ls : List (Option Value)} {st rest av : List Value} {σ : List va_E} {uc us : Nat}
theorem z_free {cs : ClassId × ClassId × ClassId} {ad : Nat → Nat} {A : Nat → Prop} {H0 H : Heap} {locs : List Loc} (hD : va_D A (zW cs ad σ)) (hS : va_S A H0 H locs) (hA : ∀ q, H0.size ≤ q → A q) : ∀ q, va_A (zW cs ad σ) H.size q → A q := by
  intro q hq
  rcases hq with ⟨k, e, hk⟩ | h
  · exact hD.2 k _ hk
  · exact hA q (Nat.le_trans hS.1 h)
theorem z_blind {cs : ClassId × ClassId × ClassId} {D : va_G} {ad : Nat → Nat} {sz : Nat} {vs : List Value} : FrameBlind (va_Pc vs (fun U => U.heap.size = sz ∧ va_P D zCl (zW cs ad σ) U.heap ∧ zK cs D U ∧ va_D (fun _ => True) (zW cs ad σ))) :=
  fun a U gg mk q => ⟨q.1, q.2.1, q.2.2.1, zK_same (u := U) (U := U.calling gg mk a) rfl q.2.2.2.1, q.2.2.2.2⟩
theorem s_call {idx kind n ci : Nat} (hm : zMeth g.1.cls g' idx kind n ci) (hdg : decode g.2.1 pc = .ok ((if kind = 0 then Instr.invokevirtual idx else if kind = 2 then Instr.invokespecial idx else Instr.invokestatic idx), 3))
    (hpop : zPop n [] st = some (av, rest)) (hrest : zCat rest ≤ 8)
    (hrecv : (kind = 0 ∨ kind = 2) → ∃ b fs As, av = .ref b :: As ∧ σ[b]? = some (.inr (ci, fs)))
    (hb : g'.2.2.2.2.1 ≠ 0 → (zBO σ.length ls && zBL σ.length rest) = true) (huc : uc + g'.2.2.2.2.1 ≤ g.2.2.2.2.1) (hus : us + g'.2.2.2.2.2 ≤ g.2.2.2.2.2)
    (kk : zRuns g' d av σ (fun v σ' => zGood g (d + 1) Q (pc + 3) ls (v.toList ++ rest) σ' (uc + g'.2.2.2.2.1) (us + g'.2.2.2.2.2))) : zGood g (d + 1) Q pc ls st σ uc us := by
  intro p l e s m args below meth c cs D A ad0 ad n0 H locs lr C hn hP hD hS hl
  obtain ⟨m1, m2, m3, m4, m5⟩ := hm
  obtain ⟨p1, p2⟩ := zPop_eq hpop
  simp only [List.reverse_nil, List.nil_append, List.length_nil, Nat.zero_add] at p1 p2
  have hF := z_free (σ := σ) hD hS C.2.2.2.2.2.2.2.2.1
  have hts := C.2.2.2.2.2.2.1
  have ht : ∀ w ∈ zT, w.before args s = true := fun w hw => hts w (List.mem_cons_of_mem _ hw)
  have hG : GoodIn (zWs g) (zWs g') := zT_app (zWs_in m1)
  have hrm : (zRm g' d).frames + 1 ≤ (zRm g (d + 1)).frames ∧ 8 + (g'.2.2.1 + 11) + (zRm g' d).locals ≤ (zRm g (d + 1)).locals := ⟨Nat.le_refl _, by show 8 + (g'.2.2.1 + 11) + 40 * d ≤ 40 * (d + 1); omega⟩
  have hsize : lr.size = g.2.2.1 := hl.1
  have hrest2 : ((rest.map (zRe ad)).map fun v => v.category).sum ≤ 8 := by rw [zCat_eq]; exact hrest
  have hpre : ∀ U : State, U.heap = H → s.WarmedH U.vm → (fun U => U.heap.size = H.size ∧ va_P D zCl (zW cs ad σ) U.heap ∧ zK cs D U ∧ va_D (fun _ => True) (zW cs ad σ)) U := fun U hU hW => ⟨by rw [hU], by rw [hU]; exact hP, zK_warm hW C.2.2.2.2.2.2.2.1, hD.weaken (fun _ _ _ _ => trivial)⟩
  have hfit : uc + g'.2.2.2.2.1 ≤ (zRm g (d + 1)).cells ∧ us + g'.2.2.2.2.2 ≤ (zRm g (d + 1)).slots := ⟨huc, hus⟩
  have hfix : CallFix p m c g.2.1 g.2.2.1 s args (zWs g) g.1.cls := ⟨C.1, C.2.1, C.2.2.1, C.2.2.2.2.2.1, hts⟩
  have hMet := kk l cs D ad H.size
  have hst : st.map (zRe ad) = (av.map (zRe ad)).reverse ++ rest.map (zRe ad) := by rw [← p1, List.map_append, List.map_reverse]
  have hrun : va_Run p l e (zRm g (d + 1)) s m args below meth c H locs uc us g'.2.2.2.2.1 g'.2.2.2.2.2 (F0 m pc lr (st.map (zRe ad))) (rest.map (zRe ad)) (zQ cs D (va_A (zW cs ad σ) H.size) ad σ.length g' (fun v σ' => zGood g (d + 1) Q (pc + 3) ls (v.toList ++ rest) σ' (uc + g'.2.2.2.2.1) (us + g'.2.2.2.2.2)) (av.map (zRe ad)).toArray) (va_A (zW cs ad σ) H.size) := by
    match kind, m5, hdg, hrecv with
    | 0, m5, hdg, hrecv =>
      obtain ⟨a1, a2, a3, a4, a5⟩ := m5
      obtain ⟨b, fs, As, rfl, hbo⟩ := hrecv (Or.inl rfl)
      obtain ⟨q9, hq9, hq8⟩ := Option.map_eq_some_iff.mp a5
      have hrc := va_recv C.2.2.2.2.2.2.2.1.1 hP hq9 (zW_get hbo)
      rw [hq8] at hrc
      rw [List.map_cons] at hst hMet ⊢
      have hlen : (As.map (zRe ad)).length = n - 1 := by rw [List.length_map]; rw [List.length_cons] at p2; omega
      refine va_runV (As := As.map (zRe ad)) (rest := rest.map (zRe ad)) hfix hMet (cwV (n - 1) hts (zT_app fun w hw => ?_) rfl rfl rfl ⟨rfl, m3.1, m3.2, ?_⟩ hrm) ⟨z_blind, hrc, fun U hU hW => ⟨rfl, hpre U hU hW⟩⟩ rfl hlen hsize ?_ (lv_room hrest2) hdg hfit
      · rcases List.mem_append.mp hw with h | h
        · simp only [List.mem_cons, List.not_mem_nil, or_false] at h
          rcases h with rfl | rfl | rfl | rfl
          · exact a1
          · exact a2
          · exact a3
          · exact m2
        · exact zWs_in m1 w h
      · cases hp9 : parseMethodDescriptor g'.1.desc with
        | none => rw [hp9] at a4; cases a4
        | some dd =>
          rw [hp9] at a4
          have h7 : dd.parameters.length + 1 = n := Option.some.inj a4
          exact congrArg some (show dd.parameters.length = n - 1 by omega)
      · show st.map (zRe ad) = _
        rw [hst, List.reverse_cons, List.append_assoc]
        rfl
    | 1, m5, hdg, hrecv =>
      obtain ⟨a1, a2, a3⟩ := m5
      have hlen : (av.map (zRe ad)).length = n := by rw [List.length_map]; exact p2
      refine va_runS (As := av.map (zRe ad)) (rest := rest.map (zRe ad)) hfix hMet (va_cwS n hts (zT_app fun w hw => ?_) rfl rfl rfl ⟨m3.1, m3.2, a3⟩ hrm) ⟨z_blind, fun U hU hW => ⟨rfl, hpre U hU hW⟩⟩ rfl hlen hsize ?_ (lv_room hrest2) hdg hfit
      · rcases List.mem_append.mp hw with h | h
        · simp only [List.mem_cons, List.not_mem_nil, or_false] at h
          rcases h with rfl | rfl | rfl
          · exact a1
          · exact a2
          · exact m2
        · exact zWs_in m1 w h
      · exact hst
    | 2, m5, hdg, hrecv =>
      obtain ⟨a1, a2, a3, a4, a5, a6⟩ := m5
      obtain ⟨b, fs, As, rfl, hbo⟩ := hrecv (Or.inr rfl)
      rw [List.map_cons] at hst hMet ⊢
      have hlen : (As.map (zRe ad)).length = n - 1 := by rw [List.length_map]; rw [List.length_cons] at p2; omega
      refine va_runI (As := As.map (zRe ad)) (rest := rest.map (zRe ad)) hfix hMet (cwI (n - 1) hts hG (by rw [← a4]; rfl) rfl rfl (ht _ m2) (ht _ a1) (ht _ a2) a3 ⟨m3.1, m3.2, ?_⟩ hrm) ⟨z_blind, fun U hU hW => ⟨rfl, hpre U hU hW⟩⟩ rfl hlen hsize ?_ (lv_room hrest2) hdg hfit
      · cases hp9 : parseMethodDescriptor g'.1.desc with
        | none => rw [hp9] at a5; cases a5
        | some dd =>
          rw [hp9] at a5
          have h7 : dd.parameters.length + 1 = n := Option.some.inj a5
          exact congrArg some (show dd.parameters.length = n - 1 by omega)
      · show st.map (zRe ad) = _
        rw [hst, List.reverse_cons, List.append_assoc]
        rfl
    | 3, m5, hdg, hrecv =>
      obtain ⟨a1, a2, a3⟩ := m5
      have hlen : (av.map (zRe ad)).length = n := by rw [List.length_map]; exact p2
      refine va_runSN (host := "BlameTown") (As := av.map (zRe ad)) (rest := rest.map (zRe ad)) hfix hMet ⟨va_cnB n hts hG rfl rfl rfl (C.2.2.2.2.2.2.2.1.2.1 _ a1) (ht _ m2) ⟨m3.1, m3.2, a3⟩ hrm, ht _ a2, trivial⟩ ⟨z_blind, fun U hU hW => ⟨rfl, hpre U hU hW⟩⟩ rfl hlen hsize hst (lv_room hrest2) hdg hfit
    | k + 4, m5, hdg, hrecv => exact m5.elim
  refine z_after hrun hS hF (fun v ad' σ' H1 locs1 q1 q2 q3 q4 q5 q6 hS1 => ?_)
  have hres : (v.toList ++ rest).map (zRe ad') = (v.map (zRe ad')).toList ++ rest.map (zRe ad) := by
    rw [List.map_append]
    congr 1
    · cases v <;> rfl
    · by_cases hz : g'.2.2.2.2.1 = 0
      · rw [q2 hz]
      · have h7 := hb hz
        simp only [Bool.and_eq_true] at h7
        exact zBL_re q3 h7.2
  have hloc : zLoc ad' ls lr g.2.2.1 := by
    by_cases hz : g'.2.2.2.2.1 = 0
    · rw [q2 hz]; exact hl
    · have h7 := hb hz
      simp only [Bool.and_eq_true] at h7
      exact zLoc_ad q3 h7.1 hl
  have h9 := q1 p l e s m args below meth c cs D A ad0 ad' n0 H1 locs1 lr C ⟨fun z => (q2 (by omega)).trans (hn.1 z), fun k hk => (q3 k (by have := hn.2.2.1; omega)).trans (hn.2.1 k hk), by have := hn.2.2.1; omega, huc, hus⟩ q5 (q6.weaken (fun k q _ h => hF q.1 h)) hS1 hloc
  rw [hres] at h9
  exact h9
theorem s_oinit {idx : Nat} {v : Nat} (h1 : Jvm.Cond.methodLink g.1.cls idx objectInit ∈ zT) (h2 : Jvm.Cond.instanceMethod objectInit ∈ zT) (h3 : Jvm.Cond.code objectInit ⟨#[0xb1]⟩ 1 none ∈ zT) (hdg : decode g.2.1 pc = .ok (.invokespecial idx, 3)) (hr : zCat st ≤ 8)
    (kk : zGood g (d + 1) Q (pc + 3) ls st σ uc us) : zGood g (d + 1) Q pc ls (.ref v :: st) σ uc us := by
  intro p l e s m args below meth c cs D A ad0 ad n0 H locs lr C hn hP hD hS hl
  have ht : ∀ w ∈ zT, w.before args s = true := fun w hw => C.2.2.2.2.2.2.1 w (List.mem_cons_of_mem _ hw)
  have h9 : ((st.map (zRe ad)).map fun v => v.category).sum ≤ 8 := by rw [zCat_eq]; exact hr
  exact W.objInit C.1 C.2.1 C.2.2.2.2.2.1 (ht _ h1) (ht _ h2) (ht _ h3) rfl (hl.1.trans C.2.2.1.symm) rfl hdg (by show 1 ≤ d + 1; omega) (by show 2 * 0 + ((st.map (zRe ad)).map fun v => v.category).sum + 12 ≤ 40 * (d + 1); omega) (kk p l e s m args below meth c cs D A ad0 ad n0 H locs lr C hn hP hD hS hl)
-- ends
theorem s_iret {v : Int32} (hr : g.2.2.2.1 = some .int) (hdg : decode g.2.1 pc = .ok (.ireturn, 1)) (hQ : Q (some (.int v)) σ) : zGood g d Q pc ls [.int v] σ uc us := by
  intro p l e s m args below meth c cs D A ad0 ad n0 H locs lr C hn hP hD hS hl
  refine W.widen hn.2.2.2.1 hn.2.2.2.2 ?_
  exact W.iret C.1 C.2.1 (C.2.2.2.1.trans hr) (fun t ht _ => ⟨⟨some (.int v), ad, σ, rfl, hQ, hn.1, hn.2.1, hn.2.2.1, by rw [ht]; exact hP, hD⟩, hS.F ht⟩) hS.2.2 hdg C.2.2.2.2.1
theorem s_zret {v : Int32} (hr : g.2.2.2.1 = some .boolean) (hv : v &&& 1 = v) (hdg : decode g.2.1 pc = .ok (.ireturn, 1)) (hQ : Q (some (.int v)) σ) : zGood g d Q pc ls [.int v] σ uc us := by
  intro p l e s m args below meth c cs D A ad0 ad n0 H locs lr C hn hP hD hS hl
  refine W.widen hn.2.2.2.1 hn.2.2.2.2 ?_
  exact W.zret C.1 C.2.1 (C.2.2.2.1.trans hr) (by show Value.int (v &&& 1) = _; rw [hv]) (fun t ht _ => ⟨⟨some (.int v), ad, σ, rfl, hQ, hn.1, hn.2.1, hn.2.2.1, by rw [ht]; exact hP, hD⟩, hS.F ht⟩) hS.2.2 hdg C.2.2.2.2.1
theorem s_vret (hr : g.2.2.2.1 = none) (hdg : decode g.2.1 pc = .ok (.return_, 1)) (hQ : Q none σ) : zGood g d Q pc ls [] σ uc us := by
  intro p l e s m args below meth c cs D A ad0 ad n0 H locs lr C hn hP hD hS hl
  refine W.widen hn.2.2.2.1 hn.2.2.2.2 ?_
  exact W.vret C.1 C.2.1 (C.2.2.2.1.trans hr) (fun t ht _ => ⟨⟨none, ad, σ, rfl, hQ, hn.1, hn.2.1, hn.2.2.1, by rw [ht]; exact hP, hD⟩, hS.F ht⟩) hS.2.2 hdg C.2.2.2.2.1
theorem s_aret {v : Value} {nm : String} (hr : g.2.2.2.1 = some (.object nm)) (hv : v = .null ∨ ∃ a, v = .ref a) (hdg : decode g.2.1 pc = .ok (.areturn, 1)) (hQ : Q (some v) σ) : zGood g d Q pc ls [v] σ uc us := by
  intro p l e s m args below meth c cs D A ad0 ad n0 H locs lr C hn hP hD hS hl
  refine W.widen hn.2.2.2.1 hn.2.2.2.2 ?_
  exact W.aret C.1 C.2.1 (C.2.2.2.1.trans hr) (Or.inl ⟨nm, rfl⟩) (by rcases hv with rfl | ⟨a, rfl⟩; exact Or.inl rfl; exact Or.inr ⟨_, rfl⟩) (fun t ht _ => ⟨⟨some v, ad, σ, rfl, hQ, hn.1, hn.2.1, hn.2.2.1, by rw [ht]; exact hP, hD⟩, hS.F ht⟩) hS.2.2 hdg C.2.2.2.2.1
-- a method's entry
def zArgs : Nat → List Value → List (Option Value)
  | 0, _ => []
  | n + 1, [] => none :: zArgs n []
  | n + 1, v :: r => some v :: zArgs n r
def zC1 : List Value → Bool
  | [] => true
  | .long _ :: _ => false
  | .double _ :: _ => false
  | _ :: r => zC1 r
theorem zArgs_get : ∀ {n : Nat} {vs : List Value} {k : Nat} {v : Value}, zGet (zArgs n vs) k = some v → vs[k]? = some v
  | 0, vs, k, v, h => by cases h
  | n + 1, [], 0, v, h => by cases h
  | n + 1, [], k + 1, v, h => by
    have := zArgs_get (n := n) (vs := []) (k := k) h
    simp at this
  | n + 1, a :: r, 0, v, h => by cases h; rfl
  | n + 1, a :: r, k + 1, v, h => by
    have := zArgs_get (n := n) (vs := r) (k := k) h
    simpa using this
theorem zArgs_lv {ad : Nat → Nat} : ∀ {vs : List Value} {i k : Nat} {v : Value}, zC1 vs = true → vs[k]? = some v → (i + k, zRe ad v) ∈ lv_args i (vs.map (zRe ad))
  | [], i, k, v, _, h => by simp at h
  | a :: r, i, k, v, hc, h => by
    have h1 : a.category = 1 ∧ zC1 r = true := by cases a <;> first | exact ⟨rfl, hc⟩ | cases hc
    rw [List.map_cons]
    show (i + k, zRe ad v) ∈ (i, zRe ad a) :: lv_args (if (zRe ad a).category = 2 then i + 2 else i + 1) (r.map (zRe ad))
    cases k with
    | zero =>
      have : a = v := by simpa using h
      subst this
      exact List.mem_cons_self
    | succ k =>
      have h2 : r[k]? = some v := by simpa using h
      rw [zRe_cat, h1.1, if_neg (by decide), show i + (k + 1) = i + 1 + k by omega]
      exact List.mem_cons_of_mem _ (zArgs_lv h1.2 h2)
theorem zSl_len {ad : Nat → Nat} : ∀ {vs : List Value}, zC1 vs = true → (lg_sl (vs.map (zRe ad))).length = vs.length
  | [], _ => rfl
  | a :: r, hc => by
    have h1 : a.category = 1 ∧ zC1 r = true := by cases a <;> first | exact ⟨rfl, hc⟩ | cases hc
    have h2 := zSl_len (ad := ad) h1.2
    unfold lg_sl at h2 ⊢
    rw [List.map_cons, List.flatMap_cons, List.length_append, h2, zRe_cat, h1.1, if_neg (by decide), List.length_cons]
    simp
    omega
theorem zEnter (hy : plainName g.1.cls = true) (hc1 : zC1 av = true) (hlen : av.length ≤ g.2.2.1) (k : zGood g d Q 0 (zArgs g.2.2.1 av) [] σ 0 0) : zRuns g d av σ Q := by
  intro l cs D ad sz
  refine Met.ofW (cc := g.2.1) (maxL := g.2.2.1) (ret := g.2.2.2.1) hy rfl ?_
  intro p e s m args below meth c s₁ B hml hv
  obtain ⟨rfl, hsz, hP, hK, hD0⟩ := hv
  have hts := atoms_spec (ws := zWs g) B.pre
  have hown : s.vm.findClass g.1.cls = some m.cls := findClass_of_methodNamed B.named
  subst hsz
  have hD := hD0.self (sz := s.heap.size)
  have hl0 := lv_entry (av.map (zRe ad)) (n := g.2.2.1) (by rw [zSl_len hc1]; exact hlen)
  rw [lg_entry_eq]
  refine k p l e s m _ below meth c cs D (va_A (zW cs ad σ) s.heap.size) ad ad σ.length s.heap [] _ ⟨B.exec, B.bytes, hml, B.returns, B.notSynchronized, hown, hts, hK, fun q h => Or.inr h, (name_of_methodNamed B.named B.method).1⟩ ⟨fun _ => rfl, fun _ _ => rfl, Nat.le_refl _, Nat.zero_le _, Nat.zero_le _⟩ hP hD va_S.rf ⟨hl0.1, hl0.2.1, fun k v hkv => hl0.2.2 (k, zRe ad v) ?_⟩
  have := zArgs_lv (ad := ad) (i := 0) hc1 (zArgs_get hkv)
  rwa [Nat.zero_add] at this
end ZD
end
section
/-- a row of a method's code: where, what, how long, the number that it pushes, where it goes, a switch's places -/
abbrev zR : Type := Nat × Instr × Nat × Value × Nat × List Nat
/-- what a class's pool says: fields (index; class, place, kind, final), methods (index; how, cells popped, receiver's class, whose), numbers, classes made (index; class, how many fields, what a new one holds) -/
abbrev zC : Type := List (Nat × Nat × Nat × Nat × Bool) × List (Nat × Nat × Nat × Nat × zG) × List (Nat × Value) × List (Nat × Nat × Nat × List Value)
def zFind {α : Type} : List (Nat × α) → Nat → Option α
  | [], _ => none
  | (i, a) :: r, k => match Nat.beq i k with
    | true => some a
    | false => zFind r k
theorem zFind_mem {α : Type} : ∀ {l : List (Nat × α)} {k : Nat} {a : α}, zFind l k = some a → (k, a) ∈ l
  | [], k, a, h => by cases h
  | (i, b) :: r, k, a, h => by
    unfold zFind at h
    cases hb : Nat.beq i k with
    | true =>
      rw [hb] at h
      have h1 : i = k := Nat.eq_of_beq_eq_true hb
      have h2 : b = a := Option.some.inj h
      rw [h1, h2]
      exact List.mem_cons_self
    | false =>
      rw [hb] at h
      exact List.mem_cons_of_mem _ (zFind_mem h)
def zMem (k : Nat) : List Nat → Bool
  | [] => false
  | i :: r => match Nat.beq i k with
    | true => true
    | false => zMem k r
def zNth {α : Type} : List α → Nat → Option α
  | [], _ => none
  | a :: _, 0 => some a
  | _ :: r, k + 1 => zNth r k
theorem zNth_eq {α : Type} : ∀ (l : List α) (k : Nat), zNth l k = l[k]?
  | [], k => by simp [zNth]
  | a :: r, 0 => by simp [zNth]
  | a :: r, k + 1 => by simp [zNth, zNth_eq r k]
def zLen : Instr → Nat
  | .bipush _ => 2 | .sipush _ => 3 | .ldc _ => 2 | .ldc_w _ => 3 | .ldc2_w _ => 3 | .iload _ => 2 | .aload _ => 2 | .istore _ => 2 | .astore _ => 2 | .iinc .. => 3 | .ifCond .. => 3 | .if_icmp .. => 3 | .goto _ => 3 | .ifnull _ => 3 | .ifnonnull _ => 3
  | .getfield _ => 3 | .putfield _ => 3 | .new _ => 3 | .newarray _ => 2 | .multianewarray .. => 4 | .invokevirtual _ => 3 | .invokestatic _ => 3 | .invokespecial _ => 3 | _ => 1
def zExtra (pc : Nat) (lit : Value) (tgt : Nat) (tl : List Nat) : Instr → Bool
  | .iconst n => decide (lit = .int (Int32.ofInt n))
  | .bipush n => decide (lit = .int (Int8.ofInt n).toInt32)
  | .sipush n => decide (lit = .int (Int16.ofInt n).toInt32)
  | .iinc _ n => decide (lit = .int (Int32.ofInt n))
  | .ifCond _ off | .if_icmp _ off | .goto off | .ifnull off | .ifnonnull off => decide ((pc : Int) + off = (tgt : Int))
  | .tableswitch df lo hi offs => decide (lo = 0 ∧ hi + 1 = (tl.length : Int) ∧ (pc : Int) + df = (tgt : Int) ∧ offs.toList.map (fun o => (pc : Int) + o) = tl.map Int.ofNat ∧ tl.length ≤ 100)
  | _ => true
def zIsSw : Instr → Bool
  | .tableswitch .. => true
  | _ => false
def zOkB (q : zR) : Bool := (zIsSw q.2.1 || Nat.beq q.2.2.1 (zLen q.2.1)) && zExtra q.1 q.2.2.2.1 q.2.2.2.2.1 q.2.2.2.2.2 q.2.1
/-- the table is the code -/
def zCode (g : zG) (cd : List zR) : Prop := ∀ q ∈ cd, decode g.2.1 q.1 = .ok (q.2.1, q.2.2.1) ∧ zOkB q = true
-- pieces
def zSome {α : Type} (o : Option α) (k : α → Prop) : Prop := match o with
  | some a => k a
  | none => False
theorem zSome_e {α : Type} {o : Option α} {k : α → Prop} (h : zSome o k) : ∃ a, o = some a ∧ k a := by
  cases o with
  | none => exact h.elim
  | some a => exact ⟨a, rfl, h⟩
def zB (b : Bool) (k : Prop) : Prop := match b with
  | true => k
  | false => False
theorem zB_e {b : Bool} {k : Prop} (h : zB b k) : b = true ∧ k := by
  cases b with
  | false => exact h.elim
  | true => exact ⟨rfl, h⟩
def zVi (v : Value) (k : Int32 → Prop) : Prop := match v with
  | .int x => k x
  | _ => False
theorem zVi_e {v : Value} {k : Int32 → Prop} (h : zVi v k) : ∃ x, v = .int x ∧ k x := by
  cases v <;> first | exact ⟨_, rfl, h⟩ | exact (show False from h).elim
def zVl (v : Value) (k : Int64 → Prop) : Prop := match v with
  | .long x => k x
  | _ => False
theorem zVl_e {v : Value} {k : Int64 → Prop} (h : zVl v k) : ∃ x, v = .long x ∧ k x := by
  cases v <;> first | exact ⟨_, rfl, h⟩ | exact (show False from h).elim
def zVa (v : Value) (k : Nat → Prop) (kn : Prop) : Prop := match v with
  | .ref x => k x
  | .null => kn
  | _ => False
theorem zVa_e {v : Value} {k : Nat → Prop} {kn : Prop} (h : zVa v k kn) : (∃ x, v = .ref x ∧ k x) ∨ (v = .null ∧ kn) := by
  cases v <;> first | exact Or.inl ⟨_, rfl, h⟩ | exact Or.inr ⟨rfl, h⟩ | exact (show False from h).elim
def zV1 (v : Value) (k : Prop) : Prop := match v with
  | .long _ => False
  | .double _ => False
  | _ => k
theorem zV1_e {v : Value} {k : Prop} (h : zV1 v k) : v.category = 1 ∧ k := by
  cases v <;> first | exact ⟨rfl, h⟩ | exact (show False from h).elim
def zTop (st : List Value) (k : Value → List Value → Prop) : Prop := match st with
  | v :: r => k v r
  | [] => False
theorem zTop_e {st : List Value} {k : Value → List Value → Prop} (h : zTop st k) : ∃ v r, st = v :: r ∧ k v r := by
  cases st with
  | nil => exact h.elim
  | cons v r => exact ⟨v, r, rfl, h⟩
def zTi (st : List Value) (k : Int32 → List Value → Prop) : Prop := zTop st fun v r => zVi v fun x => k x r
theorem zTi_e {st : List Value} {k : Int32 → List Value → Prop} (h : zTi st k) : ∃ x r, st = .int x :: r ∧ k x r := by
  obtain ⟨v, r, rfl, h⟩ := zTop_e h
  obtain ⟨x, rfl, h⟩ := zVi_e h
  exact ⟨x, r, rfl, h⟩
def zTii (st : List Value) (k : Int32 → Int32 → List Value → Prop) : Prop := zTi st fun y r => zTi r fun x r => k x y r
theorem zTii_e {st : List Value} {k : Int32 → Int32 → List Value → Prop} (h : zTii st k) : ∃ x y r, st = .int y :: .int x :: r ∧ k x y r := by
  obtain ⟨y, r1, e1, h1⟩ := zTi_e h
  obtain ⟨x, r2, e2, h2⟩ := zTi_e h1
  exact ⟨x, y, r2, by rw [e1, e2], h2⟩
def zTl (st : List Value) (k : Int64 → List Value → Prop) : Prop := zTop st fun v r => zVl v fun x => k x r
theorem zTl_e {st : List Value} {k : Int64 → List Value → Prop} (h : zTl st k) : ∃ x r, st = .long x :: r ∧ k x r := by
  obtain ⟨v, r, rfl, h⟩ := zTop_e h
  obtain ⟨x, rfl, h⟩ := zVl_e h
  exact ⟨x, r, rfl, h⟩
def zTll (st : List Value) (k : Int64 → Int64 → List Value → Prop) : Prop := zTl st fun y r => zTl r fun x r => k x y r
theorem zTll_e {st : List Value} {k : Int64 → Int64 → List Value → Prop} (h : zTll st k) : ∃ x y r, st = .long y :: .long x :: r ∧ k x y r := by
  obtain ⟨y, r1, e1, h1⟩ := zTl_e h
  obtain ⟨x, r2, e2, h2⟩ := zTl_e h1
  exact ⟨x, y, r2, by rw [e1, e2], h2⟩
def zTr (st : List Value) (k : Nat → List Value → Prop) : Prop := zTop st fun v r => zVa v (fun x => k x r) False
theorem zTr_e {st : List Value} {k : Nat → List Value → Prop} (h : zTr st k) : ∃ x r, st = .ref x :: r ∧ k x r := by
  obtain ⟨v, r, rfl, h⟩ := zTop_e h
  rcases zVa_e h with ⟨x, rfl, h⟩ | ⟨-, h⟩
  · exact ⟨x, r, rfl, h⟩
  · exact h.elim
def zObj (σ : List va_E) (a ci : Nat) (k : List Value → Prop) : Prop := match zNth σ a with
  | some (.inr (c2, fs)) => zB (Nat.beq c2 ci) (k fs)
  | _ => False
theorem zObj_e {σ : List va_E} {a ci : Nat} {k : List Value → Prop} (h : zObj σ a ci k) : ∃ fs, σ[a]? = some (.inr (ci, fs)) ∧ k fs := by
  unfold zObj at h
  rw [zNth_eq] at h
  split at h
  · rename_i c2 fs e
    obtain ⟨h1, h2⟩ := zB_e h
    exact ⟨fs, by rw [e, Nat.eq_of_beq_eq_true h1], h2⟩
  · exact h.elim
def zArr (σ : List va_E) (a t : Nat) (k : Nat → (Nat → Int32) → Prop) : Prop := match zNth σ a with
  | some (.inl (t2, n, .inl f)) => zB (Nat.beq t2 t) (k n f)
  | _ => False
theorem zArr_e {σ : List va_E} {a t : Nat} {k : Nat → (Nat → Int32) → Prop} (h : zArr σ a t k) : ∃ n f, σ[a]? = some (.inl (t, n, .inl f)) ∧ k n f := by
  unfold zArr at h
  rw [zNth_eq] at h
  split at h
  · rename_i t2 n f e
    obtain ⟨h1, h2⟩ := zB_e h
    exact ⟨n, f, by rw [e, Nat.eq_of_beq_eq_true h1], h2⟩
  · exact h.elim
def zArq (σ : List va_E) (a : Nat) (k : Nat → (Nat → Option Nat) → Prop) : Prop := match zNth σ a with
  | some (.inl (_, n, .inr (.inr (.inr (.inr f))))) => k n f
  | _ => False
theorem zArq_e {σ : List va_E} {a : Nat} {k : Nat → (Nat → Option Nat) → Prop} (h : zArq σ a k) : ∃ t n f, σ[a]? = some (.inl (t, n, .inr (.inr (.inr (.inr f))))) ∧ k n f := by
  unfold zArq at h
  rw [zNth_eq] at h
  split at h
  · rename_i t n f e
    exact ⟨t, n, f, e, h⟩
  · exact h.elim
/-- an array's length -/
def zLng (σ : List va_E) (a : Nat) (k : Nat → Prop) : Prop := match zNth σ a with
  | some (.inl (t, n, .inl _)) => zB (Nat.ble t 1) (k n)
  | some (.inl (_, n, .inr (.inr (.inr (.inr _))))) => k n
  | _ => False
def zSw (x : Int32) (df : Prop) (k : Nat → Prop) : Nat → List Nat → Prop
  | _, [] => df
  | i, t :: r => (x = Int32.ofNat i → k t) ∧ (¬ x = Int32.ofNat i → zSw x df k (i + 1) r)
def zFlag : Nat → FieldType → Bool
  | 0, .int => true
  | 1, .boolean => true
  | 2, .object _ => true
  | 2, .array _ => true
  | 3, _ => true
  | _, _ => false
/-- what may be stored, by the field's kind -/
def zPutOk (fl : Nat) (v : Value) (k : Prop) : Prop := match fl with
  | 0 => zVi v fun _ => k
  | 1 => zVi v fun x => (x = 0 ∨ x = 1) ∧ k
  | 2 => zVa v (fun _ => k) k
  | _ => False
theorem zPutOk_e {fl : Nat} {v : Value} {k : Prop} {ty : FieldType} (h : zPutOk fl v k) (hf : zFlag fl ty = true) : zFits ty v ∧ k := by
  match fl, h with
  | 0, h =>
    obtain ⟨x, rfl, h⟩ := zVi_e h
    cases ty <;> first | exact ⟨⟨rfl, rfl⟩, h⟩ | cases hf
  | 1, h =>
    obtain ⟨x, e1, h0, h2⟩ := zVi_e h
    rw [e1]
    cases ty <;> first | (rcases h0 with e2 | e2 <;> rw [e2] <;> exact ⟨⟨rfl, rfl⟩, h2⟩) | cases hf
  | 2, h =>
    rcases zVa_e h with ⟨x, rfl, h⟩ | ⟨rfl, h⟩ <;> cases ty <;> first | exact ⟨⟨rfl, rfl⟩, h⟩ | cases hf
  | n + 3, h => exact h.elim
-- the pool's words
def zFOk (own : String) (q : Nat × Nat × Nat × Nat × Bool) : Prop := ∃ (Cn : String) (T : u_T) (N : Nat) (ty : FieldType), zClass q.2.1 Cn T N ∧ q.2.2.1 < N ∧ Jvm.Cond.fieldLink own q.1 (T q.2.2.1).1 (T q.2.2.1).2.1 (T q.2.2.1).2.2.1 ∈ zT ∧ parseFieldDescriptor (T q.2.2.1).2.2.1 = some ty ∧ zFlag q.2.2.2.1 ty = true ∧ ((T q.2.2.1).2.2.2 = false ∨ (q.2.2.2.2 = true ∧ (T q.2.2.1).1 = own) ∨ q.2.2.2.1 = 3)
def zMOk (own : String) (q : Nat × Nat × Nat × Nat × zG) : Prop := (q.2.1 = 4 ∧ Jvm.Cond.methodLink own q.1 objectInit ∈ zT ∧ Jvm.Cond.instanceMethod objectInit ∈ zT ∧ Jvm.Cond.code objectInit ⟨#[0xb1]⟩ 1 none ∈ zT) ∨ zMeth own q.2.2.2.2 q.1 q.2.1 q.2.2.1 q.2.2.2.1
def zKOk (own : String) (q : Nat × Value) : Prop := match q.2 with
  | .int v => Jvm.Cond.constant own q.1 v ∈ zT
  | .long v => Jvm.Cond.constantLong own q.1 v ∈ zT
  | _ => False
def zNOk (own : String) (q : Nat × Nat × Nat × List Value) : Prop := ∃ (Cn : String) (T : u_T) (ty : Nat → FieldType), zClass q.2.1 Cn T q.2.2.1 ∧ (∀ k, k < q.2.2.1 → parseFieldDescriptor (T k).2.2.1 = some (ty k)) ∧ Jvm.Cond.classLink own q.1 Cn ∈ zT ∧ Jvm.Cond.instantiable Cn q.2.2.1 ∈ zT ∧ Jvm.Cond.initialized Cn ∈ zT ∧ (∀ j, j < q.2.2.1 → defaultValue (ty j) = vp_V q.2.2.2 j) ∧ ∀ ad : Nat → Nat, q.2.2.2.map (zRe ad) = q.2.2.2
def zPool (own : String) (cp : zC) : Prop := (∀ q ∈ cp.1, zFOk own q) ∧ (∀ q ∈ cp.2.1, zMOk own q) ∧ (∀ q ∈ cp.2.2.1, zKOk own q) ∧ (∀ q ∈ cp.2.2.2, zNOk own q)
def zRt (st : List Value) (r : Option FieldType) (k : Prop) : Prop := match st, r with
  | [], none => k
  | _, _ => False
theorem zRt_e {st : List Value} {r : Option FieldType} {k : Prop} (h : zRt st r k) : st = [] ∧ r = none ∧ k := by
  cases st with
  | nil =>
    cases r with
    | none => exact ⟨rfl, rfl, h⟩
    | some t => exact h.elim
  | cons v q => exact (show False from h).elim
abbrev zNx : Type := Nat → List (Option Value) → List Value → List va_E → Nat → Nat → Prop
def zIf (c : ClassFile.Cond) (x y : Int32) (a b : Prop) : Prop := match c with
  | .eq => (x = y → a) ∧ (¬ x = y → b)
  | .ne => (x = y → b) ∧ (¬ x = y → a)
  | .lt => (x < y → a) ∧ (¬ x < y → b)
  | .ge => (y ≤ x → a) ∧ (¬ y ≤ x → b)
  | .gt => (y < x → a) ∧ (¬ y < x → b)
  | .le => (x ≤ y → a) ∧ (¬ x ≤ y → b)
/-- a call's piece -/
def zCall (d : Nat) (nx : zNx) (pc : Nat) (ls : List (Option Value)) (σ : List va_E) (uc us mc ms : Nat) (g' : zG) (av rest : List Value) : Prop := match d with
  | 0 => False
  | d + 1 => zB (Nat.ble (zCat rest) 8) (zB (Nat.ble (uc + g'.2.2.2.2.1) mc) (zB (Nat.ble (us + g'.2.2.2.2.2) ms) (zB (Nat.beq g'.2.2.2.2.1 0 || (zBO σ.length ls && zBL σ.length rest)) (True ∧ zRuns g' d av σ (fun v σ' => nx (pc + 3) ls (v.toList ++ rest) σ' (uc + g'.2.2.2.2.1) (us + g'.2.2.2.2.2))))))
def zI (g : zG) (ini : Bool) (cp : zC) (d : Nat) (Q : Option Value → List va_E → Prop) (nx : zNx) (lit : Value) (tgt : Nat) (tl : List Nat) (pc : Nat) (ls : List (Option Value)) (st : List Value) (σ : List va_E) (uc us : Nat) : Instr → Prop
  | .aconst_null => nx (pc + 1) ls (.null :: st) σ uc us
  | .iconst _ => zVi lit fun v => nx (pc + 1) ls (.int v :: st) σ uc us
  | .bipush _ => zVi lit fun v => nx (pc + 2) ls (.int v :: st) σ uc us
  | .sipush _ => zVi lit fun v => nx (pc + 3) ls (.int v :: st) σ uc us
  | .ldc i => zSome (zFind cp.2.2.1 i) fun v => zVi v fun v => nx (pc + 2) ls (.int v :: st) σ uc us
  | .ldc_w i => zSome (zFind cp.2.2.1 i) fun v => zVi v fun v => nx (pc + 3) ls (.int v :: st) σ uc us
  | .ldc2_w i => zSome (zFind cp.2.2.1 i) fun v => zVl v fun v => nx (pc + 3) ls (.long v :: st) σ uc us
  | .iload_n k => zSome (zGet ls k.val) fun v => zVi v fun x => nx (pc + 1) ls (.int x :: st) σ uc us
  | .iload k => zSome (zGet ls k) fun v => zVi v fun x => nx (pc + 2) ls (.int x :: st) σ uc us
  | .lload_n k => zSome (zGet ls k.val) fun v => zVl v fun x => nx (pc + 1) ls (.long x :: st) σ uc us
  | .aload_n k => zSome (zGet ls k.val) fun v => zVa v (fun x => nx (pc + 1) ls (.ref x :: st) σ uc us) (nx (pc + 1) ls (.null :: st) σ uc us)
  | .aload k => zSome (zGet ls k) fun v => zVa v (fun x => nx (pc + 2) ls (.ref x :: st) σ uc us) (nx (pc + 2) ls (.null :: st) σ uc us)
  | .istore_n k => zTi st fun x r => zB (Nat.blt k.val g.2.2.1) (nx (pc + 1) (zPut ls k.val (.int x)) r σ uc us)
  | .istore k => zTi st fun x r => zB (Nat.blt k g.2.2.1) (nx (pc + 2) (zPut ls k (.int x)) r σ uc us)
  | .astore_n k => zTop st fun v r => zB (Nat.blt k.val g.2.2.1) (zVa v (fun x => nx (pc + 1) (zPut ls k.val (.ref x)) r σ uc us) (nx (pc + 1) (zPut ls k.val .null) r σ uc us))
  | .astore k => zTop st fun v r => zB (Nat.blt k g.2.2.1) (zVa v (fun x => nx (pc + 2) (zPut ls k (.ref x)) r σ uc us) (nx (pc + 2) (zPut ls k .null) r σ uc us))
  | .lstore_n k => zTl st fun x r => zB (Nat.blt (k.val + 1) g.2.2.1) (nx (pc + 1) (zDel (zPut ls k.val (.long x)) (k.val + 1)) r σ uc us)
  | .iinc k _ => zSome (zGet ls k) fun v => zVi v fun x => zVi lit fun n => zB (Nat.blt k g.2.2.1) (nx (pc + 3) (zPut ls k (.int (x + n))) st σ uc us)
  | .iadd => zTii st fun x y r => nx (pc + 1) ls (.int (x + y) :: r) σ uc us
  | .isub => zTii st fun x y r => nx (pc + 1) ls (.int (x - y) :: r) σ uc us
  | .imul => zTii st fun x y r => nx (pc + 1) ls (.int (x * y) :: r) σ uc us
  | .iand => zTii st fun x y r => nx (pc + 1) ls (.int (x &&& y) :: r) σ uc us
  | .ior => zTii st fun x y r => nx (pc + 1) ls (.int (x ||| y) :: r) σ uc us
  | .ixor => zTii st fun x y r => nx (pc + 1) ls (.int (x ^^^ y) :: r) σ uc us
  | .ishl => zTii st fun x y r => nx (pc + 1) ls (.int (x <<< (y &&& 31)) :: r) σ uc us
  | .ishr => zTii st fun x y r => nx (pc + 1) ls (.int (x >>> (y &&& 31)) :: r) σ uc us
  | .iushr => zTii st fun x y r => nx (pc + 1) ls (.int ((x.toUInt32 >>> (y.toUInt32 &&& Int32.toUInt32 31)).toInt32) :: r) σ uc us
  | .idiv => zTii st fun x y r => (¬ y = 0) ∧ nx (pc + 1) ls (.int (x / y) :: r) σ uc us
  | .irem => zTii st fun x y r => (¬ y = 0) ∧ nx (pc + 1) ls (.int (x - x / y * y) :: r) σ uc us
  | .ineg => zTi st fun x r => nx (pc + 1) ls (.int (-x) :: r) σ uc us
  | .ladd => zTll st fun x y r => nx (pc + 1) ls (.long (x + y) :: r) σ uc us
  | .lmul => zTll st fun x y r => nx (pc + 1) ls (.long (x * y) :: r) σ uc us
  | .land => zTll st fun x y r => nx (pc + 1) ls (.long (x &&& y) :: r) σ uc us
  | .ldiv => zTll st fun x y r => (¬ y = 0) ∧ nx (pc + 1) ls (.long (x / y) :: r) σ uc us
  | .i2l => zTi st fun x r => nx (pc + 1) ls (.long x.toInt64 :: r) σ uc us
  | .l2i => zTl st fun x r => nx (pc + 1) ls (.int x.toInt32 :: r) σ uc us
  | .dup => zTop st fun v r => zV1 v (nx (pc + 1) ls (v :: v :: r) σ uc us)
  | .dup2 => zTop st fun v r => zTop r fun u r => zV1 v (zV1 u (nx (pc + 1) ls (v :: u :: v :: u :: r) σ uc us))
  | .pop => zTop st fun v r => zV1 v (nx (pc + 1) ls r σ uc us)
  | .ifCond c _ => zTi st fun x r => zIf c x 0 (nx tgt ls r σ uc us) (nx (pc + 3) ls r σ uc us)
  | .if_icmp c _ => zTii st fun x y r => zIf c x y (nx tgt ls r σ uc us) (nx (pc + 3) ls r σ uc us)
  | .goto _ => nx tgt ls st σ uc us
  | .ifnull _ => zTop st fun v r => zVa v (fun _ => nx (pc + 3) ls r σ uc us) (nx tgt ls r σ uc us)
  | .ifnonnull _ => zTop st fun v r => zVa v (fun _ => nx tgt ls r σ uc us) (nx (pc + 3) ls r σ uc us)
  | .tableswitch .. => zTi st fun x r => zSw x (nx tgt ls r σ uc us) (fun t => nx t ls r σ uc us) 0 tl
  | .arraylength => zTr st fun a r => zLng σ a fun n => nx (pc + 1) ls (.int (Int32.ofNat n) :: r) σ uc us
  | .iaload => zTi st fun i r => zTr r fun a r => zArr σ a 0 fun n f => vp_in i n ∧ nx (pc + 1) ls (.int (f i.toNatClampNeg) :: r) σ uc us
  | .baload => zTi st fun i r => zTr r fun a r => zArr σ a 1 fun n f => vp_in i n ∧ nx (pc + 1) ls (.int (f i.toNatClampNeg) :: r) σ uc us
  | .aaload => zTi st fun i r => zTr r fun a r => zArq σ a fun n f => vp_in i n ∧ nx (pc + 1) ls (zRf (f i.toNatClampNeg) :: r) σ uc us
  | .iastore => zTi st fun x r => zTi r fun i r => zTr r fun a r => zArr σ a 0 fun n f => vp_in i n ∧ nx (pc + 1) ls r (σ.set a (.inl (0, n, .inl (upd f i.toNatClampNeg x)))) uc us
  | .bastore => zTi st fun x r => zTi r fun i r => zTr r fun a r => zArr σ a 1 fun n f => vp_in i n ∧ nx (pc + 1) ls r (σ.set a (.inl (1, n, .inl (upd f i.toNatClampNeg (vp_nar .boolean x))))) uc us
  | .getfield i => zSome (zFind cp.1 i) fun q => zTr st fun a r => zObj σ a q.1 fun fs => zSome (zNth fs q.2.1) fun v => nx (pc + 3) ls (v :: r) σ uc us
  | .putfield i => zSome (zFind cp.1 i) fun q => zTop st fun v r => zTr r fun a r => zObj σ a q.1 fun fs => zB (Nat.blt q.2.1 fs.length) (zB (!q.2.2.2 || ini) (zPutOk q.2.2.1 v (nx (pc + 3) ls r (σ.set a (.inr (q.1, fs.set q.2.1 v))) uc us)))
  | .new i => zSome (zFind cp.2.2.2 i) fun q => zB (zBO σ.length ls && (zBL σ.length st && zBS σ.length σ)) (zB (Nat.ble (uc + 1) g.2.2.2.2.1) (zB (Nat.ble (us + q.2.1) g.2.2.2.2.2) (nx (pc + 3) ls (.ref σ.length :: st) (σ ++ [.inr (q.1, q.2.2)]) (uc + 1) (us + q.2.1))))
  | .newarray .int => zTi st fun n r => zB (decide (¬ n < 0) && Nat.ble n.toNatClampNeg 100000) (zB (zBO σ.length ls && (zBL σ.length r && zBS σ.length σ)) (zB (Nat.ble (uc + 1) g.2.2.2.2.1) (zB (Nat.ble (us + n.toNatClampNeg) g.2.2.2.2.2) (nx (pc + 2) ls (.ref σ.length :: r) (σ ++ [.inl (0, n.toNatClampNeg, .inl (fun _ => 0))]) (uc + 1) (us + n.toNatClampNeg)))))
  | .newarray .boolean => zTi st fun n r => zB (decide (¬ n < 0) && Nat.ble n.toNatClampNeg 100000) (zB (zBO σ.length ls && (zBL σ.length r && zBS σ.length σ)) (zB (Nat.ble (uc + 1) g.2.2.2.2.1) (zB (Nat.ble (us + n.toNatClampNeg) g.2.2.2.2.2) (nx (pc + 2) ls (.ref σ.length :: r) (σ ++ [.inl (1, n.toNatClampNeg, .inl (fun _ => 0))]) (uc + 1) (us + n.toNatClampNeg)))))
  | .invokevirtual i => zSome (zFind cp.2.1 i) fun q => zB (Nat.beq q.1 0) (zSome (zPop q.2.1 [] st) fun ar => zTr ar.1 fun b _ => zObj σ b q.2.2.1 fun _ => zCall d nx pc ls σ uc us g.2.2.2.2.1 g.2.2.2.2.2 q.2.2.2 ar.1 ar.2)
  | .invokestatic i => zSome (zFind cp.2.1 i) fun q => zB (Nat.beq q.1 1 || Nat.beq q.1 3) (zSome (zPop q.2.1 [] st) fun ar => zCall d nx pc ls σ uc us g.2.2.2.2.1 g.2.2.2.2.2 q.2.2.2 ar.1 ar.2)
  | .invokespecial i => zSome (zFind cp.2.1 i) fun q => match q.1 with
    | 4 => match d with
      | 0 => False
      | _ + 1 => zTr st fun _ r => zB (Nat.ble (zCat r) 8) (nx (pc + 3) ls r σ uc us)
    | 2 => zSome (zPop q.2.1 [] st) fun ar => zTr ar.1 fun b _ => zObj σ b q.2.2.1 fun _ => zCall d nx pc ls σ uc us g.2.2.2.2.1 g.2.2.2.2.2 q.2.2.2 ar.1 ar.2
    | _ => False
  | .ireturn => zTi st fun v r => match r, g.2.2.2.1 with
    | [], some .int => Q (some (.int v)) σ
    | [], some .boolean => (v &&& 1 = v) ∧ Q (some (.int v)) σ
    | _, _ => False
  | .return_ => zRt st g.2.2.2.1 (Q none σ)
  | .areturn => zTop st fun v r => match r, g.2.2.2.1 with
    | [], some (.object _) => zVa v (fun x => Q (some (.ref x)) σ) (Q (some .null) σ)
    | _, _ => False
  | _ => False
def zX (g : zG) (ini : Bool) (cp : zC) (cd : List zR) (cuts : List Nat) (d : Nat) (Q : Option Value → List va_E → Prop) : Nat → Bool → Nat → List (Option Value) → List Value → List va_E → Nat → Nat → Prop
  | 0, _, _, _, _, _, _, _ => False
  | n + 1, fresh, pc, ls, st, σ, uc, us => match fresh || !zMem pc cuts with
    | false => True ∧ zGood g d Q pc ls st σ uc us
    | true => match zFind cd pc with
      | none => False
      | some q => zI g ini cp d Q (fun pc' ls' st' σ' uc' us' => zX g ini cp cd cuts d Q n false pc' ls' st' σ' uc' us') q.2.2.1 q.2.2.2.1 q.2.2.2.2 pc ls st σ uc us q.1
theorem zIn {w : Jvm.Cond} (i : Nat) (h : lw_tbl[i]? = some w) (hg : goodWord w = true) : w ∈ zT := List.mem_filter.mpr ⟨List.mem_of_getElem? h, hg⟩
theorem zIm {w : Jvm.Cond} (i : Nat) (h : lw_tbl[i]? = some w) (hg : zIsN w = true) : w ∈ zN := List.mem_filter.mpr ⟨List.mem_of_getElem? h, hg⟩
theorem zT_int : Jvm.Cond.arrayClass (newarray.typeOf .int) ∈ zT := zIn 106 (by decide +kernel) (by decide +kernel)
theorem zT_bool : Jvm.Cond.arrayClass (newarray.typeOf .boolean) ∈ zT := zIn 983 (by decide +kernel) (by decide +kernel)

section ZS
variable {g : zG} {ini : Bool} {cp : zC} {d : Nat} {Q : Option Value → List va_E → Prop} {nx : zNx} {lit : Value} {tgt : Nat} {tl : List Nat} {pc : Nat} {ls : List (Option Value)} {st : List Value} {σ : List va_E} {uc us : Nat}
theorem zIf_eq {c : ClassFile.Cond} {x : Int32} {off : Int} {r : List Value} (hdg : decode g.2.1 pc = .ok (.ifCond c off, 3)) (ht : (pc : Int) + off = (tgt : Int)) (h : zIf c x 0 (zGood g d Q tgt ls r σ uc us) (zGood g d Q (pc + 3) ls r σ uc us)) : zGood g d Q pc ls (.int x :: r) σ uc us := by
  cases c
  · exact s_if_eq hdg ht h.1 h.2
  · exact s_if_ne hdg ht h.2 h.1
  · exact s_if_lt hdg ht h.1 h.2
  · exact s_if_ge hdg ht h.1 h.2
  · exact s_if_gt hdg ht h.1 h.2
  · exact s_if_le hdg ht h.1 h.2
theorem zIcmp_eq {c : ClassFile.Cond} {x y : Int32} {off : Int} {r : List Value} (hdg : decode g.2.1 pc = .ok (.if_icmp c off, 3)) (ht : (pc : Int) + off = (tgt : Int)) (h : zIf c x y (zGood g d Q tgt ls r σ uc us) (zGood g d Q (pc + 3) ls r σ uc us)) : zGood g d Q pc ls (.int y :: .int x :: r) σ uc us := by
  cases c
  · exact s_icmp_eq hdg ht h.1 h.2
  · exact s_icmp_ne hdg ht h.2 h.1
  · exact s_icmp_lt hdg ht h.1 h.2
  · exact s_icmp_ge hdg ht h.1 h.2
  · exact s_icmp_gt hdg ht h.1 h.2
  · exact s_icmp_le hdg ht h.1 h.2
theorem zIf_mono {c : ClassFile.Cond} {x y : Int32} {a b a' b' : Prop} (ha : a → a') (hb : b → b') (h : zIf c x y a b) : zIf c x y a' b' := by
  cases c <;> exact ⟨fun q => by first | exact ha (h.1 q) | exact hb (h.1 q), fun q => by first | exact hb (h.2 q) | exact ha (h.2 q)⟩
theorem zLng_s {a : Nat} {r : List Value} {k : Nat → Prop} (hdg : decode g.2.1 pc = .ok (.arraylength, 1)) (h : zLng σ a k) (hk : ∀ n, k n → zGood g d Q (pc + 1) ls (.int (Int32.ofNat n) :: r) σ uc us) : zGood g d Q pc ls (.ref a :: r) σ uc us := by
  unfold zLng at h
  rw [zNth_eq] at h
  split at h
  · rename_i t n f e
    obtain ⟨h1, h2⟩ := zB_e h
    have h3 : t ≤ 1 := Nat.le_of_ble_eq_true h1
    exact s_alen (t := t) (Nat.le_one_iff_eq_zero_or_eq_one.mp h3) hdg e (hk n h2)
  · rename_i t n f e
    exact s_alenq hdg e (hk n h)
  · exact h.elim
theorem zCall_s {idx kind n ci : Nat} {g' : zG} {av rest : List Value} (hm : zMeth g.1.cls g' idx kind n ci) (hdg : decode g.2.1 pc = .ok ((if kind = 0 then Instr.invokevirtual idx else if kind = 2 then Instr.invokespecial idx else Instr.invokestatic idx), 3))
    (hpop : zPop n [] st = some (av, rest)) (hrecv : (kind = 0 ∨ kind = 2) → ∃ b fs As, av = .ref b :: As ∧ σ[b]? = some (.inr (ci, fs)))
    (hnx : ∀ pc' ls' st' σ' uc' us', nx pc' ls' st' σ' uc' us' → zGood g d Q pc' ls' st' σ' uc' us')
    (h : zCall d nx pc ls σ uc us g.2.2.2.2.1 g.2.2.2.2.2 g' av rest) : zGood g d Q pc ls st σ uc us := by
  cases d with
  | zero => exact h.elim
  | succ d =>
    obtain ⟨b1, h⟩ := zB_e h
    obtain ⟨b2, h⟩ := zB_e h
    obtain ⟨b3, h⟩ := zB_e h
    obtain ⟨b4, -, h⟩ := zB_e h
    exact s_call hm hdg hpop (Nat.le_of_ble_eq_true b1) hrecv (fun hz => by
      cases hb : Nat.beq g'.2.2.2.2.1 0 with
      | true => exact absurd (Nat.eq_of_beq_eq_true hb) hz
      | false => rw [hb] at b4; exact b4) (Nat.le_of_ble_eq_true b2) (Nat.le_of_ble_eq_true b3) (h.mono fun v σ' q => hnx _ _ _ _ _ _ q)
theorem zSw_s {df lo hi : Int} {offs : Array Int} {len : Nat} {x : Int32} {r : List Value} (hdg : decode g.2.1 pc = .ok (.tableswitch df lo hi offs, len)) (hE : lo = 0 ∧ hi + 1 = (tl.length : Int) ∧ (pc : Int) + df = (tgt : Int) ∧ offs.toList.map (fun o => (pc : Int) + o) = tl.map Int.ofNat ∧ tl.length ≤ 100)
    (h : zSw x (zGood g d Q tgt ls r σ uc us) (fun t => zGood g d Q t ls r σ uc us) 0 tl) : zGood g d Q pc ls (.int x :: r) σ uc us := by
  obtain ⟨rfl, e1, e2, e3, e4⟩ := hE
  have key : ∀ (tl : List Nat) (i : Nat), i + tl.length ≤ 500 → zSw x (zGood g d Q tgt ls r σ uc us) (fun t => zGood g d Q t ls r σ uc us) i tl → (∀ k t, tl[k]? = some t → x = Int32.ofNat (i + k) → zGood g d Q t ls r σ uc us) ∧ ((∀ k, k < tl.length → ¬ x = Int32.ofNat (i + k)) → zGood g d Q tgt ls r σ uc us) := by
    intro tl
    induction tl with
    | nil => intro i _ h; exact ⟨fun k t hk => by simp at hk, fun _ => h⟩
    | cons a tl ih =>
      intro i hlim h
      rw [List.length_cons] at hlim
      by_cases hx : x = Int32.ofNat i
      · refine ⟨fun k t hk hxk => ?_, fun hno => absurd hx (by have := hno 0 (by simp); simpa using this)⟩
        cases k with
        | zero => cases hk; exact h.1 hx
        | succ k =>
          exact absurd hxk (by
            rw [hx]
            intro q
            have q2 : k < tl.length := (List.getElem?_eq_some_iff.mp (by simpa using hk)).1
            have q3 := congrArg Int32.toInt q
            have q4 : ((i : Nat) : Int) = ((i + (k + 1) : Nat) : Int) := ((nI_toInt (n := i) (by omega)).symm.trans q3).trans (nI_toInt (n := i + (k + 1)) (by omega))
            omega)
      · obtain ⟨h1, h2⟩ := ih (i + 1) (by omega) (h.2 hx)
        refine ⟨fun k t hk hxk => ?_, fun hno => h2 fun k hk => ?_⟩
        · cases k with
          | zero => exact absurd hxk hx
          | succ k => exact h1 k t (by simpa using hk) (by rw [hxk, show i + (k + 1) = i + 1 + k by omega])
        · have := hno (k + 1) (by simp; omega)
          rwa [show i + (k + 1) = i + 1 + k by omega] at this
  obtain ⟨h1, h2⟩ := key tl 0 (by omega) h
  intro p l e s m args below meth c cs D A ad0 ad n0 H locs lr C hn hP hD hS hl
  by_cases hr : x.toInt < 0 ∨ hi < x.toInt
  · refine lv_tableOut C.1 C.2.1 hdg hr e2 (h2 (fun k hk q => ?_) p l e s m args below meth c cs D A ad0 ad n0 H locs lr C hn hP hD hS hl)
    have h9 : x.toInt = (k : Int) := by rw [q, Nat.zero_add]; exact nI_toInt (n := k) (by omega)
    omega
  · have h8 : ¬ x.toInt < 0 := fun q => hr (Or.inl q)
    have h7 : ¬ hi < x.toInt := fun q => hr (Or.inr q)
    obtain ⟨k, hk⟩ : ∃ k : Nat, x.toInt = (k : Int) := ⟨x.toInt.toNat, by omega⟩
    have hkl : k < tl.length := by omega
    have hlen : offs.toList.length = tl.length := by have := congrArg List.length e3; simpa using this
    have ho : (offs.toList.map (fun o => (pc : Int) + o))[k]? = (tl.map Int.ofNat)[k]? := by rw [e3]
    rw [List.getElem?_map, List.getElem?_map, List.getElem?_eq_getElem hkl] at ho
    obtain ⟨o, ho1, ho2⟩ := Option.map_eq_some_iff.mp ho
    refine lv_tableIn (off := o) (tgt := tl[k]) C.1 C.2.1 hdg h8 h7 (by rw [← Array.getElem?_toList, hk]; simpa using ho1) ho2 ?_
    refine h1 k _ (List.getElem?_eq_getElem hkl) ?_ p l e s m args below meth c cs D A ad0 ad n0 H locs lr C hn hP hD hS hl
    rw [Nat.zero_add]
    apply Int32.toInt_inj.mp
    rw [hk]
    exact (nI_toInt (n := k) (by omega)).symm
set_option maxHeartbeats 4000000 in
theorem zI_s {i : Instr} {len : Nat} (hini : ini = true → g.1.name = "<init>") (hcp : zPool g.1.cls cp) (hdg0 : decode g.2.1 pc = .ok (i, len)) (hok : zOkB (pc, i, len, lit, tgt, tl) = true) (hnx : ∀ pc' ls' st' σ' uc' us', nx pc' ls' st' σ' uc' us' → zGood g d Q pc' ls' st' σ' uc' us')
    (h : zI g ini cp d Q nx lit tgt tl pc ls st σ uc us i) : zGood g d Q pc ls st σ uc us := by
  have hN : ∀ {pc' : Nat} {ls' : List (Option Value)} {st' : List Value} {σ' : List va_E} {uc' us' : Nat}, nx pc' ls' st' σ' uc' us' → zGood g d Q pc' ls' st' σ' uc' us' := fun q => hnx _ _ _ _ _ _ q
  obtain ⟨o1, o2⟩ := Bool.and_eq_true_iff.mp hok
  have hdg : zIsSw i = false → decode g.2.1 pc = .ok (i, zLen i) := fun q => by
    rw [hdg0]
    have o3 : (zIsSw i || Nat.beq len (zLen i)) = true := o1
    rw [q] at o3
    rw [Nat.eq_of_beq_eq_true o3]
  have blt : ∀ {a b : Nat}, Nat.blt a b = true → a < b := fun q => Nat.lt_of_lt_of_le (Nat.lt_succ_self _) (Nat.le_of_ble_eq_true q)
  cases i

  case aconst_null => exact s_null (hdg rfl) (hN h)
  case iconst n => replace h := zVi_e h; obtain ⟨v, rfl, h⟩ := h; exact s_iconst (hdg rfl) (by have := of_decide_eq_true o2; exact (Value.int.inj this).symm) (hN h)
  case bipush n => replace h := zVi_e h; obtain ⟨v, rfl, h⟩ := h; exact s_bipush (hdg rfl) (by have := of_decide_eq_true o2; exact (Value.int.inj this).symm) (hN h)
  case sipush n => replace h := zVi_e h; obtain ⟨v, rfl, h⟩ := h; exact s_sipush (hdg rfl) (by have := of_decide_eq_true o2; exact (Value.int.inj this).symm) (hN h)
  case ldc n => replace h := zSome_e h; obtain ⟨v, e, h⟩ := h; replace h := zVi_e h; obtain ⟨x, rfl, h⟩ := h; exact s_ldc (hdg rfl) (hcp.2.2.1 _ (zFind_mem e)) (hN h)
  case ldc_w n => replace h := zSome_e h; obtain ⟨v, e, h⟩ := h; replace h := zVi_e h; obtain ⟨x, rfl, h⟩ := h; exact s_ldcw (hdg rfl) (hcp.2.2.1 _ (zFind_mem e)) (hN h)
  case ldc2_w n => replace h := zSome_e h; obtain ⟨v, e, h⟩ := h; replace h := zVl_e h; obtain ⟨x, rfl, h⟩ := h; exact s_ldc2 (hdg rfl) (hcp.2.2.1 _ (zFind_mem e)) (hN h)
  case iload_n k => replace h := zSome_e h; obtain ⟨v, e, h⟩ := h; obtain ⟨x, rfl, h⟩ := zVi_e h; exact s_iload_n (hdg rfl) e (hN h)
  case iload k => replace h := zSome_e h; obtain ⟨v, e, h⟩ := h; obtain ⟨x, rfl, h⟩ := zVi_e h; exact s_iload (hdg rfl) e (hN h)
  case lload_n k => replace h := zSome_e h; obtain ⟨v, e, h⟩ := h; obtain ⟨x, rfl, h⟩ := zVl_e h; exact s_lload_n (hdg rfl) e (hN h)
  case aload_n k => replace h := zSome_e h; obtain ⟨v, e, h⟩ := h; replace h := zVa_e h; rcases h with ⟨x, rfl, h⟩ | ⟨rfl, h⟩; exact s_aload_n (hdg rfl) e (hN h); exact s_aload_nN (hdg rfl) e (hN h)
  case aload k => replace h := zSome_e h; obtain ⟨v, e, h⟩ := h; replace h := zVa_e h; rcases h with ⟨x, rfl, h⟩ | ⟨rfl, h⟩; exact s_aload (hdg rfl) e (hN h); exact s_aloadN (hdg rfl) e (hN h)
  case istore_n k => replace h := zTi_e h; obtain ⟨x, r, rfl, h⟩ := h; replace h := zB_e h; obtain ⟨hb, h⟩ := h; exact s_istore_n (hdg rfl) (blt hb) (hN h)
  case istore k => replace h := zTi_e h; obtain ⟨x, r, rfl, h⟩ := h; replace h := zB_e h; obtain ⟨hb, h⟩ := h; exact s_istore (hdg rfl) (blt hb) (hN h)
  case astore_n k => replace h := zTop_e h; obtain ⟨v, r, rfl, h⟩ := h; replace h := zB_e h; obtain ⟨hb, h⟩ := h; replace h := zVa_e h; rcases h with ⟨x, rfl, h⟩ | ⟨rfl, h⟩; exact s_astore_n (hdg rfl) (blt hb) (hN h); exact s_astore_nN (hdg rfl) (blt hb) (hN h)
  case astore k => replace h := zTop_e h; obtain ⟨v, r, rfl, h⟩ := h; replace h := zB_e h; obtain ⟨hb, h⟩ := h; replace h := zVa_e h; rcases h with ⟨x, rfl, h⟩ | ⟨rfl, h⟩; exact s_astore (hdg rfl) (blt hb) (hN h); exact s_astoreN (hdg rfl) (blt hb) (hN h)
  case lstore_n k => replace h := zTl_e h; obtain ⟨x, r, rfl, h⟩ := h; replace h := zB_e h; obtain ⟨hb, h⟩ := h; exact s_lstore_n (hdg rfl) (blt hb) (hN h)
  case iinc k n => replace h := zSome_e h; obtain ⟨v, e, h1⟩ := h; obtain ⟨x, e1, h2⟩ := zVi_e h1; obtain ⟨y, e2, h3⟩ := zVi_e h2; obtain ⟨hb, h4⟩ := zB_e h3; exact s_iinc (hdg rfl) (by have o3 := of_decide_eq_true o2; exact (Value.int.inj (e2.symm.trans o3)).symm) (by rw [e, e1]) (blt hb) (hN h4)
  case iadd => replace h := zTii_e h; obtain ⟨x, y, r, rfl, h⟩ := h; exact s_iadd (hdg rfl) (hN h)
  case isub => replace h := zTii_e h; obtain ⟨x, y, r, rfl, h⟩ := h; exact s_isub (hdg rfl) (hN h)
  case imul => replace h := zTii_e h; obtain ⟨x, y, r, rfl, h⟩ := h; exact s_imul (hdg rfl) (hN h)
  case iand => replace h := zTii_e h; obtain ⟨x, y, r, rfl, h⟩ := h; exact s_iand (hdg rfl) (hN h)
  case ior => replace h := zTii_e h; obtain ⟨x, y, r, rfl, h⟩ := h; exact s_ior (hdg rfl) (hN h)
  case ixor => replace h := zTii_e h; obtain ⟨x, y, r, rfl, h⟩ := h; exact s_ixor (hdg rfl) (hN h)
  case ishl => replace h := zTii_e h; obtain ⟨x, y, r, rfl, h⟩ := h; exact s_ishl (hdg rfl) (hN h)
  case ishr => replace h := zTii_e h; obtain ⟨x, y, r, rfl, h⟩ := h; exact s_ishr (hdg rfl) (hN h)
  case iushr => replace h := zTii_e h; obtain ⟨x, y, r, rfl, h⟩ := h; exact s_iushr (hdg rfl) (hN h)
  case idiv => replace h := zTii_e h; obtain ⟨x, y, r, rfl, h⟩ := h; exact s_idiv (hdg rfl) h.1 (hN h.2)
  case irem => replace h := zTii_e h; obtain ⟨x, y, r, rfl, h⟩ := h; exact s_irem (hdg rfl) h.1 (hN h.2)
  case ineg => replace h := zTi_e h; obtain ⟨x, r, rfl, h⟩ := h; exact s_ineg (hdg rfl) (hN h)
  case ladd => replace h := zTll_e h; obtain ⟨x, y, r, rfl, h⟩ := h; exact s_ladd (hdg rfl) (hN h)
  case lmul => replace h := zTll_e h; obtain ⟨x, y, r, rfl, h⟩ := h; exact s_lmul (hdg rfl) (hN h)
  case land => replace h := zTll_e h; obtain ⟨x, y, r, rfl, h⟩ := h; exact s_land (hdg rfl) (hN h)
  case ldiv => replace h := zTll_e h; obtain ⟨x, y, r, rfl, h⟩ := h; exact s_ldiv (hdg rfl) h.1 (hN h.2)
  case i2l => replace h := zTi_e h; obtain ⟨x, r, rfl, h⟩ := h; exact s_i2l (hdg rfl) (hN h)
  case l2i => replace h := zTl_e h; obtain ⟨x, r, rfl, h⟩ := h; exact s_l2i (hdg rfl) (hN h)
  case dup => replace h := zTop_e h; obtain ⟨v, r, rfl, h⟩ := h; replace h := zV1_e h; obtain ⟨hv, h⟩ := h; exact s_dup (hdg rfl) hv (hN h)
  case dup2 => replace h := zTop_e h; obtain ⟨v, r, rfl, h⟩ := h; replace h := zTop_e h; obtain ⟨u, r, rfl, h⟩ := h; replace h := zV1_e h; obtain ⟨hv, h⟩ := h; replace h := zV1_e h; obtain ⟨hu, h⟩ := h; exact s_dup2 (hdg rfl) hv hu (hN h)
  case pop => replace h := zTop_e h; obtain ⟨v, r, rfl, h⟩ := h; replace h := zV1_e h; obtain ⟨hv, h⟩ := h; exact s_pop (hdg rfl) hv (hN h)
  case ifCond c off => replace h := zTi_e h; obtain ⟨x, r, rfl, h⟩ := h; exact zIf_eq (hdg rfl) (of_decide_eq_true o2) (zIf_mono hN hN h)
  case if_icmp c off => replace h := zTii_e h; obtain ⟨x, y, r, rfl, h⟩ := h; exact zIcmp_eq (hdg rfl) (of_decide_eq_true o2) (zIf_mono hN hN h)
  case goto off => exact s_goto (hdg rfl) (of_decide_eq_true o2) (hN h)
  case ifnull off => replace h := zTop_e h; obtain ⟨v, r, rfl, h⟩ := h; replace h := zVa_e h; rcases h with ⟨x, rfl, h⟩ | ⟨rfl, h⟩; exact s_ifnull (hdg rfl) (hN h); exact s_ifnullN (hdg rfl) (of_decide_eq_true o2) (hN h)
  case ifnonnull off => replace h := zTop_e h; obtain ⟨v, r, rfl, h⟩ := h; replace h := zVa_e h; rcases h with ⟨x, rfl, h⟩ | ⟨rfl, h⟩; exact s_ifnonnull (hdg rfl) (of_decide_eq_true o2) (hN h); exact s_ifnonnullN (hdg rfl) (hN h)
  case tableswitch df lo hi offs => 
    replace h := zTi_e h; obtain ⟨x, r, e1, h1⟩ := h
    rw [e1]
    have hmono : ∀ (tl : List Nat) (i : Nat), zSw x (nx tgt ls r σ uc us) (fun t => nx t ls r σ uc us) i tl → zSw x (zGood g d Q tgt ls r σ uc us) (fun t => zGood g d Q t ls r σ uc us) i tl := by
      intro tl
      induction tl with
      | nil => intro i h; exact hN h
      | cons a tl ih => intro i h; exact ⟨fun q => hN (h.1 q), fun q => ih _ (h.2 q)⟩
    exact zSw_s hdg0 (of_decide_eq_true o2) (hmono tl 0 h1)
  case arraylength => replace h := zTr_e h; obtain ⟨a, r, rfl, h⟩ := h; exact zLng_s (hdg rfl) h (fun n q => hN q)
  case iaload => replace h := zTi_e h; obtain ⟨i, r, rfl, h⟩ := h; replace h := zTr_e h; obtain ⟨a, r, rfl, h⟩ := h; replace h := zArr_e h; obtain ⟨n, f, ha, h⟩ := h; exact s_iald (hdg rfl) ha h.1 (hN h.2)
  case baload => replace h := zTi_e h; obtain ⟨i, r, rfl, h⟩ := h; replace h := zTr_e h; obtain ⟨a, r, rfl, h⟩ := h; replace h := zArr_e h; obtain ⟨n, f, ha, h⟩ := h; exact s_zald (hdg rfl) ha h.1 (hN h.2)
  case aaload => replace h := zTi_e h; obtain ⟨i, r, rfl, h⟩ := h; replace h := zTr_e h; obtain ⟨a, r, rfl, h⟩ := h; replace h := zArq_e h; obtain ⟨t, n, f, ha, h⟩ := h; exact s_aald (hdg rfl) ha h.1 (hN h.2)
  case iastore => replace h := zTi_e h; obtain ⟨x, r, rfl, h⟩ := h; replace h := zTi_e h; obtain ⟨i, r, rfl, h⟩ := h; replace h := zTr_e h; obtain ⟨a, r, rfl, h⟩ := h; replace h := zArr_e h; obtain ⟨n, f, ha, h⟩ := h; exact s_iast (hdg rfl) ha h.1 (hN h.2)
  case bastore => replace h := zTi_e h; obtain ⟨x, r, rfl, h⟩ := h; replace h := zTi_e h; obtain ⟨i, r, rfl, h⟩ := h; replace h := zTr_e h; obtain ⟨a, r, rfl, h⟩ := h; replace h := zArr_e h; obtain ⟨n, f, ha, h⟩ := h; exact s_zast (hdg rfl) ha h.1 (hN h.2)
  case getfield i => 
    replace h := zSome_e h; obtain ⟨q, e, h⟩ := h; replace h := zTr_e h; obtain ⟨a, r, rfl, h⟩ := h; replace h := zObj_e h; obtain ⟨fs, ha, h⟩ := h; replace h := zSome_e h; obtain ⟨v, hv, h⟩ := h
    obtain ⟨Cn, T, N, ty, f1, f2, f3, f4, f5, f6⟩ := hcp.1 _ (zFind_mem e)
    exact s_getf f1 f2 f3 (hdg rfl) ha (by rw [← zNth_eq]; exact hv) (hN h)
  case putfield i => 
    replace h := zSome_e h; obtain ⟨q, e, h⟩ := h; replace h := zTop_e h; obtain ⟨v, r, rfl, h⟩ := h; replace h := zTr_e h; obtain ⟨a, r, rfl, h⟩ := h; replace h := zObj_e h; obtain ⟨fs, ha, h⟩ := h; replace h := zB_e h; obtain ⟨b1, h⟩ := h; replace h := zB_e h; obtain ⟨b2, h⟩ := h
    obtain ⟨Cn, T, N, ty, f1, f2, f3, f4, f5, f6⟩ := hcp.1 _ (zFind_mem e)
    have f7 : (T q.2.1).2.2.2 = false ∨ (g.1.name = "<init>" ∧ (T q.2.1).1 = g.1.cls) := by
      rcases f6 with f6 | ⟨f6, f8⟩ | f6
      · exact Or.inl f6
      · have f9 : q.2.2.2 = true := f6
        rw [f9] at b2
        exact Or.inr ⟨hini b2, f8⟩
      · have f9 : q.2.2.1 = 3 := f6
        rw [f9] at h
        exact h.elim
    obtain ⟨hv, h2⟩ := zPutOk_e h f5
    exact s_putf f1 f2 f3 f4 f7 (hdg rfl) ha hv (blt b1) (hN h2)
  case new i => 
    replace h := zSome_e h; obtain ⟨q, e, h⟩ := h; replace h := zB_e h; obtain ⟨b1, h⟩ := h; replace h := zB_e h; obtain ⟨b2, h⟩ := h; replace h := zB_e h; obtain ⟨b3, h⟩ := h
    obtain ⟨Cn, T, ty, f1, f2, f3, f4, f5, f6, f7⟩ := hcp.2.2.2 _ (zFind_mem e)
    exact s_new f1 f2 f3 f4 f5 f6 f7 (hdg rfl) b1 (Nat.le_of_ble_eq_true b2) (Nat.le_of_ble_eq_true b3) (hN h)
  case newarray t => 
    cases t
    case int =>
      replace h := zTi_e h; obtain ⟨n, r, rfl, h⟩ := h; replace h := zB_e h; obtain ⟨b0, h⟩ := h; replace h := zB_e h; obtain ⟨b1, h⟩ := h; replace h := zB_e h; obtain ⟨b2, h⟩ := h; replace h := zB_e h; obtain ⟨b3, h⟩ := h
      obtain ⟨b4, b5⟩ := Bool.and_eq_true_iff.mp b0
      exact s_newa (t := 0) (Or.inl ⟨rfl, rfl⟩) zT_int (hdg rfl) (of_decide_eq_true b4) rfl (Nat.le_of_ble_eq_true b5) b1 (Nat.le_of_ble_eq_true b2) (Nat.le_of_ble_eq_true b3) (hN h)
    case boolean =>
      replace h := zTi_e h; obtain ⟨n, r, rfl, h⟩ := h; replace h := zB_e h; obtain ⟨b0, h⟩ := h; replace h := zB_e h; obtain ⟨b1, h⟩ := h; replace h := zB_e h; obtain ⟨b2, h⟩ := h; replace h := zB_e h; obtain ⟨b3, h⟩ := h
      obtain ⟨b4, b5⟩ := Bool.and_eq_true_iff.mp b0
      exact s_newa (t := 1) (Or.inr ⟨rfl, rfl⟩) zT_bool (hdg rfl) (of_decide_eq_true b4) rfl (Nat.le_of_ble_eq_true b5) b1 (Nat.le_of_ble_eq_true b2) (Nat.le_of_ble_eq_true b3) (hN h)
    all_goals exact (show False from h).elim
  case invokevirtual i => 
    replace h := zSome_e h; obtain ⟨q, e, h⟩ := h; replace h := zB_e h; obtain ⟨b1, h⟩ := h; replace h := zSome_e h; obtain ⟨ar, hp, h⟩ := h; replace h := zTr_e h; obtain ⟨b, As, hav, h⟩ := h; replace h := zObj_e h; obtain ⟨fs, hb, h⟩ := h
    have hk : q.1 = 0 := Nat.eq_of_beq_eq_true b1
    rcases hcp.2.1 _ (zFind_mem e) with ⟨f0, -⟩ | f0
    · exact absurd (hk.symm.trans f0) (by decide)
    · exact zCall_s f0 (by rw [if_pos hk]; exact hdg rfl) hp (fun _ => ⟨b, fs, As, hav, hb⟩) hnx h
  case invokestatic i => 
    replace h := zSome_e h; obtain ⟨q, e, h⟩ := h; replace h := zB_e h; obtain ⟨b1, h⟩ := h; replace h := zSome_e h; obtain ⟨ar, hp, h⟩ := h
    have hk : q.1 = 1 ∨ q.1 = 3 := by
      rcases Bool.or_eq_true_iff.mp b1 with b | b
      · exact Or.inl (Nat.eq_of_beq_eq_true b)
      · exact Or.inr (Nat.eq_of_beq_eq_true b)
    have hk0 : q.1 ≠ 0 := by rcases hk with k | k <;> rw [k] <;> decide
    have hk2 : q.1 ≠ 2 := by rcases hk with k | k <;> rw [k] <;> decide
    rcases hcp.2.1 _ (zFind_mem e) with ⟨f0, -⟩ | f0
    · exact absurd f0 (show ¬ q.1 = 4 by rcases hk with k | k <;> rw [k] <;> decide)
    · exact zCall_s f0 (by rw [if_neg hk0, if_neg hk2]; exact hdg rfl) hp (fun z => by rcases z with z | z; exact absurd z hk0; exact absurd z hk2) hnx h
  case invokespecial i => 
    replace h := zSome_e h; obtain ⟨q, e, h⟩ := h
    split at h
    · rename_i hk
      cases d with
      | zero => exact h.elim
      | succ d =>
        replace h := zTr_e h; obtain ⟨v, r, rfl, h⟩ := h; replace h := zB_e h; obtain ⟨b1, h⟩ := h
        rcases hcp.2.1 _ (zFind_mem e) with ⟨f0, f1, f2, f3⟩ | f0
        · exact s_oinit f1 f2 f3 (hdg rfl) (Nat.le_of_ble_eq_true b1) (hN h)
        · have f1 := f0.2.2.2.2
          rw [show (i, q).2.1 = 4 from hk] at f1
          exact f1.elim
    · rename_i hk
      replace h := zSome_e h; obtain ⟨ar, hp, h⟩ := h; replace h := zTr_e h; obtain ⟨b, As, hav, h⟩ := h; replace h := zObj_e h; obtain ⟨fs, hb, h⟩ := h
      rcases hcp.2.1 _ (zFind_mem e) with ⟨f0, -⟩ | f0
      · exact absurd (hk.symm.trans f0) (by decide)
      · exact zCall_s f0 (by rw [show (i, q).2.1 = 2 from hk]; exact hdg rfl) hp (fun _ => ⟨b, fs, As, hav, hb⟩) hnx h
    · exact h.elim
  case ireturn => 
    replace h := zTi_e h; obtain ⟨v, r, rfl, h⟩ := h
    split at h
    · rename_i e1; exact s_iret e1 (hdg rfl) h
    · rename_i e1; exact s_zret e1 h.1 (hdg rfl) h.2
    · exact h.elim
  case return_ => obtain ⟨e1, e2, h1⟩ := zRt_e h; rw [e1]; exact s_vret e2 (hdg rfl) h1
  case areturn => 
    replace h := zTop_e h; obtain ⟨v, r, rfl, h⟩ := h
    split at h
    · rename_i nm e1
      replace h := zVa_e h; rcases h with ⟨x, rfl, h⟩ | ⟨rfl, h⟩
      · exact s_aret e1 (Or.inr ⟨_, rfl⟩) (hdg rfl) h
      · exact s_aret e1 (Or.inl rfl) (hdg rfl) h
    · exact h.elim
  all_goals exact (show False from h).elim
theorem zX_s {cd : List zR} {cuts : List Nat} (hini : ini = true → g.1.name = "<init>") (hcp : zPool g.1.cls cp) (hcd : zCode g cd) : ∀ (n : Nat) (fresh : Bool) (pc : Nat) (ls : List (Option Value)) (st : List Value) (σ : List va_E) (uc us : Nat), zX g ini cp cd cuts d Q n fresh pc ls st σ uc us → zGood g d Q pc ls st σ uc us
  | 0, _, _, _, _, _, _, _, h => h.elim
  | n + 1, fresh, pc, ls, st, σ, uc, us, h => by
    unfold zX at h
    split at h
    · exact h.2
    · split at h
      · exact h.elim
      · rename_i q e
        obtain ⟨h1, h2⟩ := hcd _ (zFind_mem e)
        exact zI_s hini hcp h1 h2 (fun pc' ls' st' σ' uc' us' h => zX_s hini hcp hcd n false pc' ls' st' σ' uc' us' h) h
end ZS
end
section
theorem zCla0 : zClass 0 RX0 TX0 2 := ⟨rfl, fun w hw => List.mem_filter.mpr ⟨(show ∀ w ∈ wsX00, w ∈ lw_tbl by decide +kernel) w hw, (show ∀ w ∈ wsX00, goodWord w = true by decide +kernel) w hw⟩, nmX0, tyX0, tyX0_ok⟩
theorem zCla1 : zClass 1 RX1 TX1 15 := ⟨rfl, fun w hw => List.mem_filter.mpr ⟨(show ∀ w ∈ wsX10, w ∈ lw_tbl by decide +kernel) w hw, (show ∀ w ∈ wsX10, goodWord w = true by decide +kernel) w hw⟩, nmX1, tyX1, tyX1_ok⟩
theorem zCla2 : zClass 2 RX2 TX2 3 := ⟨rfl, fun w hw => List.mem_filter.mpr ⟨(show ∀ w ∈ wsX20, w ∈ lw_tbl by decide +kernel) w hw, (show ∀ w ∈ wsX20, goodWord w = true by decide +kernel) w hw⟩, nmX2, tyX2, tyX2_ok⟩
theorem zCla3 : zClass 3 RX3 TX3 7 := ⟨rfl, fun w hw => List.mem_filter.mpr ⟨(show ∀ w ∈ wsX30, w ∈ lw_tbl by decide +kernel) w hw, (show ∀ w ∈ wsX30, goodWord w = true by decide +kernel) w hw⟩, nmX3, tyX3, tyX3_ok⟩
theorem zCla4 : zClass 4 RX4 TX4 3 := ⟨rfl, fun w hw => List.mem_filter.mpr ⟨(show ∀ w ∈ wsX40, w ∈ lw_tbl by decide +kernel) w hw, (show ∀ w ∈ wsX40, goodWord w = true by decide +kernel) w hw⟩, nmX4, tyX4, tyX4_ok⟩
theorem zCla5 : zClass 5 RX5 TX5 14 := ⟨rfl, fun w hw => List.mem_filter.mpr ⟨(show ∀ w ∈ wsX50, w ∈ lw_tbl by decide +kernel) w hw, (show ∀ w ∈ wsX50, goodWord w = true by decide +kernel) w hw⟩, nmX5, tyX5, tyX5_ok⟩
theorem zCla6 : zClass 6 RX6 TX6 1 := ⟨rfl, fun w hw => List.mem_filter.mpr ⟨(show ∀ w ∈ wsX60, w ∈ lw_tbl by decide +kernel) w hw, (show ∀ w ∈ wsX60, goodWord w = true by decide +kernel) w hw⟩, nmX6, tyX6, tyX6_ok⟩
theorem zCla7 : zClass 7 RX7 TX7 6 := ⟨rfl, fun w hw => List.mem_filter.mpr ⟨(show ∀ w ∈ wsX70, w ∈ lw_tbl by decide +kernel) w hw, (show ∀ w ∈ wsX70, goodWord w = true by decide +kernel) w hw⟩, nmX7, tyX7, tyX7_ok⟩
theorem zCla8 : zClass 8 RX8 TX8 12 := ⟨rfl, fun w hw => List.mem_filter.mpr ⟨(show ∀ w ∈ wsX80, w ∈ lw_tbl by decide +kernel) w hw, (show ∀ w ∈ wsX80, goodWord w = true by decide +kernel) w hw⟩, nmX8, tyX8, tyX8_ok⟩
theorem zCla9 : zClass 9 RX9 TX9 36 := ⟨rfl, fun w hw => List.mem_filter.mpr ⟨(show ∀ w ∈ wsX90, w ∈ lw_tbl by decide +kernel) w hw, (show ∀ w ∈ wsX90, goodWord w = true by decide +kernel) w hw⟩, nmX9, tyX9, tyX9_ok⟩
abbrev gCt_init : zG := (yX0_init, cX0_init, 3, none, 0, 0)
abbrev gCt_isNear : zG := (yX0_isNear, cX0_isNear, 3, some .boolean, 0, 0)
abbrev gCt_hasPowers : zG := (yX0_hasPowers, cX0_hasPowers, 3, some .boolean, 0, 0)
abbrev gCt_freshBelief : zG := (yX0_freshBelief, cX0_freshBelief, 6, some .int, 0, 0)
abbrev gCt_wornLimit : zG := (yX0_wornLimit, cX0_wornLimit, 4, some .int, 0, 0)
abbrev gCt_freeOf : zG := (yX0_freeOf, cX0_freeOf, 2, some .int, 0, 0)
abbrev gCt_freeInAll : zG := (yX0_freeInAll, cX0_freeInAll, 3, some .int, 0, 0)
abbrev gCt_blamesOf : zG := (yX0_blamesOf, cX0_blamesOf, 4, some .int, 0, 0)
abbrev gCt_mayTake : zG := (yX0_mayTake, cX0_mayTake, 4, some .boolean, 0, 0)
abbrev gCt_takers : zG := (yX0_takers, cX0_takers, 4, some .int, 0, 0)
abbrev gCt_cheapestFor : zG := (yX0_cheapestFor, cX0_cheapestFor, 8, some .int, 0, 0)
abbrev gCt_nearestFit : zG := (yX0_nearestFit, cX0_nearestFit, 8, some .int, 0, 0)
abbrev gFa_init : zG := (yX1_init, cX1_init, 1, none, 10, 87)
abbrev gFa_empty : zG := (yX1_empty, cX1_empty, 1, none, 0, 0)
abbrev gFa_become : zG := (yX1_become, cX1_become, 2, none, 0, 0)
abbrev gFa_areFar : zG := (yX1_areFar, cX1_areFar, 3, some .boolean, 0, 0)
abbrev gFa_ratesOf : zG := (yX1_ratesOf, cX1_ratesOf, 4, some .int, 0, 0)
abbrev gFa_chainOf : zG := (yX1_chainOf, cX1_chainOf, 5, some .int, 0, 0)
abbrev gFa_rootOf : zG := (yX1_rootOf, cX1_rootOf, 4, some .int, 0, 0)
abbrev gFa_wholeOf : zG := (yX1_wholeOf, cX1_wholeOf, 4, some .int, 0, 0)
abbrev gIm_init : zG := (yX2_init, cX2_init, 1, none, 1, 55)
abbrev gPa_init : zG := (yX3_init, cX3_init, 1, none, 5, 58)
abbrev gPa_burn : zG := (yX3_burn, cX3_burn, 1, none, 0, 0)
abbrev gPa_addSeen : zG := (yX3_addSeen, cX3_addSeen, 4, some .int, 0, 0)
abbrev gPa_addEntry : zG := (yX3_addEntry, cX3_addEntry, 3, some .int, 0, 0)
abbrev gPa_excludes : zG := (yX3_excludes, cX3_excludes, 7, some .boolean, 0, 0)
abbrev gPs_init : zG := (yX4_init, cX4_init, 1, none, 31, 1680)
abbrev gPs_forget : zG := (yX4_forget, cX4_forget, 1, none, 0, 0)
abbrev gPs_remember : zG := (yX4_remember, cX4_remember, 2, none, 0, 0)
abbrev gPs_giveBack : zG := (yX4_giveBack, cX4_giveBack, 3, none, 0, 0)
abbrev gSh_init : zG := (yX5_init, cX5_init, 4, none, 10, 239)
abbrev gSh_solve : zG := (yX5_solve, cX5_solve, 3, none, 0, 0)
abbrev gSh_lookAt : zG := (yX5_lookAt, cX5_lookAt, 5, none, 0, 0)
abbrev gSh_listSets : zG := (yX5_listSets, cX5_listSets, 7, none, 0, 0)
abbrev gSh_addSet : zG := (yX5_addSet, cX5_addSet, 5, none, 0, 0)
abbrev gSh_allTake : zG := (yX5_allTake, cX5_allTake, 4, some .boolean, 0, 0)
abbrev gSh_takes : zG := (yX5_takes, cX5_takes, 5, some .boolean, 0, 0)
abbrev gSh_search : zG := (yX5_search, cX5_search, 7, none, 0, 0)
abbrev gSh_pick : zG := (yX5_pick, cX5_pick, 4, none, 0, 0)
abbrev gSh_give : zG := (yX5_give, cX5_give, 4, none, 0, 0)
abbrev gSt_init : zG := (yX6_init, cX6_init, 1, none, 1, 55)
abbrev gSt_begin : zG := (yX6_begin, cX6_begin, 3, none, 0, 0)
abbrev gSt_takeRows : zG := (yX6_takeRows, cX6_takeRows, 2, none, 0, 0)
abbrev gSt_placeOf : zG := (yX6_placeOf, cX6_placeOf, 3, some .int, 0, 0)
abbrev gSt_setPlace : zG := (yX6_setPlace, cX6_setPlace, 4, none, 0, 0)
abbrev gSt_wornOf : zG := (yX6_wornOf, cX6_wornOf, 2, some .int, 0, 0)
abbrev gSt_wear : zG := (yX6_wear, cX6_wear, 3, none, 0, 0)
abbrev gSt_blamedFor : zG := (yX6_blamedFor, cX6_blamedFor, 2, some .int, 0, 0)
abbrev gSt_setBlamed : zG := (yX6_setBlamed, cX6_setBlamed, 3, none, 0, 0)
abbrev gSt_spent : zG := (yX6_spent, cX6_spent, 1, some .int, 0, 0)
abbrev gSt_spend : zG := (yX6_spend, cX6_spend, 2, none, 0, 0)
abbrev gSt_days : zG := (yX6_days, cX6_days, 1, some .int, 0, 0)
abbrev gSt_countDay : zG := (yX6_countDay, cX6_countDay, 1, none, 0, 0)
abbrev gTe_init : zG := (yX7_init, cX7_init, 1, none, 1, 230)
abbrev gTe_add : zG := (yX7_add, cX7_add, 2, some .int, 0, 0)
abbrev gTe_readInto : zG := (yX7_readInto, cX7_readInto, 3, some .int, 0, 0)
abbrev gTe_readClause : zG := (yX7_readClause, cX7_readClause, 3, none, 0, 0)
abbrev gTe_readJury : zG := (yX7_readJury, cX7_readJury, 2, none, 0, 0)
abbrev gTe_readMan : zG := (yX7_readMan, cX7_readMan, 3, none, 0, 0)
abbrev gTe_readMishap : zG := (yX7_readMishap, cX7_readMishap, 4, none, 0, 0)
abbrev gTe_readNumber : zG := (yX7_readNumber, cX7_readNumber, 4, some .int, 0, 0)
abbrev gTe_readRow : zG := (yX7_readRow, cX7_readRow, 5, none, 0, 0)
abbrev gTe_readEnd : zG := (yX7_readEnd, cX7_readEnd, 1, none, 0, 0)
abbrev gTe_skipBlanks : zG := (yX7_skipBlanks, cX7_skipBlanks, 1, none, 0, 0)
abbrev gTe_here : zG := (yX7_here, cX7_here, 1, some .int, 0, 0)
abbrev gTe_mark : zG := (yX7_mark, cX7_mark, 3, none, 0, 0)
abbrev gB_init : zG := (yX8_init, cX8_init, 1, none, 80, 2615)
abbrev gB_feed : zG := (yX8_feed, cX8_feed, 2, some .int, 0, 0)
abbrev gB_town : zG := (yX8_town, cX8_town, 2, some .int, 0, 0)
abbrev gB_fault : zG := (yX8_fault, cX8_fault, 1, some .int, 0, 0)
abbrev gB_told : zG := (yX8_told, cX8_told, 2, some .int, 0, 0)
abbrev gB_man : zG := (yX8_man, cX8_man, 3, some .int, 0, 0)
abbrev gB_mishap : zG := (yX8_mishap, cX8_mishap, 3, some .int, 0, 0)
abbrev gB_belief : zG := (yX8_belief, cX8_belief, 4, some .int, 0, 0)
abbrev gB_blame : zG := (yX8_blame, cX8_blame, 3, some .int, 0, 0)
abbrev gB_clear : zG := (yX8_clear, cX8_clear, 3, some .int, 0, 0)
abbrev gB_walk : zG := (yX8_walk, cX8_walk, 5, some .int, 0, 0)
abbrev gB_sunset : zG := (yX8_sunset, cX8_sunset, 1, some .int, 0, 0)
abbrev gB_drift : zG := (yX8_drift, cX8_drift, 4, some .int, 0, 0)
abbrev gB_undo : zG := (yX8_undo, cX8_undo, 2, some .int, 0, 0)
abbrev gB_may : zG := (yX8_may, cX8_may, 2, some .int, 0, 0)
abbrev gB_orphans : zG := (yX8_orphans, cX8_orphans, 3, some .int, 0, 0)
abbrev gB_shared : zG := (yX8_shared, cX8_shared, 2, some .int, 0, 0)
abbrev gB_cheapest : zG := (yX8_cheapest, cX8_cheapest, 2, some .int, 0, 0)
abbrev gB_culprits : zG := (yX8_culprits, cX8_culprits, 5, some .int, 0, 0)
abbrev gB_idle : zG := (yX8_idle, cX8_idle, 3, some .int, 0, 0)
abbrev gB_nearer : zG := (yX8_nearer, cX8_nearer, 6, some .int, 0, 0)
abbrev gB_chain : zG := (yX8_chain, cX8_chain, 3, some .int, 0, 0)
abbrev gB_quiet : zG := (yX8_quiet, cX8_quiet, 7, some .int, 0, 0)
abbrev gB_see : zG := (yX8_see, cX8_see, 4, some .int, 0, 0)
abbrev gB_alibi : zG := (yX8_alibi, cX8_alibi, 4, some .int, 0, 0)
abbrev gB_write : zG := (yX8_write, cX8_write, 3, some .int, 0, 0)
abbrev gB_judge : zG := (yX8_judge, cX8_judge, 2, some .int, 0, 0)
abbrev gB_tear : zG := (yX8_tear, cX8_tear, 2, some .int, 0, 0)
abbrev gB_seed : zG := (yX8_seed, cX8_seed, 3, some .int, 0, 0)
abbrev gB_keep : zG := (yX8_keep, cX8_keep, 3, some .int, 0, 0)
abbrev gB_goBack : zG := (yX8_goBack, cX8_goBack, 3, some .int, 0, 0)
abbrev gB_isMan : zG := (yX8_isMan, cX8_isMan, 2, some .boolean, 0, 0)
abbrev gB_isMishap : zG := (yX8_isMishap, cX8_isMishap, 2, some .boolean, 0, 0)
abbrev gB_imageOf : zG := (yX8_imageOf, cX8_imageOf, 2, some (.object "BlameTown$Image"), 0, 0)
abbrev gB_putBlame : zG := (yX8_putBlame, cX8_putBlame, 3, none, 0, 0)
abbrev gB_blameByDraws : zG := (yX8_blameByDraws, cX8_blameByDraws, 5, none, 0, 0)
abbrev gB_draw : zG := (yX8_draw, cX8_draw, 2, some .int, 0, 0)
abbrev gB_endDay : zG := (yX8_endDay, cX8_endDay, 3, some .int, 0, 0)
abbrev gB_isHour : zG := (yX8_isHour, cX8_isHour, 1, some .boolean, 0, 0)
abbrev gB_isPlace : zG := (yX8_isPlace, cX8_isPlace, 1, some .boolean, 0, 0)
abbrev gB_isWithin : zG := (yX8_isWithin, cX8_isWithin, 3, some .boolean, 0, 0)
abbrev gB_isIn : zG := (yX8_isIn, cX8_isIn, 2, some .boolean, 0, 0)
abbrev gB_memberOf : zG := (yX8_memberOf, cX8_memberOf, 4, some .int, 0, 0)
abbrev gB_at : zG := (yX8_at, cX8_at, 2, some .int, 0, 0)
abbrev gB_put : zG := (yX8_put, cX8_put, 3, none, 0, 0)
abbrev gB_copyRow : zG := (yX8_copyRow, cX8_copyRow, 3, none, 0, 0)
abbrev gM_init : zG := (yX9_init, cX9_init, 1, none, 18, 2385)
abbrev gM_in : zG := (yX9_in, cX9_in, 3, some .boolean, 0, 0)
abbrev gM_has : zG := (yX9_has, cX9_has, 2, some .boolean, 0, 0)
abbrev gM_ones : zG := (yX9_ones, cX9_ones, 3, some .int, 0, 0)
abbrev gM_off : zG := (yX9_off, cX9_off, 2, some .int, 0, 0)
abbrev gM_feed : zG := (yX9_feed, cX9_feed, 2, some .int, 0, 0)
abbrev gM_look : zG := (yX9_look, cX9_look, 1, some .int, 0, 0)
abbrev gM_skips : zG := (yX9_skips, cX9_skips, 1, none, 0, 0)
abbrev gM_fails : zG := (yX9_fails, cX9_fails, 2, none, 0, 0)
abbrev gM_word : zG := (yX9_word, cX9_word, 2, none, 0, 0)
abbrev gM_number : zG := (yX9_number, cX9_number, 5, some .int, 0, 0)
abbrev gM_readsMan : zG := (yX9_readsMan, cX9_readsMan, 5, none, 0, 0)
abbrev gM_readsMishap : zG := (yX9_readsMishap, cX9_readsMishap, 4, none, 0, 0)
abbrev gM_reads : zG := (yX9_reads, cX9_reads, 1, none, 0, 0)
abbrev gM_skipsIfWell : zG := (yX9_skipsIfWell, cX9_skipsIfWell, 1, none, 0, 0)
abbrev gM_takes : zG := (yX9_takes, cX9_takes, 2, none, 0, 0)
abbrev gM_town : zG := (yX9_town, cX9_town, 3, some .int, 0, 0)
abbrev gM_fault : zG := (yX9_fault, cX9_fault, 1, some .int, 0, 0)
abbrev gM_isMan : zG := (yX9_isMan, cX9_isMan, 2, some .boolean, 0, 0)
abbrev gM_isMishap : zG := (yX9_isMishap, cX9_isMishap, 2, some .boolean, 0, 0)
abbrev gM_blamedFor : zG := (yX9_blamedFor, cX9_blamedFor, 2, some .int, 0, 0)
abbrev gM_free : zG := (yX9_free, cX9_free, 2, some .int, 0, 0)
abbrev gM_allFree : zG := (yX9_allFree, cX9_allFree, 3, some .int, 0, 0)
abbrev gM_told : zG := (yX9_told, cX9_told, 2, some .int, 0, 0)
abbrev gM_blamesOf : zG := (yX9_blamesOf, cX9_blamesOf, 4, some .int, 0, 0)
abbrev gM_man : zG := (yX9_man, cX9_man, 3, some .int, 0, 0)
abbrev gM_mishap : zG := (yX9_mishap, cX9_mishap, 3, some .int, 0, 0)
abbrev gM_whereIs : zG := (yX9_whereIs, cX9_whereIs, 3, some .int, 0, 0)
abbrev gM_isNear : zG := (yX9_isNear, cX9_isNear, 3, some .boolean, 0, 0)
abbrev gM_can : zG := (yX9_can, cX9_can, 3, some .boolean, 0, 0)
abbrev gM_beliefAt : zG := (yX9_beliefAt, cX9_beliefAt, 6, some .int, 0, 0)
abbrev gM_fits : zG := (yX9_fits, cX9_fits, 4, some .boolean, 0, 0)
abbrev gM_belief : zG := (yX9_belief, cX9_belief, 3, some .int, 0, 0)
abbrev gM_areFar : zG := (yX9_areFar, cX9_areFar, 3, some .boolean, 0, 0)
abbrev gM_mayBe : zG := (yX9_mayBe, cX9_mayBe, 5, some .boolean, 0, 0)
abbrev gM_mayFor : zG := (yX9_mayFor, cX9_mayFor, 4, some .int, 0, 0)
abbrev gM_copies : zG := (yX9_copies, cX9_copies, 5, none, 0, 0)
abbrev gM_notes : zG := (yX9_notes, cX9_notes, 2, none, 0, 0)
abbrev gM_blames : zG := (yX9_blames, cX9_blames, 3, none, 0, 0)
abbrev gM_blame : zG := (yX9_blame, cX9_blame, 3, some .int, 0, 0)
abbrev gM_clear : zG := (yX9_clear, cX9_clear, 3, some .int, 0, 0)
abbrev gM_walk : zG := (yX9_walk, cX9_walk, 6, some .int, 0, 0)
abbrev gM_sets : zG := (yX9_sets, cX9_sets, 3, some .int, 0, 0)
abbrev gM_sunset : zG := (yX9_sunset, cX9_sunset, 1, some .int, 0, 0)
abbrev gM_draw : zG := (yX9_draw, cX9_draw, 2, some .int, 0, 0)
abbrev gM_member : zG := (yX9_member, cX9_member, 4, some .int, 0, 0)
abbrev gM_drift : zG := (yX9_drift, cX9_drift, 5, some .int, 0, 0)
abbrev gM_undo : zG := (yX9_undo, cX9_undo, 2, some .int, 0, 0)
abbrev gM_may : zG := (yX9_may, cX9_may, 2, some .int, 0, 0)
abbrev gM_orphans : zG := (yX9_orphans, cX9_orphans, 3, some .int, 0, 0)
abbrev gM_canBe : zG := (yX9_canBe, cX9_canBe, 6, some .boolean, 0, 0)
abbrev gM_costs : zG := (yX9_costs, cX9_costs, 5, some .int, 0, 0)
abbrev gM_counts : zG := (yX9_counts, cX9_counts, 2, some .boolean, 0, 0)
abbrev gM_shares : zG := (yX9_shares, cX9_shares, 4, none, 0, 0)
abbrev gM_shared : zG := (yX9_shared, cX9_shared, 2, some .int, 0, 0)
abbrev gM_cheapest : zG := (yX9_cheapest, cX9_cheapest, 8, some .int, 0, 0)
abbrev gM_culprits : zG := (yX9_culprits, cX9_culprits, 4, some .int, 0, 0)
abbrev gM_idle : zG := (yX9_idle, cX9_idle, 3, some .int, 0, 0)
abbrev gM_nearer : zG := (yX9_nearer, cX9_nearer, 8, some .int, 0, 0)
abbrev gM_root : zG := (yX9_root, cX9_root, 3, some .int, 0, 0)
abbrev gM_chain : zG := (yX9_chain, cX9_chain, 6, some .int, 0, 0)
abbrev gM_quiet : zG := (yX9_quiet, cX9_quiet, 6, some .int, 0, 0)
abbrev gM_see : zG := (yX9_see, cX9_see, 4, some .int, 0, 0)
abbrev gM_alibi : zG := (yX9_alibi, cX9_alibi, 6, some .int, 0, 0)
abbrev gM_write : zG := (yX9_write, cX9_write, 3, some .int, 0, 0)
abbrev gM_judge : zG := (yX9_judge, cX9_judge, 2, some .int, 0, 0)
abbrev gM_tear : zG := (yX9_tear, cX9_tear, 2, some .int, 0, 0)
abbrev gM_seed : zG := (yX9_seed, cX9_seed, 3, some .int, 0, 0)
abbrev gM_keep : zG := (yX9_keep, cX9_keep, 2, some .int, 0, 0)
abbrev gM_goBack : zG := (yX9_goBack, cX9_goBack, 2, some .int, 0, 0)
abbrev gJI_bitCount : zG := (yJ6_bitCount_0f7a4, cJ6_bitCount_0f7a4, 1, some .int, 0, 0)
abbrev gJM_floorMod : zG := (yJ9_floorMod_7cf53, cJ9_floorMod_7cf53, 3, some .int, 0, 0)
abbrev gJM_abs : zG := (yJ9_abs_0f7a4, cJ9_abs_0f7a4, 1, some .int, 0, 0)
abbrev gJM_max : zG := (yJ9_max_7cf53, cJ9_max_7cf53, 2, some .int, 0, 0)
abbrev gJM_min : zG := (yJ9_min_7cf53, cJ9_min_7cf53, 2, some .int, 0, 0)
def pCt : zC := ([(61, 1, 1, 0, false), (103, 1, 3, 0, false), (82, 1, 4, 0, false), (38, 1, 5, 3, true), (41, 1, 6, 3, true), (19, 1, 9, 3, true), (91, 1, 10, 3, true), (35, 1, 11, 3, true), (44, 1, 12, 3, true), (65, 1, 13, 3, true), (9, 0, 0, 2, true), (15, 0, 1, 2, true)], [(3, 4, 1, 0, (yX0_init, cX0_init, 0, none, 0, 0)), (85, 0, 2, 0, gCt_freeOf), (25, 3, 2, 8, gB_at), (68, 0, 2, 6, gSt_blamedFor), (73, 1, 1, 0, gJI_bitCount), (78, 1, 2, 0, gJM_max), (47, 3, 2, 8, gB_isIn), (29, 1, 1, 0, gJM_abs), (88, 0, 3, 1, gFa_areFar), (94, 0, 3, 6, gSt_placeOf), (97, 0, 2, 6, gSt_wornOf), (100, 0, 4, 0, gCt_wornLimit), (51, 0, 3, 0, gCt_isNear), (54, 0, 3, 0, gCt_hasPowers), (57, 0, 4, 0, gCt_freshBelief), (106, 0, 3, 0, gCt_mayTake), (109, 0, 2, 0, gCt_takers), (113, 0, 2, 1, gFa_ratesOf)], [(112, .int 2147483647)], [])
theorem PCt_F0 : ∀ q ∈ ([(61, 1, 1, 0, false), (103, 1, 3, 0, false), (82, 1, 4, 0, false), (38, 1, 5, 3, true), (41, 1, 6, 3, true), (19, 1, 9, 3, true), (91, 1, 10, 3, true), (35, 1, 11, 3, true), (44, 1, 12, 3, true), (65, 1, 13, 3, true), (9, 0, 0, 2, true), (15, 0, 1, 2, true)] : List (Nat × Nat × Nat × Nat × Bool)), zFOk RX0 q := List.forall_mem_cons.mpr ⟨⟨RX1, TX1, 15, tyX1 1, zCla1, by decide, zIn 117 (by decide +kernel) (by decide +kernel), by decide +kernel, by decide +kernel, Or.inl rfl⟩, List.forall_mem_cons.mpr ⟨⟨RX1, TX1, 15, tyX1 3, zCla1, by decide, zIn 128 (by decide +kernel) (by decide +kernel), by decide +kernel, by decide +kernel, Or.inl rfl⟩, List.forall_mem_cons.mpr ⟨⟨RX1, TX1, 15, tyX1 4, zCla1, by decide, zIn 133 (by decide +kernel) (by decide +kernel), by decide +kernel, by decide +kernel, Or.inl rfl⟩, List.forall_mem_cons.mpr ⟨⟨RX1, TX1, 15, tyX1 5, zCla1, by decide, zIn 135 (by decide +kernel) (by decide +kernel), by decide +kernel, by decide +kernel, Or.inr (Or.inr rfl)⟩, List.forall_mem_cons.mpr ⟨⟨RX1, TX1, 15, tyX1 6, zCla1, by decide, zIn 139 (by decide +kernel) (by decide +kernel), by decide +kernel, by decide +kernel, Or.inr (Or.inr rfl)⟩, List.forall_mem_cons.mpr ⟨⟨RX1, TX1, 15, tyX1 9, zCla1, by decide, zIn 149 (by decide +kernel) (by decide +kernel), by decide +kernel, by decide +kernel, Or.inr (Or.inr rfl)⟩, List.forall_mem_cons.mpr ⟨⟨RX1, TX1, 15, tyX1 10, zCla1, by decide, zIn 156 (by decide +kernel) (by decide +kernel), by decide +kernel, by decide +kernel, Or.inr (Or.inr rfl)⟩, List.forall_mem_cons.mpr ⟨⟨RX1, TX1, 15, tyX1 11, zCla1, by decide, zIn 158 (by decide +kernel) (by decide +kernel), by decide +kernel, by decide +kernel, Or.inr (Or.inr rfl)⟩, List.forall_mem_cons.mpr ⟨⟨RX1, TX1, 15, tyX1 12, zCla1, by decide, zIn 162 (by decide +kernel) (by decide +kernel), by decide +kernel, by decide +kernel, Or.inr (Or.inr rfl)⟩, List.forall_mem_cons.mpr ⟨⟨RX1, TX1, 15, tyX1 13, zCla1, by decide, zIn 167 (by decide +kernel) (by decide +kernel), by decide +kernel, by decide +kernel, Or.inr (Or.inr rfl)⟩, List.forall_mem_cons.mpr ⟨⟨RX0, TX0, 2, tyX0 0, zCla0, by decide, zIn 222 (by decide +kernel) (by decide +kernel), by decide +kernel, by decide +kernel, Or.inr (Or.inl ⟨rfl, rfl⟩)⟩, List.forall_mem_cons.mpr ⟨⟨RX0, TX0, 2, tyX0 1, zCla0, by decide, zIn 223 (by decide +kernel) (by decide +kernel), by decide +kernel, by decide +kernel, Or.inr (Or.inl ⟨rfl, rfl⟩)⟩, fun _ h => absurd h List.not_mem_nil⟩⟩⟩⟩⟩⟩⟩⟩⟩⟩⟩⟩
theorem PCt_M0 : ∀ q ∈ ([(3, 4, 1, 0, (yX0_init, cX0_init, 0, none, 0, 0)), (85, 0, 2, 0, gCt_freeOf), (25, 3, 2, 8, gB_at), (68, 0, 2, 6, gSt_blamedFor), (73, 1, 1, 0, gJI_bitCount), (78, 1, 2, 0, gJM_max), (47, 3, 2, 8, gB_isIn), (29, 1, 1, 0, gJM_abs), (88, 0, 3, 1, gFa_areFar), (94, 0, 3, 6, gSt_placeOf), (97, 0, 2, 6, gSt_wornOf), (100, 0, 4, 0, gCt_wornLimit)] : List (Nat × Nat × Nat × Nat × zG)), zMOk RX0 q := List.forall_mem_cons.mpr ⟨Or.inl ⟨rfl, zIn 221 (by decide +kernel) (by decide +kernel), zIn 77 (by decide +kernel) (by decide +kernel), zIn 78 (by decide +kernel) (by decide +kernel)⟩, List.forall_mem_cons.mpr ⟨Or.inr ⟨zIn 510 (by decide +kernel) (by decide +kernel), zIn 63 (by decide +kernel) (by decide +kernel), ⟨by decide +kernel, by decide +kernel⟩, by decide, zIn 507 (by decide +kernel) (by decide +kernel), zIn 508 (by decide +kernel) (by decide +kernel), zIn 509 (by decide +kernel) (by decide +kernel), by decide +kernel, by decide +kernel⟩, List.forall_mem_cons.mpr ⟨Or.inr ⟨zIn 498 (by decide +kernel) (by decide +kernel), zIn 59 (by decide +kernel) (by decide +kernel), ⟨by decide +kernel, by decide +kernel⟩, by decide, zIm 511 (by decide +kernel) (by decide +kernel), zIn 497 (by decide +kernel) (by decide +kernel), by decide +kernel⟩, List.forall_mem_cons.mpr ⟨Or.inr ⟨zIn 515 (by decide +kernel) (by decide +kernel), zIn 62 (by decide +kernel) (by decide +kernel), ⟨by decide +kernel, by decide +kernel⟩, by decide, zIn 512 (by decide +kernel) (by decide +kernel), zIn 513 (by decide +kernel) (by decide +kernel), zIn 514 (by decide +kernel) (by decide +kernel), by decide +kernel, by decide +kernel⟩, List.forall_mem_cons.mpr ⟨Or.inr ⟨zIn 518 (by decide +kernel) (by decide +kernel), zIn 70 (by decide +kernel) (by decide +kernel), ⟨by decide +kernel, by decide +kernel⟩, by decide, zIn 516 (by decide +kernel) (by decide +kernel), zIn 517 (by decide +kernel) (by decide +kernel), by decide +kernel⟩, List.forall_mem_cons.mpr ⟨Or.inr ⟨zIn 524 (by decide +kernel) (by decide +kernel), zIn 69 (by decide +kernel) (by decide +kernel), ⟨by decide +kernel, by decide +kernel⟩, by decide, zIn 522 (by decide +kernel) (by decide +kernel), zIn 523 (by decide +kernel) (by decide +kernel), by decide +kernel⟩, List.forall_mem_cons.mpr ⟨Or.inr ⟨zIn 545 (by decide +kernel) (by decide +kernel), zIn 59 (by decide +kernel) (by decide +kernel), ⟨by decide +kernel, by decide +kernel⟩, by decide, zIm 543 (by decide +kernel) (by decide +kernel), zIn 544 (by decide +kernel) (by decide +kernel), by decide +kernel⟩, List.forall_mem_cons.mpr ⟨Or.inr ⟨zIn 569 (by decide +kernel) (by decide +kernel), zIn 69 (by decide +kernel) (by decide +kernel), ⟨by decide +kernel, by decide +kernel⟩, by decide, zIn 567 (by decide +kernel) (by decide +kernel), zIn 568 (by decide +kernel) (by decide +kernel), by decide +kernel⟩, List.forall_mem_cons.mpr ⟨Or.inr ⟨zIn 589 (by decide +kernel) (by decide +kernel), zIn 61 (by decide +kernel) (by decide +kernel), ⟨by decide +kernel, by decide +kernel⟩, by decide, zIn 586 (by decide +kernel) (by decide +kernel), zIn 587 (by decide +kernel) (by decide +kernel), zIn 588 (by decide +kernel) (by decide +kernel), by decide +kernel, by decide +kernel⟩, List.forall_mem_cons.mpr ⟨Or.inr ⟨zIn 549 (by decide +kernel) (by decide +kernel), zIn 62 (by decide +kernel) (by decide +kernel), ⟨by decide +kernel, by decide +kernel⟩, by decide, zIn 592 (by decide +kernel) (by decide +kernel), zIn 547 (by decide +kernel) (by decide +kernel), zIn 548 (by decide +kernel) (by decide +kernel), by decide +kernel, by decide +kernel⟩, List.forall_mem_cons.mpr ⟨Or.inr ⟨zIn 538 (by decide +kernel) (by decide +kernel), zIn 62 (by decide +kernel) (by decide +kernel), ⟨by decide +kernel, by decide +kernel⟩, by decide, zIn 593 (by decide +kernel) (by decide +kernel), zIn 536 (by decide +kernel) (by decide +kernel), zIn 537 (by decide +kernel) (by decide +kernel), by decide +kernel, by decide +kernel⟩, List.forall_mem_cons.mpr ⟨Or.inr ⟨zIn 597 (by decide +kernel) (by decide +kernel), zIn 63 (by decide +kernel) (by decide +kernel), ⟨by decide +kernel, by decide +kernel⟩, by decide, zIn 594 (by decide +kernel) (by decide +kernel), zIn 595 (by decide +kernel) (by decide +kernel), zIn 596 (by decide +kernel) (by decide +kernel), by decide +kernel, by decide +kernel⟩, fun _ h => absurd h List.not_mem_nil⟩⟩⟩⟩⟩⟩⟩⟩⟩⟩⟩⟩
theorem PCt_M1 : ∀ q ∈ ([(51, 0, 3, 0, gCt_isNear), (54, 0, 3, 0, gCt_hasPowers), (57, 0, 4, 0, gCt_freshBelief), (106, 0, 3, 0, gCt_mayTake), (109, 0, 2, 0, gCt_takers), (113, 0, 2, 1, gFa_ratesOf)] : List (Nat × Nat × Nat × Nat × zG)), zMOk RX0 q := List.forall_mem_cons.mpr ⟨Or.inr ⟨zIn 566 (by decide +kernel) (by decide +kernel), zIn 63 (by decide +kernel) (by decide +kernel), ⟨by decide +kernel, by decide +kernel⟩, by decide, zIn 598 (by decide +kernel) (by decide +kernel), zIn 564 (by decide +kernel) (by decide +kernel), zIn 565 (by decide +kernel) (by decide +kernel), by decide +kernel, by decide +kernel⟩, List.forall_mem_cons.mpr ⟨Or.inr ⟨zIn 573 (by decide +kernel) (by decide +kernel), zIn 63 (by decide +kernel) (by decide +kernel), ⟨by decide +kernel, by decide +kernel⟩, by decide, zIn 599 (by decide +kernel) (by decide +kernel), zIn 571 (by decide +kernel) (by decide +kernel), zIn 572 (by decide +kernel) (by decide +kernel), by decide +kernel, by decide +kernel⟩, List.forall_mem_cons.mpr ⟨Or.inr ⟨zIn 577 (by decide +kernel) (by decide +kernel), zIn 63 (by decide +kernel) (by decide +kernel), ⟨by decide +kernel, by decide +kernel⟩, by decide, zIn 600 (by decide +kernel) (by decide +kernel), zIn 575 (by decide +kernel) (by decide +kernel), zIn 576 (by decide +kernel) (by decide +kernel), by decide +kernel, by decide +kernel⟩, List.forall_mem_cons.mpr ⟨Or.inr ⟨zIn 585 (by decide +kernel) (by decide +kernel), zIn 63 (by decide +kernel) (by decide +kernel), ⟨by decide +kernel, by decide +kernel⟩, by decide, zIn 674 (by decide +kernel) (by decide +kernel), zIn 583 (by decide +kernel) (by decide +kernel), zIn 584 (by decide +kernel) (by decide +kernel), by decide +kernel, by decide +kernel⟩, List.forall_mem_cons.mpr ⟨Or.inr ⟨zIn 673 (by decide +kernel) (by decide +kernel), zIn 63 (by decide +kernel) (by decide +kernel), ⟨by decide +kernel, by decide +kernel⟩, by decide, zIn 773 (by decide +kernel) (by decide +kernel), zIn 671 (by decide +kernel) (by decide +kernel), zIn 672 (by decide +kernel) (by decide +kernel), by decide +kernel, by decide +kernel⟩, List.forall_mem_cons.mpr ⟨Or.inr ⟨zIn 749 (by decide +kernel) (by decide +kernel), zIn 61 (by decide +kernel) (by decide +kernel), ⟨by decide +kernel, by decide +kernel⟩, by decide, zIn 775 (by decide +kernel) (by decide +kernel), zIn 747 (by decide +kernel) (by decide +kernel), zIn 748 (by decide +kernel) (by decide +kernel), by decide +kernel, by decide +kernel⟩, fun _ h => absurd h List.not_mem_nil⟩⟩⟩⟩⟩⟩
theorem PCt_K0 : ∀ q ∈ ([(112, .int 2147483647)] : List (Nat × Value)), zKOk RX0 q := List.forall_mem_cons.mpr ⟨zIn 774 (by decide +kernel) (by decide +kernel), fun _ h => absurd h List.not_mem_nil⟩
theorem PCt_N0 : ∀ q ∈ ([] : List (Nat × Nat × Nat × List Value)), zNOk RX0 q := fun _ h => absurd h List.not_mem_nil
theorem PCt : zPool RX0 pCt := ⟨PCt_F0, List.forall_mem_append.mpr ⟨PCt_M0, PCt_M1⟩, PCt_K0, PCt_N0⟩
def pFa : zC := ([(9, 1, 0, 1, false), (15, 1, 1, 0, false), (19, 1, 2, 0, false), (22, 1, 3, 0, false), (25, 1, 4, 0, false), (28, 1, 5, 2, true), (32, 1, 6, 2, true), (35, 1, 7, 2, true), (38, 1, 8, 2, true), (41, 1, 9, 2, true), (44, 1, 10, 2, true), (47, 1, 11, 2, true), (50, 1, 12, 2, true), (53, 1, 13, 2, true), (56, 1, 14, 2, true)], [(3, 4, 1, 0, (yX0_init, cX0_init, 0, none, 0, 0)), (59, 3, 2, 8, gB_copyRow), (63, 3, 2, 8, gB_at), (67, 1, 1, 0, gJM_abs), (73, 3, 2, 8, gB_isIn), (77, 0, 2, 1, gFa_rootOf)], [], [])
theorem PFa_F0 : ∀ q ∈ ([(9, 1, 0, 1, false), (15, 1, 1, 0, false), (19, 1, 2, 0, false), (22, 1, 3, 0, false), (25, 1, 4, 0, false), (28, 1, 5, 2, true), (32, 1, 6, 2, true), (35, 1, 7, 2, true), (38, 1, 8, 2, true), (41, 1, 9, 2, true), (44, 1, 10, 2, true), (47, 1, 11, 2, true)] : List (Nat × Nat × Nat × Nat × Bool)), zFOk RX1 q := List.forall_mem_cons.mpr ⟨⟨RX1, TX1, 15, tyX1 0, zCla1, by decide, zIn 113 (by decide +kernel) (by decide +kernel), by decide +kernel, by decide +kernel, Or.inl rfl⟩, List.forall_mem_cons.mpr ⟨⟨RX1, TX1, 15, tyX1 1, zCla1, by decide, zIn 116 (by decide +kernel) (by decide +kernel), by decide +kernel, by decide +kernel, Or.inl rfl⟩, List.forall_mem_cons.mpr ⟨⟨RX1, TX1, 15, tyX1 2, zCla1, by decide, zIn 120 (by decide +kernel) (by decide +kernel), by decide +kernel, by decide +kernel, Or.inl rfl⟩, List.forall_mem_cons.mpr ⟨⟨RX1, TX1, 15, tyX1 3, zCla1, by decide, zIn 124 (by decide +kernel) (by decide +kernel), by decide +kernel, by decide +kernel, Or.inl rfl⟩, List.forall_mem_cons.mpr ⟨⟨RX1, TX1, 15, tyX1 4, zCla1, by decide, zIn 129 (by decide +kernel) (by decide +kernel), by decide +kernel, by decide +kernel, Or.inl rfl⟩, List.forall_mem_cons.mpr ⟨⟨RX1, TX1, 15, tyX1 5, zCla1, by decide, zIn 134 (by decide +kernel) (by decide +kernel), by decide +kernel, by decide +kernel, Or.inr (Or.inl ⟨rfl, rfl⟩)⟩, List.forall_mem_cons.mpr ⟨⟨RX1, TX1, 15, tyX1 6, zCla1, by decide, zIn 138 (by decide +kernel) (by decide +kernel), by decide +kernel, by decide +kernel, Or.inr (Or.inl ⟨rfl, rfl⟩)⟩, List.forall_mem_cons.mpr ⟨⟨RX1, TX1, 15, tyX1 7, zCla1, by decide, zIn 142 (by decide +kernel) (by decide +kernel), by decide +kernel, by decide +kernel, Or.inr (Or.inl ⟨rfl, rfl⟩)⟩, List.forall_mem_cons.mpr ⟨⟨RX1, TX1, 15, tyX1 8, zCla1, by decide, zIn 145 (by decide +kernel) (by decide +kernel), by decide +kernel, by decide +kernel, Or.inr (Or.inl ⟨rfl, rfl⟩)⟩, List.forall_mem_cons.mpr ⟨⟨RX1, TX1, 15, tyX1 9, zCla1, by decide, zIn 148 (by decide +kernel) (by decide +kernel), by decide +kernel, by decide +kernel, Or.inr (Or.inl ⟨rfl, rfl⟩)⟩, List.forall_mem_cons.mpr ⟨⟨RX1, TX1, 15, tyX1 10, zCla1, by decide, zIn 152 (by decide +kernel) (by decide +kernel), by decide +kernel, by decide +kernel, Or.inr (Or.inl ⟨rfl, rfl⟩)⟩, List.forall_mem_cons.mpr ⟨⟨RX1, TX1, 15, tyX1 11, zCla1, by decide, zIn 157 (by decide +kernel) (by decide +kernel), by decide +kernel, by decide +kernel, Or.inr (Or.inl ⟨rfl, rfl⟩)⟩, fun _ h => absurd h List.not_mem_nil⟩⟩⟩⟩⟩⟩⟩⟩⟩⟩⟩⟩
theorem PFa_F1 : ∀ q ∈ ([(50, 1, 12, 2, true), (53, 1, 13, 2, true), (56, 1, 14, 2, true)] : List (Nat × Nat × Nat × Nat × Bool)), zFOk RX1 q := List.forall_mem_cons.mpr ⟨⟨RX1, TX1, 15, tyX1 12, zCla1, by decide, zIn 161 (by decide +kernel) (by decide +kernel), by decide +kernel, by decide +kernel, Or.inr (Or.inl ⟨rfl, rfl⟩)⟩, List.forall_mem_cons.mpr ⟨⟨RX1, TX1, 15, tyX1 13, zCla1, by decide, zIn 165 (by decide +kernel) (by decide +kernel), by decide +kernel, by decide +kernel, Or.inr (Or.inl ⟨rfl, rfl⟩)⟩, List.forall_mem_cons.mpr ⟨⟨RX1, TX1, 15, tyX1 14, zCla1, by decide, zIn 170 (by decide +kernel) (by decide +kernel), by decide +kernel, by decide +kernel, Or.inr (Or.inl ⟨rfl, rfl⟩)⟩, fun _ h => absurd h List.not_mem_nil⟩⟩⟩
theorem PFa_M0 : ∀ q ∈ ([(3, 4, 1, 0, (yX0_init, cX0_init, 0, none, 0, 0)), (59, 3, 2, 8, gB_copyRow), (63, 3, 2, 8, gB_at), (67, 1, 1, 0, gJM_abs), (73, 3, 2, 8, gB_isIn), (77, 0, 2, 1, gFa_rootOf)] : List (Nat × Nat × Nat × Nat × zG)), zMOk RX1 q := List.forall_mem_cons.mpr ⟨Or.inl ⟨rfl, zIn 112 (by decide +kernel) (by decide +kernel), zIn 77 (by decide +kernel) (by decide +kernel), zIn 78 (by decide +kernel) (by decide +kernel)⟩, List.forall_mem_cons.mpr ⟨Or.inr ⟨zIn 466 (by decide +kernel) (by decide +kernel), zIn 59 (by decide +kernel) (by decide +kernel), ⟨by decide +kernel, by decide +kernel⟩, by decide, zIm 464 (by decide +kernel) (by decide +kernel), zIn 465 (by decide +kernel) (by decide +kernel), by decide +kernel⟩, List.forall_mem_cons.mpr ⟨Or.inr ⟨zIn 498 (by decide +kernel) (by decide +kernel), zIn 59 (by decide +kernel) (by decide +kernel), ⟨by decide +kernel, by decide +kernel⟩, by decide, zIm 590 (by decide +kernel) (by decide +kernel), zIn 497 (by decide +kernel) (by decide +kernel), by decide +kernel⟩, List.forall_mem_cons.mpr ⟨Or.inr ⟨zIn 569 (by decide +kernel) (by decide +kernel), zIn 69 (by decide +kernel) (by decide +kernel), ⟨by decide +kernel, by decide +kernel⟩, by decide, zIn 591 (by decide +kernel) (by decide +kernel), zIn 568 (by decide +kernel) (by decide +kernel), by decide +kernel⟩, List.forall_mem_cons.mpr ⟨Or.inr ⟨zIn 545 (by decide +kernel) (by decide +kernel), zIn 59 (by decide +kernel) (by decide +kernel), ⟨by decide +kernel, by decide +kernel⟩, by decide, zIm 750 (by decide +kernel) (by decide +kernel), zIn 544 (by decide +kernel) (by decide +kernel), by decide +kernel⟩, List.forall_mem_cons.mpr ⟨Or.inr ⟨zIn 804 (by decide +kernel) (by decide +kernel), zIn 61 (by decide +kernel) (by decide +kernel), ⟨by decide +kernel, by decide +kernel⟩, by decide, zIn 809 (by decide +kernel) (by decide +kernel), zIn 802 (by decide +kernel) (by decide +kernel), zIn 803 (by decide +kernel) (by decide +kernel), by decide +kernel, by decide +kernel⟩, fun _ h => absurd h List.not_mem_nil⟩⟩⟩⟩⟩⟩
theorem PFa_K0 : ∀ q ∈ ([] : List (Nat × Value)), zKOk RX1 q := fun _ h => absurd h List.not_mem_nil
theorem PFa_N0 : ∀ q ∈ ([] : List (Nat × Nat × Nat × List Value)), zNOk RX1 q := fun _ h => absurd h List.not_mem_nil
theorem PFa : zPool RX1 pFa := ⟨List.forall_mem_append.mpr ⟨PFa_F0, PFa_F1⟩, PFa_M0, PFa_K0, PFa_N0⟩
def pIm : zC := ([(9, 2, 0, 2, true), (15, 2, 1, 0, false), (19, 2, 2, 1, false)], [(1, 4, 1, 0, (yX0_init, cX0_init, 0, none, 0, 0))], [], [])
theorem PIm_F0 : ∀ q ∈ ([(9, 2, 0, 2, true), (15, 2, 1, 0, false), (19, 2, 2, 1, false)] : List (Nat × Nat × Nat × Nat × Bool)), zFOk RX2 q := List.forall_mem_cons.mpr ⟨⟨RX2, TX2, 3, tyX2 0, zCla2, by decide, zIn 337 (by decide +kernel) (by decide +kernel), by decide +kernel, by decide +kernel, Or.inr (Or.inl ⟨rfl, rfl⟩)⟩, List.forall_mem_cons.mpr ⟨⟨RX2, TX2, 3, tyX2 1, zCla2, by decide, zIn 339 (by decide +kernel) (by decide +kernel), by decide +kernel, by decide +kernel, Or.inl rfl⟩, List.forall_mem_cons.mpr ⟨⟨RX2, TX2, 3, tyX2 2, zCla2, by decide, zIn 341 (by decide +kernel) (by decide +kernel), by decide +kernel, by decide +kernel, Or.inl rfl⟩, fun _ h => absurd h List.not_mem_nil⟩⟩⟩
theorem PIm_M0 : ∀ q ∈ ([(1, 4, 1, 0, (yX0_init, cX0_init, 0, none, 0, 0))] : List (Nat × Nat × Nat × Nat × zG)), zMOk RX2 q := List.forall_mem_cons.mpr ⟨Or.inl ⟨rfl, zIn 336 (by decide +kernel) (by decide +kernel), zIn 77 (by decide +kernel) (by decide +kernel), zIn 78 (by decide +kernel) (by decide +kernel)⟩, fun _ h => absurd h List.not_mem_nil⟩
theorem PIm_K0 : ∀ q ∈ ([] : List (Nat × Value)), zKOk RX2 q := fun _ h => absurd h List.not_mem_nil
theorem PIm_N0 : ∀ q ∈ ([] : List (Nat × Nat × Nat × List Value)), zNOk RX2 q := fun _ h => absurd h List.not_mem_nil
theorem PIm : zPool RX2 pIm := ⟨PIm_F0, PIm_M0, PIm_K0, PIm_N0⟩
def pPa : zC := ([(9, 3, 0, 2, true), (15, 3, 1, 2, true), (18, 3, 2, 2, true), (21, 3, 3, 0, false), (25, 3, 4, 2, true), (28, 3, 5, 2, true), (31, 3, 6, 0, false)], [(3, 4, 1, 0, (yX0_init, cX0_init, 0, none, 0, 0)), (34, 3, 3, 8, gB_put), (38, 3, 2, 8, gB_at), (42, 1, 1, 0, gJM_abs)], [], [])
theorem PPa_F0 : ∀ q ∈ ([(9, 3, 0, 2, true), (15, 3, 1, 2, true), (18, 3, 2, 2, true), (21, 3, 3, 0, false), (25, 3, 4, 2, true), (28, 3, 5, 2, true), (31, 3, 6, 0, false)] : List (Nat × Nat × Nat × Nat × Bool)), zFOk RX3 q := List.forall_mem_cons.mpr ⟨⟨RX3, TX3, 7, tyX3 0, zCla3, by decide, zIn 305 (by decide +kernel) (by decide +kernel), by decide +kernel, by decide +kernel, Or.inr (Or.inl ⟨rfl, rfl⟩)⟩, List.forall_mem_cons.mpr ⟨⟨RX3, TX3, 7, tyX3 1, zCla3, by decide, zIn 306 (by decide +kernel) (by decide +kernel), by decide +kernel, by decide +kernel, Or.inr (Or.inl ⟨rfl, rfl⟩)⟩, List.forall_mem_cons.mpr ⟨⟨RX3, TX3, 7, tyX3 2, zCla3, by decide, zIn 307 (by decide +kernel) (by decide +kernel), by decide +kernel, by decide +kernel, Or.inr (Or.inl ⟨rfl, rfl⟩)⟩, List.forall_mem_cons.mpr ⟨⟨RX3, TX3, 7, tyX3 3, zCla3, by decide, zIn 308 (by decide +kernel) (by decide +kernel), by decide +kernel, by decide +kernel, Or.inl rfl⟩, List.forall_mem_cons.mpr ⟨⟨RX3, TX3, 7, tyX3 4, zCla3, by decide, zIn 310 (by decide +kernel) (by decide +kernel), by decide +kernel, by decide +kernel, Or.inr (Or.inl ⟨rfl, rfl⟩)⟩, List.forall_mem_cons.mpr ⟨⟨RX3, TX3, 7, tyX3 5, zCla3, by decide, zIn 312 (by decide +kernel) (by decide +kernel), by decide +kernel, by decide +kernel, Or.inr (Or.inl ⟨rfl, rfl⟩)⟩, List.forall_mem_cons.mpr ⟨⟨RX3, TX3, 7, tyX3 6, zCla3, by decide, zIn 314 (by decide +kernel) (by decide +kernel), by decide +kernel, by decide +kernel, Or.inl rfl⟩, fun _ h => absurd h List.not_mem_nil⟩⟩⟩⟩⟩⟩⟩
theorem PPa_M0 : ∀ q ∈ ([(3, 4, 1, 0, (yX0_init, cX0_init, 0, none, 0, 0)), (34, 3, 3, 8, gB_put), (38, 3, 2, 8, gB_at), (42, 1, 1, 0, gJM_abs)] : List (Nat × Nat × Nat × Nat × zG)), zMOk RX3 q := List.forall_mem_cons.mpr ⟨Or.inl ⟨rfl, zIn 304 (by decide +kernel) (by decide +kernel), zIn 77 (by decide +kernel) (by decide +kernel), zIn 78 (by decide +kernel) (by decide +kernel)⟩, List.forall_mem_cons.mpr ⟨Or.inr ⟨zIn 402 (by decide +kernel) (by decide +kernel), zIn 59 (by decide +kernel) (by decide +kernel), ⟨by decide +kernel, by decide +kernel⟩, by decide, zIm 824 (by decide +kernel) (by decide +kernel), zIn 401 (by decide +kernel) (by decide +kernel), by decide +kernel⟩, List.forall_mem_cons.mpr ⟨Or.inr ⟨zIn 498 (by decide +kernel) (by decide +kernel), zIn 59 (by decide +kernel) (by decide +kernel), ⟨by decide +kernel, by decide +kernel⟩, by decide, zIm 833 (by decide +kernel) (by decide +kernel), zIn 497 (by decide +kernel) (by decide +kernel), by decide +kernel⟩, List.forall_mem_cons.mpr ⟨Or.inr ⟨zIn 569 (by decide +kernel) (by decide +kernel), zIn 69 (by decide +kernel) (by decide +kernel), ⟨by decide +kernel, by decide +kernel⟩, by decide, zIn 834 (by decide +kernel) (by decide +kernel), zIn 568 (by decide +kernel) (by decide +kernel), by decide +kernel⟩, fun _ h => absurd h List.not_mem_nil⟩⟩⟩⟩
theorem PPa_K0 : ∀ q ∈ ([] : List (Nat × Value)), zKOk RX3 q := fun _ h => absurd h List.not_mem_nil
theorem PPa_N0 : ∀ q ∈ ([] : List (Nat × Nat × Nat × List Value)), zNOk RX3 q := fun _ h => absurd h List.not_mem_nil
theorem PPa : zPool RX3 pPa := ⟨PPa_F0, PPa_M0, PPa_K0, PPa_N0⟩
def pPs : zC := ([(25, 6, 0, 3, true), (13, 4, 0, 2, true), (18, 4, 1, 0, false), (22, 4, 2, 0, false)], [(3, 4, 1, 0, (yX0_init, cX0_init, 0, none, 0, 0)), (29, 3, 2, 8, gB_copyRow), (33, 1, 2, 0, gJM_min), (39, 1, 2, 0, gJM_floorMod), (42, 1, 2, 0, gJM_max)], [], [])
theorem PPs_F0 : ∀ q ∈ ([(25, 6, 0, 3, true), (13, 4, 0, 2, true), (18, 4, 1, 0, false), (22, 4, 2, 0, false)] : List (Nat × Nat × Nat × Nat × Bool)), zFOk RX4 q := List.forall_mem_cons.mpr ⟨⟨RX6, TX6, 1, tyX6 0, zCla6, by decide, zIn 211 (by decide +kernel) (by decide +kernel), by decide +kernel, by decide +kernel, Or.inr (Or.inr rfl)⟩, List.forall_mem_cons.mpr ⟨⟨RX4, TX4, 3, tyX4 0, zCla4, by decide, zIn 288 (by decide +kernel) (by decide +kernel), by decide +kernel, by decide +kernel, Or.inr (Or.inl ⟨rfl, rfl⟩)⟩, List.forall_mem_cons.mpr ⟨⟨RX4, TX4, 3, tyX4 1, zCla4, by decide, zIn 289 (by decide +kernel) (by decide +kernel), by decide +kernel, by decide +kernel, Or.inl rfl⟩, List.forall_mem_cons.mpr ⟨⟨RX4, TX4, 3, tyX4 2, zCla4, by decide, zIn 290 (by decide +kernel) (by decide +kernel), by decide +kernel, by decide +kernel, Or.inl rfl⟩, fun _ h => absurd h List.not_mem_nil⟩⟩⟩⟩
theorem PPs_M0 : ∀ q ∈ ([(3, 4, 1, 0, (yX0_init, cX0_init, 0, none, 0, 0)), (29, 3, 2, 8, gB_copyRow), (33, 1, 2, 0, gJM_min), (39, 1, 2, 0, gJM_floorMod), (42, 1, 2, 0, gJM_max)] : List (Nat × Nat × Nat × Nat × zG)), zMOk RX4 q := List.forall_mem_cons.mpr ⟨Or.inl ⟨rfl, zIn 285 (by decide +kernel) (by decide +kernel), zIn 77 (by decide +kernel) (by decide +kernel), zIn 78 (by decide +kernel) (by decide +kernel)⟩, List.forall_mem_cons.mpr ⟨Or.inr ⟨zIn 466 (by decide +kernel) (by decide +kernel), zIn 59 (by decide +kernel) (by decide +kernel), ⟨by decide +kernel, by decide +kernel⟩, by decide, zIm 606 (by decide +kernel) (by decide +kernel), zIn 465 (by decide +kernel) (by decide +kernel), by decide +kernel⟩, List.forall_mem_cons.mpr ⟨Or.inr ⟨zIn 443 (by decide +kernel) (by decide +kernel), zIn 69 (by decide +kernel) (by decide +kernel), ⟨by decide +kernel, by decide +kernel⟩, by decide, zIn 607 (by decide +kernel) (by decide +kernel), zIn 442 (by decide +kernel) (by decide +kernel), by decide +kernel⟩, List.forall_mem_cons.mpr ⟨Or.inr ⟨zIn 696 (by decide +kernel) (by decide +kernel), zIn 69 (by decide +kernel) (by decide +kernel), ⟨by decide +kernel, by decide +kernel⟩, by decide, zIn 694 (by decide +kernel) (by decide +kernel), zIn 695 (by decide +kernel) (by decide +kernel), by decide +kernel⟩, List.forall_mem_cons.mpr ⟨Or.inr ⟨zIn 524 (by decide +kernel) (by decide +kernel), zIn 69 (by decide +kernel) (by decide +kernel), ⟨by decide +kernel, by decide +kernel⟩, by decide, zIn 697 (by decide +kernel) (by decide +kernel), zIn 523 (by decide +kernel) (by decide +kernel), by decide +kernel⟩, fun _ h => absurd h List.not_mem_nil⟩⟩⟩⟩⟩
theorem PPs_K0 : ∀ q ∈ ([] : List (Nat × Value)), zKOk RX4 q := fun _ h => absurd h List.not_mem_nil
theorem PPs_N0 : ∀ q ∈ ([] : List (Nat × Nat × Nat × List Value)), zNOk RX4 q := fun _ h => absurd h List.not_mem_nil
theorem PPs : zPool RX4 pPs := ⟨PPs_F0, PPs_M0, PPs_K0, PPs_N0⟩
def pSh : zC := ([(125, 1, 2, 0, false), (58, 1, 3, 0, false), (89, 1, 4, 0, false), (105, 1, 10, 3, true), (122, 1, 13, 3, true), (9, 5, 0, 2, true), (15, 5, 1, 2, true), (19, 5, 2, 2, true), (23, 5, 3, 2, true), (27, 5, 4, 2, true), (30, 5, 5, 2, true), (33, 5, 6, 2, true), (36, 5, 7, 2, true), (39, 5, 8, 2, true), (42, 5, 9, 2, true), (45, 5, 10, 2, true), (48, 5, 11, 2, true), (51, 5, 12, 2, true), (54, 5, 13, 0, false)], [(3, 4, 1, 0, (yX0_init, cX0_init, 0, none, 0, 0)), (63, 0, 2, 0, gCt_blamesOf), (69, 1, 1, 0, gJI_bitCount), (74, 0, 2, 6, gSt_wornOf), (79, 1, 2, 0, gJM_max), (85, 3, 3, 8, gB_put), (92, 0, 2, 5, gSh_lookAt), (101, 0, 3, 1, gFa_areFar), (108, 3, 2, 8, gB_at), (112, 0, 3, 6, gSt_placeOf), (115, 0, 4, 0, gCt_wornLimit), (119, 0, 2, 5, gSh_listSets), (128, 0, 4, 5, gSh_addSet), (132, 0, 3, 5, gSh_allTake), (141, 3, 2, 8, gB_isIn), (144, 0, 3, 5, gSh_takes), (138, 1, 2, 0, gJM_min), (135, 0, 2, 1, gFa_ratesOf), (97, 0, 3, 5, gSh_search), (147, 3, 2, 8, gB_copyRow), (151, 0, 4, 5, gSh_pick), (154, 0, 3, 5, gSh_give)], [(96, .int 2147483647)], [])
theorem PSh_F0 : ∀ q ∈ ([(125, 1, 2, 0, false), (58, 1, 3, 0, false), (89, 1, 4, 0, false), (105, 1, 10, 3, true), (122, 1, 13, 3, true), (9, 5, 0, 2, true), (15, 5, 1, 2, true), (19, 5, 2, 2, true), (23, 5, 3, 2, true), (27, 5, 4, 2, true), (30, 5, 5, 2, true), (33, 5, 6, 2, true)] : List (Nat × Nat × Nat × Nat × Bool)), zFOk RX5 q := List.forall_mem_cons.mpr ⟨⟨RX1, TX1, 15, tyX1 2, zCla1, by decide, zIn 121 (by decide +kernel) (by decide +kernel), by decide +kernel, by decide +kernel, Or.inl rfl⟩, List.forall_mem_cons.mpr ⟨⟨RX1, TX1, 15, tyX1 3, zCla1, by decide, zIn 125 (by decide +kernel) (by decide +kernel), by decide +kernel, by decide +kernel, Or.inl rfl⟩, List.forall_mem_cons.mpr ⟨⟨RX1, TX1, 15, tyX1 4, zCla1, by decide, zIn 130 (by decide +kernel) (by decide +kernel), by decide +kernel, by decide +kernel, Or.inl rfl⟩, List.forall_mem_cons.mpr ⟨⟨RX1, TX1, 15, tyX1 10, zCla1, by decide, zIn 153 (by decide +kernel) (by decide +kernel), by decide +kernel, by decide +kernel, Or.inr (Or.inr rfl)⟩, List.forall_mem_cons.mpr ⟨⟨RX1, TX1, 15, tyX1 13, zCla1, by decide, zIn 166 (by decide +kernel) (by decide +kernel), by decide +kernel, by decide +kernel, Or.inr (Or.inr rfl)⟩, List.forall_mem_cons.mpr ⟨⟨RX5, TX5, 14, tyX5 0, zCla5, by decide, zIn 235 (by decide +kernel) (by decide +kernel), by decide +kernel, by decide +kernel, Or.inr (Or.inl ⟨rfl, rfl⟩)⟩, List.forall_mem_cons.mpr ⟨⟨RX5, TX5, 14, tyX5 1, zCla5, by decide, zIn 236 (by decide +kernel) (by decide +kernel), by decide +kernel, by decide +kernel, Or.inr (Or.inl ⟨rfl, rfl⟩)⟩, List.forall_mem_cons.mpr ⟨⟨RX5, TX5, 14, tyX5 2, zCla5, by decide, zIn 237 (by decide +kernel) (by decide +kernel), by decide +kernel, by decide +kernel, Or.inr (Or.inl ⟨rfl, rfl⟩)⟩, List.forall_mem_cons.mpr ⟨⟨RX5, TX5, 14, tyX5 3, zCla5, by decide, zIn 238 (by decide +kernel) (by decide +kernel), by decide +kernel, by decide +kernel, Or.inr (Or.inl ⟨rfl, rfl⟩)⟩, List.forall_mem_cons.mpr ⟨⟨RX5, TX5, 14, tyX5 4, zCla5, by decide, zIn 239 (by decide +kernel) (by decide +kernel), by decide +kernel, by decide +kernel, Or.inr (Or.inl ⟨rfl, rfl⟩)⟩, List.forall_mem_cons.mpr ⟨⟨RX5, TX5, 14, tyX5 5, zCla5, by decide, zIn 240 (by decide +kernel) (by decide +kernel), by decide +kernel, by decide +kernel, Or.inr (Or.inl ⟨rfl, rfl⟩)⟩, List.forall_mem_cons.mpr ⟨⟨RX5, TX5, 14, tyX5 6, zCla5, by decide, zIn 241 (by decide +kernel) (by decide +kernel), by decide +kernel, by decide +kernel, Or.inr (Or.inl ⟨rfl, rfl⟩)⟩, fun _ h => absurd h List.not_mem_nil⟩⟩⟩⟩⟩⟩⟩⟩⟩⟩⟩⟩
theorem PSh_F1 : ∀ q ∈ ([(36, 5, 7, 2, true), (39, 5, 8, 2, true), (42, 5, 9, 2, true), (45, 5, 10, 2, true), (48, 5, 11, 2, true), (51, 5, 12, 2, true), (54, 5, 13, 0, false)] : List (Nat × Nat × Nat × Nat × Bool)), zFOk RX5 q := List.forall_mem_cons.mpr ⟨⟨RX5, TX5, 14, tyX5 7, zCla5, by decide, zIn 242 (by decide +kernel) (by decide +kernel), by decide +kernel, by decide +kernel, Or.inr (Or.inl ⟨rfl, rfl⟩)⟩, List.forall_mem_cons.mpr ⟨⟨RX5, TX5, 14, tyX5 8, zCla5, by decide, zIn 243 (by decide +kernel) (by decide +kernel), by decide +kernel, by decide +kernel, Or.inr (Or.inl ⟨rfl, rfl⟩)⟩, List.forall_mem_cons.mpr ⟨⟨RX5, TX5, 14, tyX5 9, zCla5, by decide, zIn 244 (by decide +kernel) (by decide +kernel), by decide +kernel, by decide +kernel, Or.inr (Or.inl ⟨rfl, rfl⟩)⟩, List.forall_mem_cons.mpr ⟨⟨RX5, TX5, 14, tyX5 10, zCla5, by decide, zIn 245 (by decide +kernel) (by decide +kernel), by decide +kernel, by decide +kernel, Or.inr (Or.inl ⟨rfl, rfl⟩)⟩, List.forall_mem_cons.mpr ⟨⟨RX5, TX5, 14, tyX5 11, zCla5, by decide, zIn 246 (by decide +kernel) (by decide +kernel), by decide +kernel, by decide +kernel, Or.inr (Or.inl ⟨rfl, rfl⟩)⟩, List.forall_mem_cons.mpr ⟨⟨RX5, TX5, 14, tyX5 12, zCla5, by decide, zIn 247 (by decide +kernel) (by decide +kernel), by decide +kernel, by decide +kernel, Or.inr (Or.inl ⟨rfl, rfl⟩)⟩, List.forall_mem_cons.mpr ⟨⟨RX5, TX5, 14, tyX5 13, zCla5, by decide, zIn 249 (by decide +kernel) (by decide +kernel), by decide +kernel, by decide +kernel, Or.inl rfl⟩, fun _ h => absurd h List.not_mem_nil⟩⟩⟩⟩⟩⟩⟩
theorem PSh_M0 : ∀ q ∈ ([(3, 4, 1, 0, (yX0_init, cX0_init, 0, none, 0, 0)), (63, 0, 2, 0, gCt_blamesOf), (69, 1, 1, 0, gJI_bitCount), (74, 0, 2, 6, gSt_wornOf), (79, 1, 2, 0, gJM_max), (85, 3, 3, 8, gB_put), (92, 0, 2, 5, gSh_lookAt), (101, 0, 3, 1, gFa_areFar), (108, 3, 2, 8, gB_at), (112, 0, 3, 6, gSt_placeOf), (115, 0, 4, 0, gCt_wornLimit), (119, 0, 2, 5, gSh_listSets)] : List (Nat × Nat × Nat × Nat × zG)), zMOk RX5 q := List.forall_mem_cons.mpr ⟨Or.inl ⟨rfl, zIn 234 (by decide +kernel) (by decide +kernel), zIn 77 (by decide +kernel) (by decide +kernel), zIn 78 (by decide +kernel) (by decide +kernel)⟩, List.forall_mem_cons.mpr ⟨Or.inr ⟨zIn 542 (by decide +kernel) (by decide +kernel), zIn 63 (by decide +kernel) (by decide +kernel), ⟨by decide +kernel, by decide +kernel⟩, by decide, zIn 715 (by decide +kernel) (by decide +kernel), zIn 540 (by decide +kernel) (by decide +kernel), zIn 541 (by decide +kernel) (by decide +kernel), by decide +kernel, by decide +kernel⟩, List.forall_mem_cons.mpr ⟨Or.inr ⟨zIn 518 (by decide +kernel) (by decide +kernel), zIn 70 (by decide +kernel) (by decide +kernel), ⟨by decide +kernel, by decide +kernel⟩, by decide, zIn 716 (by decide +kernel) (by decide +kernel), zIn 517 (by decide +kernel) (by decide +kernel), by decide +kernel⟩, List.forall_mem_cons.mpr ⟨Or.inr ⟨zIn 538 (by decide +kernel) (by decide +kernel), zIn 62 (by decide +kernel) (by decide +kernel), ⟨by decide +kernel, by decide +kernel⟩, by decide, zIn 717 (by decide +kernel) (by decide +kernel), zIn 536 (by decide +kernel) (by decide +kernel), zIn 537 (by decide +kernel) (by decide +kernel), by decide +kernel, by decide +kernel⟩, List.forall_mem_cons.mpr ⟨Or.inr ⟨zIn 524 (by decide +kernel) (by decide +kernel), zIn 69 (by decide +kernel) (by decide +kernel), ⟨by decide +kernel, by decide +kernel⟩, by decide, zIn 718 (by decide +kernel) (by decide +kernel), zIn 523 (by decide +kernel) (by decide +kernel), by decide +kernel⟩, List.forall_mem_cons.mpr ⟨Or.inr ⟨zIn 402 (by decide +kernel) (by decide +kernel), zIn 59 (by decide +kernel) (by decide +kernel), ⟨by decide +kernel, by decide +kernel⟩, by decide, zIm 719 (by decide +kernel) (by decide +kernel), zIn 401 (by decide +kernel) (by decide +kernel), by decide +kernel⟩, List.forall_mem_cons.mpr ⟨Or.inr ⟨zIn 723 (by decide +kernel) (by decide +kernel), zIn 64 (by decide +kernel) (by decide +kernel), ⟨by decide +kernel, by decide +kernel⟩, by decide, zIn 720 (by decide +kernel) (by decide +kernel), zIn 722 (by decide +kernel) (by decide +kernel), zIn 16 (by decide +kernel) (by decide +kernel), by decide +kernel, by decide +kernel⟩, List.forall_mem_cons.mpr ⟨Or.inr ⟨zIn 589 (by decide +kernel) (by decide +kernel), zIn 61 (by decide +kernel) (by decide +kernel), ⟨by decide +kernel, by decide +kernel⟩, by decide, zIn 724 (by decide +kernel) (by decide +kernel), zIn 587 (by decide +kernel) (by decide +kernel), zIn 588 (by decide +kernel) (by decide +kernel), by decide +kernel, by decide +kernel⟩, List.forall_mem_cons.mpr ⟨Or.inr ⟨zIn 498 (by decide +kernel) (by decide +kernel), zIn 59 (by decide +kernel) (by decide +kernel), ⟨by decide +kernel, by decide +kernel⟩, by decide, zIm 725 (by decide +kernel) (by decide +kernel), zIn 497 (by decide +kernel) (by decide +kernel), by decide +kernel⟩, List.forall_mem_cons.mpr ⟨Or.inr ⟨zIn 549 (by decide +kernel) (by decide +kernel), zIn 62 (by decide +kernel) (by decide +kernel), ⟨by decide +kernel, by decide +kernel⟩, by decide, zIn 726 (by decide +kernel) (by decide +kernel), zIn 547 (by decide +kernel) (by decide +kernel), zIn 548 (by decide +kernel) (by decide +kernel), by decide +kernel, by decide +kernel⟩, List.forall_mem_cons.mpr ⟨Or.inr ⟨zIn 597 (by decide +kernel) (by decide +kernel), zIn 63 (by decide +kernel) (by decide +kernel), ⟨by decide +kernel, by decide +kernel⟩, by decide, zIn 727 (by decide +kernel) (by decide +kernel), zIn 595 (by decide +kernel) (by decide +kernel), zIn 596 (by decide +kernel) (by decide +kernel), by decide +kernel, by decide +kernel⟩, List.forall_mem_cons.mpr ⟨Or.inr ⟨zIn 731 (by decide +kernel) (by decide +kernel), zIn 64 (by decide +kernel) (by decide +kernel), ⟨by decide +kernel, by decide +kernel⟩, by decide, zIn 728 (by decide +kernel) (by decide +kernel), zIn 730 (by decide +kernel) (by decide +kernel), zIn 17 (by decide +kernel) (by decide +kernel), by decide +kernel, by decide +kernel⟩, fun _ h => absurd h List.not_mem_nil⟩⟩⟩⟩⟩⟩⟩⟩⟩⟩⟩⟩
theorem PSh_M1 : ∀ q ∈ ([(128, 0, 4, 5, gSh_addSet), (132, 0, 3, 5, gSh_allTake), (141, 3, 2, 8, gB_isIn), (144, 0, 3, 5, gSh_takes), (138, 1, 2, 0, gJM_min), (135, 0, 2, 1, gFa_ratesOf), (97, 0, 3, 5, gSh_search), (147, 3, 2, 8, gB_copyRow), (151, 0, 4, 5, gSh_pick), (154, 0, 3, 5, gSh_give)] : List (Nat × Nat × Nat × Nat × zG)), zMOk RX5 q := List.forall_mem_cons.mpr ⟨Or.inr ⟨zIn 735 (by decide +kernel) (by decide +kernel), zIn 64 (by decide +kernel) (by decide +kernel), ⟨by decide +kernel, by decide +kernel⟩, by decide, zIn 732 (by decide +kernel) (by decide +kernel), zIn 734 (by decide +kernel) (by decide +kernel), zIn 18 (by decide +kernel) (by decide +kernel), by decide +kernel, by decide +kernel⟩, List.forall_mem_cons.mpr ⟨Or.inr ⟨zIn 739 (by decide +kernel) (by decide +kernel), zIn 64 (by decide +kernel) (by decide +kernel), ⟨by decide +kernel, by decide +kernel⟩, by decide, zIn 736 (by decide +kernel) (by decide +kernel), zIn 738 (by decide +kernel) (by decide +kernel), zIn 19 (by decide +kernel) (by decide +kernel), by decide +kernel, by decide +kernel⟩, List.forall_mem_cons.mpr ⟨Or.inr ⟨zIn 545 (by decide +kernel) (by decide +kernel), zIn 59 (by decide +kernel) (by decide +kernel), ⟨by decide +kernel, by decide +kernel⟩, by decide, zIm 740 (by decide +kernel) (by decide +kernel), zIn 544 (by decide +kernel) (by decide +kernel), by decide +kernel⟩, List.forall_mem_cons.mpr ⟨Or.inr ⟨zIn 744 (by decide +kernel) (by decide +kernel), zIn 64 (by decide +kernel) (by decide +kernel), ⟨by decide +kernel, by decide +kernel⟩, by decide, zIn 741 (by decide +kernel) (by decide +kernel), zIn 743 (by decide +kernel) (by decide +kernel), zIn 20 (by decide +kernel) (by decide +kernel), by decide +kernel, by decide +kernel⟩, List.forall_mem_cons.mpr ⟨Or.inr ⟨zIn 443 (by decide +kernel) (by decide +kernel), zIn 69 (by decide +kernel) (by decide +kernel), ⟨by decide +kernel, by decide +kernel⟩, by decide, zIn 745 (by decide +kernel) (by decide +kernel), zIn 442 (by decide +kernel) (by decide +kernel), by decide +kernel⟩, List.forall_mem_cons.mpr ⟨Or.inr ⟨zIn 749 (by decide +kernel) (by decide +kernel), zIn 61 (by decide +kernel) (by decide +kernel), ⟨by decide +kernel, by decide +kernel⟩, by decide, zIn 746 (by decide +kernel) (by decide +kernel), zIn 747 (by decide +kernel) (by decide +kernel), zIn 748 (by decide +kernel) (by decide +kernel), by decide +kernel, by decide +kernel⟩, List.forall_mem_cons.mpr ⟨Or.inr ⟨zIn 755 (by decide +kernel) (by decide +kernel), zIn 64 (by decide +kernel) (by decide +kernel), ⟨by decide +kernel, by decide +kernel⟩, by decide, zIn 752 (by decide +kernel) (by decide +kernel), zIn 754 (by decide +kernel) (by decide +kernel), zIn 21 (by decide +kernel) (by decide +kernel), by decide +kernel, by decide +kernel⟩, List.forall_mem_cons.mpr ⟨Or.inr ⟨zIn 466 (by decide +kernel) (by decide +kernel), zIn 59 (by decide +kernel) (by decide +kernel), ⟨by decide +kernel, by decide +kernel⟩, by decide, zIm 756 (by decide +kernel) (by decide +kernel), zIn 465 (by decide +kernel) (by decide +kernel), by decide +kernel⟩, List.forall_mem_cons.mpr ⟨Or.inr ⟨zIn 760 (by decide +kernel) (by decide +kernel), zIn 64 (by decide +kernel) (by decide +kernel), ⟨by decide +kernel, by decide +kernel⟩, by decide, zIn 757 (by decide +kernel) (by decide +kernel), zIn 759 (by decide +kernel) (by decide +kernel), zIn 22 (by decide +kernel) (by decide +kernel), by decide +kernel, by decide +kernel⟩, List.forall_mem_cons.mpr ⟨Or.inr ⟨zIn 764 (by decide +kernel) (by decide +kernel), zIn 64 (by decide +kernel) (by decide +kernel), ⟨by decide +kernel, by decide +kernel⟩, by decide, zIn 761 (by decide +kernel) (by decide +kernel), zIn 763 (by decide +kernel) (by decide +kernel), zIn 23 (by decide +kernel) (by decide +kernel), by decide +kernel, by decide +kernel⟩, fun _ h => absurd h List.not_mem_nil⟩⟩⟩⟩⟩⟩⟩⟩⟩⟩
theorem PSh_K0 : ∀ q ∈ ([(96, .int 2147483647)] : List (Nat × Value)), zKOk RX5 q := List.forall_mem_cons.mpr ⟨zIn 751 (by decide +kernel) (by decide +kernel), fun _ h => absurd h List.not_mem_nil⟩
theorem PSh_N0 : ∀ q ∈ ([] : List (Nat × Nat × Nat × List Value)), zNOk RX5 q := fun _ h => absurd h List.not_mem_nil
theorem PSh : zPool RX5 pSh := ⟨List.forall_mem_append.mpr ⟨PSh_F0, PSh_F1⟩, List.forall_mem_append.mpr ⟨PSh_M0, PSh_M1⟩, PSh_K0, PSh_N0⟩
def pSt : zC := ([(19, 1, 8, 3, true), (11, 6, 0, 2, true)], [(5, 4, 1, 0, (yX0_init, cX0_init, 0, none, 0, 0)), (15, 0, 2, 6, gSt_takeRows), (24, 3, 2, 8, gB_copyRow), (28, 3, 2, 8, gB_at), (32, 3, 3, 8, gB_put), (36, 0, 2, 6, gSt_wornOf), (40, 1, 2, 0, gJM_min), (46, 1, 2, 0, gJM_max), (49, 0, 1, 6, gSt_spent), (53, 0, 1, 6, gSt_days)], [], [])
theorem PSt_F0 : ∀ q ∈ ([(19, 1, 8, 3, true), (11, 6, 0, 2, true)] : List (Nat × Nat × Nat × Nat × Bool)), zFOk RX6 q := List.forall_mem_cons.mpr ⟨⟨RX1, TX1, 15, tyX1 8, zCla1, by decide, zIn 146 (by decide +kernel) (by decide +kernel), by decide +kernel, by decide +kernel, Or.inr (Or.inr rfl)⟩, List.forall_mem_cons.mpr ⟨⟨RX6, TX6, 1, tyX6 0, zCla6, by decide, zIn 210 (by decide +kernel) (by decide +kernel), by decide +kernel, by decide +kernel, Or.inr (Or.inl ⟨rfl, rfl⟩)⟩, fun _ h => absurd h List.not_mem_nil⟩⟩
theorem PSt_M0 : ∀ q ∈ ([(5, 4, 1, 0, (yX0_init, cX0_init, 0, none, 0, 0)), (15, 0, 2, 6, gSt_takeRows), (24, 3, 2, 8, gB_copyRow), (28, 3, 2, 8, gB_at), (32, 3, 3, 8, gB_put), (36, 0, 2, 6, gSt_wornOf), (40, 1, 2, 0, gJM_min), (46, 1, 2, 0, gJM_max), (49, 0, 1, 6, gSt_spent), (53, 0, 1, 6, gSt_days)] : List (Nat × Nat × Nat × Nat × zG)), zMOk RX6 q := List.forall_mem_cons.mpr ⟨Or.inl ⟨rfl, zIn 209 (by decide +kernel) (by decide +kernel), zIn 77 (by decide +kernel) (by decide +kernel), zIn 78 (by decide +kernel) (by decide +kernel)⟩, List.forall_mem_cons.mpr ⟨Or.inr ⟨zIn 474 (by decide +kernel) (by decide +kernel), zIn 62 (by decide +kernel) (by decide +kernel), ⟨by decide +kernel, by decide +kernel⟩, by decide, zIn 471 (by decide +kernel) (by decide +kernel), zIn 472 (by decide +kernel) (by decide +kernel), zIn 473 (by decide +kernel) (by decide +kernel), by decide +kernel, by decide +kernel⟩, List.forall_mem_cons.mpr ⟨Or.inr ⟨zIn 466 (by decide +kernel) (by decide +kernel), zIn 59 (by decide +kernel) (by decide +kernel), ⟨by decide +kernel, by decide +kernel⟩, by decide, zIm 475 (by decide +kernel) (by decide +kernel), zIn 465 (by decide +kernel) (by decide +kernel), by decide +kernel⟩, List.forall_mem_cons.mpr ⟨Or.inr ⟨zIn 498 (by decide +kernel) (by decide +kernel), zIn 59 (by decide +kernel) (by decide +kernel), ⟨by decide +kernel, by decide +kernel⟩, by decide, zIm 496 (by decide +kernel) (by decide +kernel), zIn 497 (by decide +kernel) (by decide +kernel), by decide +kernel⟩, List.forall_mem_cons.mpr ⟨Or.inr ⟨zIn 402 (by decide +kernel) (by decide +kernel), zIn 59 (by decide +kernel) (by decide +kernel), ⟨by decide +kernel, by decide +kernel⟩, by decide, zIm 616 (by decide +kernel) (by decide +kernel), zIn 401 (by decide +kernel) (by decide +kernel), by decide +kernel⟩, List.forall_mem_cons.mpr ⟨Or.inr ⟨zIn 538 (by decide +kernel) (by decide +kernel), zIn 62 (by decide +kernel) (by decide +kernel), ⟨by decide +kernel, by decide +kernel⟩, by decide, zIn 621 (by decide +kernel) (by decide +kernel), zIn 536 (by decide +kernel) (by decide +kernel), zIn 537 (by decide +kernel) (by decide +kernel), by decide +kernel, by decide +kernel⟩, List.forall_mem_cons.mpr ⟨Or.inr ⟨zIn 443 (by decide +kernel) (by decide +kernel), zIn 69 (by decide +kernel) (by decide +kernel), ⟨by decide +kernel, by decide +kernel⟩, by decide, zIn 622 (by decide +kernel) (by decide +kernel), zIn 442 (by decide +kernel) (by decide +kernel), by decide +kernel⟩, List.forall_mem_cons.mpr ⟨Or.inr ⟨zIn 524 (by decide +kernel) (by decide +kernel), zIn 69 (by decide +kernel) (by decide +kernel), ⟨by decide +kernel, by decide +kernel⟩, by decide, zIn 623 (by decide +kernel) (by decide +kernel), zIn 523 (by decide +kernel) (by decide +kernel), by decide +kernel⟩, List.forall_mem_cons.mpr ⟨Or.inr ⟨zIn 502 (by decide +kernel) (by decide +kernel), zIn 62 (by decide +kernel) (by decide +kernel), ⟨by decide +kernel, by decide +kernel⟩, by decide, zIn 628 (by decide +kernel) (by decide +kernel), zIn 500 (by decide +kernel) (by decide +kernel), zIn 501 (by decide +kernel) (by decide +kernel), by decide +kernel, by decide +kernel⟩, List.forall_mem_cons.mpr ⟨Or.inr ⟨zIn 495 (by decide +kernel) (by decide +kernel), zIn 62 (by decide +kernel) (by decide +kernel), ⟨by decide +kernel, by decide +kernel⟩, by decide, zIn 661 (by decide +kernel) (by decide +kernel), zIn 493 (by decide +kernel) (by decide +kernel), zIn 494 (by decide +kernel) (by decide +kernel), by decide +kernel, by decide +kernel⟩, fun _ h => absurd h List.not_mem_nil⟩⟩⟩⟩⟩⟩⟩⟩⟩⟩
theorem PSt_K0 : ∀ q ∈ ([] : List (Nat × Value)), zKOk RX6 q := fun _ h => absurd h List.not_mem_nil
theorem PSt_N0 : ∀ q ∈ ([] : List (Nat × Nat × Nat × List Value)), zNOk RX6 q := fun _ h => absurd h List.not_mem_nil
theorem PSt : zPool RX6 pSt := ⟨PSt_F0, PSt_M0, PSt_K0, PSt_N0⟩
def pTe : zC := ([(9, 7, 0, 2, true), (15, 7, 1, 0, false), (19, 7, 2, 0, false), (22, 7, 3, 0, false), (25, 7, 4, 0, false), (28, 7, 5, 0, false), (54, 1, 0, 1, false), (72, 1, 1, 0, false), (75, 1, 2, 0, false), (81, 1, 3, 0, false), (97, 1, 4, 0, false), (84, 1, 5, 3, true), (87, 1, 6, 3, true), (90, 1, 7, 3, true), (128, 1, 8, 3, true), (100, 1, 9, 3, true), (103, 1, 10, 3, true), (106, 1, 11, 3, true), (109, 1, 12, 3, true), (112, 1, 13, 3, true), (115, 1, 14, 3, true)], [(3, 4, 1, 0, (yX0_init, cX0_init, 0, none, 0, 0)), (31, 3, 3, 8, gB_put), (35, 0, 1, 1, gFa_empty), (40, 0, 1, 7, gTe_skipBlanks), (47, 0, 1, 7, gTe_here), (43, 0, 2, 7, gTe_readClause), (51, 0, 2, 7, gTe_readJury), (58, 0, 3, 7, gTe_mark), (68, 0, 3, 7, gTe_readNumber), (118, 3, 3, 8, gB_isWithin), (123, 1, 2, 0, gJM_min), (78, 0, 1, 7, gTe_readEnd), (62, 0, 2, 7, gTe_readMan), (93, 0, 3, 7, gTe_readRow), (65, 0, 2, 7, gTe_readMishap)], [(122, .int 10000000)], [])
theorem PTe_F0 : ∀ q ∈ ([(9, 7, 0, 2, true), (15, 7, 1, 0, false), (19, 7, 2, 0, false), (22, 7, 3, 0, false), (25, 7, 4, 0, false), (28, 7, 5, 0, false), (54, 1, 0, 1, false), (72, 1, 1, 0, false), (75, 1, 2, 0, false), (81, 1, 3, 0, false), (97, 1, 4, 0, false), (84, 1, 5, 3, true)] : List (Nat × Nat × Nat × Nat × Bool)), zFOk RX7 q := List.forall_mem_cons.mpr ⟨⟨RX7, TX7, 6, tyX7 0, zCla7, by decide, zIn 85 (by decide +kernel) (by decide +kernel), by decide +kernel, by decide +kernel, Or.inr (Or.inl ⟨rfl, rfl⟩)⟩, List.forall_mem_cons.mpr ⟨⟨RX7, TX7, 6, tyX7 1, zCla7, by decide, zIn 86 (by decide +kernel) (by decide +kernel), by decide +kernel, by decide +kernel, Or.inl rfl⟩, List.forall_mem_cons.mpr ⟨⟨RX7, TX7, 6, tyX7 2, zCla7, by decide, zIn 88 (by decide +kernel) (by decide +kernel), by decide +kernel, by decide +kernel, Or.inl rfl⟩, List.forall_mem_cons.mpr ⟨⟨RX7, TX7, 6, tyX7 3, zCla7, by decide, zIn 90 (by decide +kernel) (by decide +kernel), by decide +kernel, by decide +kernel, Or.inl rfl⟩, List.forall_mem_cons.mpr ⟨⟨RX7, TX7, 6, tyX7 4, zCla7, by decide, zIn 91 (by decide +kernel) (by decide +kernel), by decide +kernel, by decide +kernel, Or.inl rfl⟩, List.forall_mem_cons.mpr ⟨⟨RX7, TX7, 6, tyX7 5, zCla7, by decide, zIn 92 (by decide +kernel) (by decide +kernel), by decide +kernel, by decide +kernel, Or.inl rfl⟩, List.forall_mem_cons.mpr ⟨⟨RX1, TX1, 15, tyX1 0, zCla1, by decide, zIn 114 (by decide +kernel) (by decide +kernel), by decide +kernel, by decide +kernel, Or.inl rfl⟩, List.forall_mem_cons.mpr ⟨⟨RX1, TX1, 15, tyX1 1, zCla1, by decide, zIn 118 (by decide +kernel) (by decide +kernel), by decide +kernel, by decide +kernel, Or.inl rfl⟩, List.forall_mem_cons.mpr ⟨⟨RX1, TX1, 15, tyX1 2, zCla1, by decide, zIn 122 (by decide +kernel) (by decide +kernel), by decide +kernel, by decide +kernel, Or.inl rfl⟩, List.forall_mem_cons.mpr ⟨⟨RX1, TX1, 15, tyX1 3, zCla1, by decide, zIn 127 (by decide +kernel) (by decide +kernel), by decide +kernel, by decide +kernel, Or.inl rfl⟩, List.forall_mem_cons.mpr ⟨⟨RX1, TX1, 15, tyX1 4, zCla1, by decide, zIn 132 (by decide +kernel) (by decide +kernel), by decide +kernel, by decide +kernel, Or.inl rfl⟩, List.forall_mem_cons.mpr ⟨⟨RX1, TX1, 15, tyX1 5, zCla1, by decide, zIn 136 (by decide +kernel) (by decide +kernel), by decide +kernel, by decide +kernel, Or.inr (Or.inr rfl)⟩, fun _ h => absurd h List.not_mem_nil⟩⟩⟩⟩⟩⟩⟩⟩⟩⟩⟩⟩
theorem PTe_F1 : ∀ q ∈ ([(87, 1, 6, 3, true), (90, 1, 7, 3, true), (128, 1, 8, 3, true), (100, 1, 9, 3, true), (103, 1, 10, 3, true), (106, 1, 11, 3, true), (109, 1, 12, 3, true), (112, 1, 13, 3, true), (115, 1, 14, 3, true)] : List (Nat × Nat × Nat × Nat × Bool)), zFOk RX7 q := List.forall_mem_cons.mpr ⟨⟨RX1, TX1, 15, tyX1 6, zCla1, by decide, zIn 140 (by decide +kernel) (by decide +kernel), by decide +kernel, by decide +kernel, Or.inr (Or.inr rfl)⟩, List.forall_mem_cons.mpr ⟨⟨RX1, TX1, 15, tyX1 7, zCla1, by decide, zIn 143 (by decide +kernel) (by decide +kernel), by decide +kernel, by decide +kernel, Or.inr (Or.inr rfl)⟩, List.forall_mem_cons.mpr ⟨⟨RX1, TX1, 15, tyX1 8, zCla1, by decide, zIn 147 (by decide +kernel) (by decide +kernel), by decide +kernel, by decide +kernel, Or.inr (Or.inr rfl)⟩, List.forall_mem_cons.mpr ⟨⟨RX1, TX1, 15, tyX1 9, zCla1, by decide, zIn 150 (by decide +kernel) (by decide +kernel), by decide +kernel, by decide +kernel, Or.inr (Or.inr rfl)⟩, List.forall_mem_cons.mpr ⟨⟨RX1, TX1, 15, tyX1 10, zCla1, by decide, zIn 154 (by decide +kernel) (by decide +kernel), by decide +kernel, by decide +kernel, Or.inr (Or.inr rfl)⟩, List.forall_mem_cons.mpr ⟨⟨RX1, TX1, 15, tyX1 11, zCla1, by decide, zIn 159 (by decide +kernel) (by decide +kernel), by decide +kernel, by decide +kernel, Or.inr (Or.inr rfl)⟩, List.forall_mem_cons.mpr ⟨⟨RX1, TX1, 15, tyX1 12, zCla1, by decide, zIn 163 (by decide +kernel) (by decide +kernel), by decide +kernel, by decide +kernel, Or.inr (Or.inr rfl)⟩, List.forall_mem_cons.mpr ⟨⟨RX1, TX1, 15, tyX1 13, zCla1, by decide, zIn 168 (by decide +kernel) (by decide +kernel), by decide +kernel, by decide +kernel, Or.inr (Or.inr rfl)⟩, List.forall_mem_cons.mpr ⟨⟨RX1, TX1, 15, tyX1 14, zCla1, by decide, zIn 172 (by decide +kernel) (by decide +kernel), by decide +kernel, by decide +kernel, Or.inr (Or.inr rfl)⟩, fun _ h => absurd h List.not_mem_nil⟩⟩⟩⟩⟩⟩⟩⟩⟩
theorem PTe_M0 : ∀ q ∈ ([(3, 4, 1, 0, (yX0_init, cX0_init, 0, none, 0, 0)), (31, 3, 3, 8, gB_put), (35, 0, 1, 1, gFa_empty), (40, 0, 1, 7, gTe_skipBlanks), (47, 0, 1, 7, gTe_here), (43, 0, 2, 7, gTe_readClause), (51, 0, 2, 7, gTe_readJury), (58, 0, 3, 7, gTe_mark), (68, 0, 3, 7, gTe_readNumber), (118, 3, 3, 8, gB_isWithin), (123, 1, 2, 0, gJM_min), (78, 0, 1, 7, gTe_readEnd)] : List (Nat × Nat × Nat × Nat × zG)), zMOk RX7 q := List.forall_mem_cons.mpr ⟨Or.inl ⟨rfl, zIn 84 (by decide +kernel) (by decide +kernel), zIn 77 (by decide +kernel) (by decide +kernel), zIn 78 (by decide +kernel) (by decide +kernel)⟩, List.forall_mem_cons.mpr ⟨Or.inr ⟨zIn 402 (by decide +kernel) (by decide +kernel), zIn 59 (by decide +kernel) (by decide +kernel), ⟨by decide +kernel, by decide +kernel⟩, by decide, zIm 400 (by decide +kernel) (by decide +kernel), zIn 401 (by decide +kernel) (by decide +kernel), by decide +kernel⟩, List.forall_mem_cons.mpr ⟨Or.inr ⟨zIn 414 (by decide +kernel) (by decide +kernel), zIn 61 (by decide +kernel) (by decide +kernel), ⟨by decide +kernel, by decide +kernel⟩, by decide, zIn 411 (by decide +kernel) (by decide +kernel), zIn 412 (by decide +kernel) (by decide +kernel), zIn 413 (by decide +kernel) (by decide +kernel), by decide +kernel, by decide +kernel⟩, List.forall_mem_cons.mpr ⟨Or.inr ⟨zIn 418 (by decide +kernel) (by decide +kernel), zIn 60 (by decide +kernel) (by decide +kernel), ⟨by decide +kernel, by decide +kernel⟩, by decide, zIn 415 (by decide +kernel) (by decide +kernel), zIn 417 (by decide +kernel) (by decide +kernel), zIn 0 (by decide +kernel) (by decide +kernel), by decide +kernel, by decide +kernel⟩, List.forall_mem_cons.mpr ⟨Or.inr ⟨zIn 422 (by decide +kernel) (by decide +kernel), zIn 60 (by decide +kernel) (by decide +kernel), ⟨by decide +kernel, by decide +kernel⟩, by decide, zIn 419 (by decide +kernel) (by decide +kernel), zIn 421 (by decide +kernel) (by decide +kernel), zIn 1 (by decide +kernel) (by decide +kernel), by decide +kernel, by decide +kernel⟩, List.forall_mem_cons.mpr ⟨Or.inr ⟨zIn 426 (by decide +kernel) (by decide +kernel), zIn 60 (by decide +kernel) (by decide +kernel), ⟨by decide +kernel, by decide +kernel⟩, by decide, zIn 423 (by decide +kernel) (by decide +kernel), zIn 425 (by decide +kernel) (by decide +kernel), zIn 2 (by decide +kernel) (by decide +kernel), by decide +kernel, by decide +kernel⟩, List.forall_mem_cons.mpr ⟨Or.inr ⟨zIn 430 (by decide +kernel) (by decide +kernel), zIn 60 (by decide +kernel) (by decide +kernel), ⟨by decide +kernel, by decide +kernel⟩, by decide, zIn 427 (by decide +kernel) (by decide +kernel), zIn 429 (by decide +kernel) (by decide +kernel), zIn 3 (by decide +kernel) (by decide +kernel), by decide +kernel, by decide +kernel⟩, List.forall_mem_cons.mpr ⟨Or.inr ⟨zIn 434 (by decide +kernel) (by decide +kernel), zIn 60 (by decide +kernel) (by decide +kernel), ⟨by decide +kernel, by decide +kernel⟩, by decide, zIn 431 (by decide +kernel) (by decide +kernel), zIn 433 (by decide +kernel) (by decide +kernel), zIn 4 (by decide +kernel) (by decide +kernel), by decide +kernel, by decide +kernel⟩, List.forall_mem_cons.mpr ⟨Or.inr ⟨zIn 438 (by decide +kernel) (by decide +kernel), zIn 60 (by decide +kernel) (by decide +kernel), ⟨by decide +kernel, by decide +kernel⟩, by decide, zIn 435 (by decide +kernel) (by decide +kernel), zIn 437 (by decide +kernel) (by decide +kernel), zIn 5 (by decide +kernel) (by decide +kernel), by decide +kernel, by decide +kernel⟩, List.forall_mem_cons.mpr ⟨Or.inr ⟨zIn 393 (by decide +kernel) (by decide +kernel), zIn 59 (by decide +kernel) (by decide +kernel), ⟨by decide +kernel, by decide +kernel⟩, by decide, zIm 439 (by decide +kernel) (by decide +kernel), zIn 392 (by decide +kernel) (by decide +kernel), by decide +kernel⟩, List.forall_mem_cons.mpr ⟨Or.inr ⟨zIn 443 (by decide +kernel) (by decide +kernel), zIn 69 (by decide +kernel) (by decide +kernel), ⟨by decide +kernel, by decide +kernel⟩, by decide, zIn 441 (by decide +kernel) (by decide +kernel), zIn 442 (by decide +kernel) (by decide +kernel), by decide +kernel⟩, List.forall_mem_cons.mpr ⟨Or.inr ⟨zIn 447 (by decide +kernel) (by decide +kernel), zIn 60 (by decide +kernel) (by decide +kernel), ⟨by decide +kernel, by decide +kernel⟩, by decide, zIn 444 (by decide +kernel) (by decide +kernel), zIn 446 (by decide +kernel) (by decide +kernel), zIn 6 (by decide +kernel) (by decide +kernel), by decide +kernel, by decide +kernel⟩, fun _ h => absurd h List.not_mem_nil⟩⟩⟩⟩⟩⟩⟩⟩⟩⟩⟩⟩
theorem PTe_M1 : ∀ q ∈ ([(62, 0, 2, 7, gTe_readMan), (93, 0, 3, 7, gTe_readRow), (65, 0, 2, 7, gTe_readMishap)] : List (Nat × Nat × Nat × Nat × zG)), zMOk RX7 q := List.forall_mem_cons.mpr ⟨Or.inr ⟨zIn 451 (by decide +kernel) (by decide +kernel), zIn 60 (by decide +kernel) (by decide +kernel), ⟨by decide +kernel, by decide +kernel⟩, by decide, zIn 448 (by decide +kernel) (by decide +kernel), zIn 450 (by decide +kernel) (by decide +kernel), zIn 7 (by decide +kernel) (by decide +kernel), by decide +kernel, by decide +kernel⟩, List.forall_mem_cons.mpr ⟨Or.inr ⟨zIn 455 (by decide +kernel) (by decide +kernel), zIn 60 (by decide +kernel) (by decide +kernel), ⟨by decide +kernel, by decide +kernel⟩, by decide, zIn 452 (by decide +kernel) (by decide +kernel), zIn 454 (by decide +kernel) (by decide +kernel), zIn 8 (by decide +kernel) (by decide +kernel), by decide +kernel, by decide +kernel⟩, List.forall_mem_cons.mpr ⟨Or.inr ⟨zIn 459 (by decide +kernel) (by decide +kernel), zIn 60 (by decide +kernel) (by decide +kernel), ⟨by decide +kernel, by decide +kernel⟩, by decide, zIn 456 (by decide +kernel) (by decide +kernel), zIn 458 (by decide +kernel) (by decide +kernel), zIn 9 (by decide +kernel) (by decide +kernel), by decide +kernel, by decide +kernel⟩, fun _ h => absurd h List.not_mem_nil⟩⟩⟩
theorem PTe_K0 : ∀ q ∈ ([(122, .int 10000000)] : List (Nat × Value)), zKOk RX7 q := List.forall_mem_cons.mpr ⟨zIn 440 (by decide +kernel) (by decide +kernel), fun _ h => absurd h List.not_mem_nil⟩
theorem PTe_N0 : ∀ q ∈ ([] : List (Nat × Nat × Nat × List Value)), zNOk RX7 q := fun _ h => absurd h List.not_mem_nil
theorem PTe : zPool RX7 pTe := ⟨List.forall_mem_append.mpr ⟨PTe_F0, PTe_F1⟩, List.forall_mem_append.mpr ⟨PTe_M0, PTe_M1⟩, PTe_K0, PTe_N0⟩
def pB : zC := ([(87, 7, 1, 0, false), (99, 7, 2, 0, false), (120, 1, 0, 1, false), (123, 1, 1, 0, false), (126, 1, 2, 0, false), (117, 1, 3, 0, false), (129, 1, 4, 0, false), (156, 1, 5, 3, true), (164, 1, 6, 3, true), (167, 1, 7, 3, true), (183, 1, 9, 3, true), (186, 1, 10, 3, true), (189, 1, 11, 3, true), (192, 1, 12, 3, true), (195, 1, 13, 3, true), (198, 1, 14, 3, true), (315, 6, 0, 3, true), (269, 5, 12, 3, true), (266, 5, 13, 0, false), (148, 4, 2, 0, false), (142, 3, 3, 0, false), (308, 3, 4, 3, true), (305, 3, 5, 3, true), (145, 3, 6, 0, false), (318, 2, 0, 3, true), (323, 2, 1, 0, false), (113, 2, 2, 1, false), (10, 8, 0, 2, true), (19, 8, 1, 2, true), (23, 8, 2, 2, true), (29, 8, 3, 2, true), (38, 8, 4, 2, true), (47, 8, 5, 2, true), (54, 8, 6, 2, true), (61, 8, 7, 2, true), (68, 8, 8, 2, true), (72, 8, 9, 2, true), (75, 8, 10, 0, false), (79, 8, 11, 0, false)], [(1, 4, 1, 0, (yX0_init, cX0_init, 0, none, 0, 0)), (9, 2, 1, 7, gTe_init), (18, 2, 1, 1, gFa_init), (28, 2, 1, 6, gSt_init), (35, 2, 3, 0, gCt_init), (44, 2, 4, 5, gSh_init), (53, 2, 1, 4, gPs_init), (60, 2, 1, 3, gPa_init), (67, 2, 1, 2, gIm_init), (82, 1, 3, 8, gB_isWithin), (91, 0, 2, 7, gTe_add), (95, 0, 2, 7, gTe_readInto), (100, 0, 2, 1, gFa_become), (104, 0, 2, 6, gSt_begin), (107, 0, 1, 4, gPs_forget), (110, 0, 1, 3, gPa_burn), (132, 0, 1, 6, gSt_days), (136, 0, 1, 6, gSt_spent), (139, 0, 1, 0, gCt_freeInAll), (151, 0, 2, 8, gB_isMan), (160, 1, 2, 8, gB_at), (170, 0, 2, 6, gSt_wornOf), (173, 0, 2, 0, gCt_blamesOf), (176, 0, 3, 6, gSt_placeOf), (180, 0, 2, 8, gB_isMishap), (201, 0, 2, 6, gSt_blamedFor), (204, 0, 3, 0, gCt_isNear), (208, 0, 3, 0, gCt_hasPowers), (211, 0, 4, 0, gCt_freshBelief), (215, 0, 3, 0, gCt_mayTake), (219, 0, 2, 4, gPs_remember), (223, 0, 3, 8, gB_putBlame), (230, 0, 3, 6, gSt_setBlamed), (233, 0, 3, 6, gSt_wear), (324, 0, 2, 6, gSt_spend), (227, 1, 2, 8, gB_isIn), (236, 1, 1, 8, gB_isHour), (239, 1, 1, 8, gB_isPlace), (242, 0, 4, 6, gSt_setPlace), (246, 0, 1, 8, gB_endDay), (341, 0, 2, 6, gSt_takeRows), (344, 0, 1, 6, gSt_countDay), (249, 0, 2, 8, gB_blameByDraws), (257, 0, 2, 0, gCt_takers), (327, 1, 1, 0, gJI_bitCount), (332, 0, 2, 8, gB_draw), (335, 1, 2, 8, gB_memberOf), (253, 0, 3, 4, gPs_giveBack), (260, 0, 2, 0, gCt_freeOf), (263, 0, 1, 5, gSh_solve), (272, 0, 2, 0, gCt_cheapestFor), (275, 0, 4, 0, gCt_nearestFit), (278, 1, 1, 0, gJM_abs), (283, 0, 2, 1, gFa_chainOf), (286, 0, 2, 1, gFa_rootOf), (289, 0, 2, 1, gFa_wholeOf), (296, 0, 4, 3, gPa_addSeen), (299, 0, 4, 3, gPa_excludes), (302, 0, 3, 3, gPa_addEntry), (311, 0, 2, 8, gB_imageOf), (319, 1, 2, 8, gB_copyRow)], [(86, .int (-1000000002)), (90, .int (-1000000004)), (155, .int (-1000000001)), (218, .int (-1000000003)), (338, .int 1103515245), (339, .int 2147483647), (340, .int 65536), (292, .long 1000000000), (294, .long 100)], [(7, 7, 6, [.null, .int 0, .int 0, .int 0, .int 0, .int 0]), (16, 1, 15, [.int 0, .int 0, .int 0, .int 0, .int 0, .null, .null, .null, .null, .null, .null, .null, .null, .null, .null]), (26, 6, 1, [.null]), (33, 0, 2, [.null, .null]), (42, 5, 14, [.null, .null, .null, .null, .null, .null, .null, .null, .null, .null, .null, .null, .null, .int 0]), (51, 4, 3, [.null, .int 0, .int 0]), (58, 3, 7, [.null, .null, .null, .int 0, .null, .null, .int 0]), (65, 2, 3, [.null, .int 0, .int 0])])
theorem PB_F0 : ∀ q ∈ ([(87, 7, 1, 0, false), (99, 7, 2, 0, false), (120, 1, 0, 1, false), (123, 1, 1, 0, false), (126, 1, 2, 0, false), (117, 1, 3, 0, false), (129, 1, 4, 0, false), (156, 1, 5, 3, true), (164, 1, 6, 3, true), (167, 1, 7, 3, true), (183, 1, 9, 3, true), (186, 1, 10, 3, true)] : List (Nat × Nat × Nat × Nat × Bool)), zFOk RX8 q := List.forall_mem_cons.mpr ⟨⟨RX7, TX7, 6, tyX7 1, zCla7, by decide, zIn 87 (by decide +kernel) (by decide +kernel), by decide +kernel, by decide +kernel, Or.inl rfl⟩, List.forall_mem_cons.mpr ⟨⟨RX7, TX7, 6, tyX7 2, zCla7, by decide, zIn 89 (by decide +kernel) (by decide +kernel), by decide +kernel, by decide +kernel, Or.inl rfl⟩, List.forall_mem_cons.mpr ⟨⟨RX1, TX1, 15, tyX1 0, zCla1, by decide, zIn 115 (by decide +kernel) (by decide +kernel), by decide +kernel, by decide +kernel, Or.inl rfl⟩, List.forall_mem_cons.mpr ⟨⟨RX1, TX1, 15, tyX1 1, zCla1, by decide, zIn 119 (by decide +kernel) (by decide +kernel), by decide +kernel, by decide +kernel, Or.inl rfl⟩, List.forall_mem_cons.mpr ⟨⟨RX1, TX1, 15, tyX1 2, zCla1, by decide, zIn 123 (by decide +kernel) (by decide +kernel), by decide +kernel, by decide +kernel, Or.inl rfl⟩, List.forall_mem_cons.mpr ⟨⟨RX1, TX1, 15, tyX1 3, zCla1, by decide, zIn 126 (by decide +kernel) (by decide +kernel), by decide +kernel, by decide +kernel, Or.inl rfl⟩, List.forall_mem_cons.mpr ⟨⟨RX1, TX1, 15, tyX1 4, zCla1, by decide, zIn 131 (by decide +kernel) (by decide +kernel), by decide +kernel, by decide +kernel, Or.inl rfl⟩, List.forall_mem_cons.mpr ⟨⟨RX1, TX1, 15, tyX1 5, zCla1, by decide, zIn 137 (by decide +kernel) (by decide +kernel), by decide +kernel, by decide +kernel, Or.inr (Or.inr rfl)⟩, List.forall_mem_cons.mpr ⟨⟨RX1, TX1, 15, tyX1 6, zCla1, by decide, zIn 141 (by decide +kernel) (by decide +kernel), by decide +kernel, by decide +kernel, Or.inr (Or.inr rfl)⟩, List.forall_mem_cons.mpr ⟨⟨RX1, TX1, 15, tyX1 7, zCla1, by decide, zIn 144 (by decide +kernel) (by decide +kernel), by decide +kernel, by decide +kernel, Or.inr (Or.inr rfl)⟩, List.forall_mem_cons.mpr ⟨⟨RX1, TX1, 15, tyX1 9, zCla1, by decide, zIn 151 (by decide +kernel) (by decide +kernel), by decide +kernel, by decide +kernel, Or.inr (Or.inr rfl)⟩, List.forall_mem_cons.mpr ⟨⟨RX1, TX1, 15, tyX1 10, zCla1, by decide, zIn 155 (by decide +kernel) (by decide +kernel), by decide +kernel, by decide +kernel, Or.inr (Or.inr rfl)⟩, fun _ h => absurd h List.not_mem_nil⟩⟩⟩⟩⟩⟩⟩⟩⟩⟩⟩⟩
theorem PB_F1 : ∀ q ∈ ([(189, 1, 11, 3, true), (192, 1, 12, 3, true), (195, 1, 13, 3, true), (198, 1, 14, 3, true), (315, 6, 0, 3, true), (269, 5, 12, 3, true), (266, 5, 13, 0, false), (148, 4, 2, 0, false), (142, 3, 3, 0, false), (308, 3, 4, 3, true), (305, 3, 5, 3, true), (145, 3, 6, 0, false)] : List (Nat × Nat × Nat × Nat × Bool)), zFOk RX8 q := List.forall_mem_cons.mpr ⟨⟨RX1, TX1, 15, tyX1 11, zCla1, by decide, zIn 160 (by decide +kernel) (by decide +kernel), by decide +kernel, by decide +kernel, Or.inr (Or.inr rfl)⟩, List.forall_mem_cons.mpr ⟨⟨RX1, TX1, 15, tyX1 12, zCla1, by decide, zIn 164 (by decide +kernel) (by decide +kernel), by decide +kernel, by decide +kernel, Or.inr (Or.inr rfl)⟩, List.forall_mem_cons.mpr ⟨⟨RX1, TX1, 15, tyX1 13, zCla1, by decide, zIn 169 (by decide +kernel) (by decide +kernel), by decide +kernel, by decide +kernel, Or.inr (Or.inr rfl)⟩, List.forall_mem_cons.mpr ⟨⟨RX1, TX1, 15, tyX1 14, zCla1, by decide, zIn 171 (by decide +kernel) (by decide +kernel), by decide +kernel, by decide +kernel, Or.inr (Or.inr rfl)⟩, List.forall_mem_cons.mpr ⟨⟨RX6, TX6, 1, tyX6 0, zCla6, by decide, zIn 212 (by decide +kernel) (by decide +kernel), by decide +kernel, by decide +kernel, Or.inr (Or.inr rfl)⟩, List.forall_mem_cons.mpr ⟨⟨RX5, TX5, 14, tyX5 12, zCla5, by decide, zIn 248 (by decide +kernel) (by decide +kernel), by decide +kernel, by decide +kernel, Or.inr (Or.inr rfl)⟩, List.forall_mem_cons.mpr ⟨⟨RX5, TX5, 14, tyX5 13, zCla5, by decide, zIn 250 (by decide +kernel) (by decide +kernel), by decide +kernel, by decide +kernel, Or.inl rfl⟩, List.forall_mem_cons.mpr ⟨⟨RX4, TX4, 3, tyX4 2, zCla4, by decide, zIn 291 (by decide +kernel) (by decide +kernel), by decide +kernel, by decide +kernel, Or.inl rfl⟩, List.forall_mem_cons.mpr ⟨⟨RX3, TX3, 7, tyX3 3, zCla3, by decide, zIn 309 (by decide +kernel) (by decide +kernel), by decide +kernel, by decide +kernel, Or.inl rfl⟩, List.forall_mem_cons.mpr ⟨⟨RX3, TX3, 7, tyX3 4, zCla3, by decide, zIn 311 (by decide +kernel) (by decide +kernel), by decide +kernel, by decide +kernel, Or.inr (Or.inr rfl)⟩, List.forall_mem_cons.mpr ⟨⟨RX3, TX3, 7, tyX3 5, zCla3, by decide, zIn 313 (by decide +kernel) (by decide +kernel), by decide +kernel, by decide +kernel, Or.inr (Or.inr rfl)⟩, List.forall_mem_cons.mpr ⟨⟨RX3, TX3, 7, tyX3 6, zCla3, by decide, zIn 315 (by decide +kernel) (by decide +kernel), by decide +kernel, by decide +kernel, Or.inl rfl⟩, fun _ h => absurd h List.not_mem_nil⟩⟩⟩⟩⟩⟩⟩⟩⟩⟩⟩⟩
theorem PB_F2 : ∀ q ∈ ([(318, 2, 0, 3, true), (323, 2, 1, 0, false), (113, 2, 2, 1, false), (10, 8, 0, 2, true), (19, 8, 1, 2, true), (23, 8, 2, 2, true), (29, 8, 3, 2, true), (38, 8, 4, 2, true), (47, 8, 5, 2, true), (54, 8, 6, 2, true), (61, 8, 7, 2, true), (68, 8, 8, 2, true)] : List (Nat × Nat × Nat × Nat × Bool)), zFOk RX8 q := List.forall_mem_cons.mpr ⟨⟨RX2, TX2, 3, tyX2 0, zCla2, by decide, zIn 338 (by decide +kernel) (by decide +kernel), by decide +kernel, by decide +kernel, Or.inr (Or.inr rfl)⟩, List.forall_mem_cons.mpr ⟨⟨RX2, TX2, 3, tyX2 1, zCla2, by decide, zIn 340 (by decide +kernel) (by decide +kernel), by decide +kernel, by decide +kernel, Or.inl rfl⟩, List.forall_mem_cons.mpr ⟨⟨RX2, TX2, 3, tyX2 2, zCla2, by decide, zIn 342 (by decide +kernel) (by decide +kernel), by decide +kernel, by decide +kernel, Or.inl rfl⟩, List.forall_mem_cons.mpr ⟨⟨RX8, TX8, 12, tyX8 0, zCla8, by decide, zIn 350 (by decide +kernel) (by decide +kernel), by decide +kernel, by decide +kernel, Or.inr (Or.inl ⟨rfl, rfl⟩)⟩, List.forall_mem_cons.mpr ⟨⟨RX8, TX8, 12, tyX8 1, zCla8, by decide, zIn 351 (by decide +kernel) (by decide +kernel), by decide +kernel, by decide +kernel, Or.inr (Or.inl ⟨rfl, rfl⟩)⟩, List.forall_mem_cons.mpr ⟨⟨RX8, TX8, 12, tyX8 2, zCla8, by decide, zIn 352 (by decide +kernel) (by decide +kernel), by decide +kernel, by decide +kernel, Or.inr (Or.inl ⟨rfl, rfl⟩)⟩, List.forall_mem_cons.mpr ⟨⟨RX8, TX8, 12, tyX8 3, zCla8, by decide, zIn 353 (by decide +kernel) (by decide +kernel), by decide +kernel, by decide +kernel, Or.inr (Or.inl ⟨rfl, rfl⟩)⟩, List.forall_mem_cons.mpr ⟨⟨RX8, TX8, 12, tyX8 4, zCla8, by decide, zIn 354 (by decide +kernel) (by decide +kernel), by decide +kernel, by decide +kernel, Or.inr (Or.inl ⟨rfl, rfl⟩)⟩, List.forall_mem_cons.mpr ⟨⟨RX8, TX8, 12, tyX8 5, zCla8, by decide, zIn 355 (by decide +kernel) (by decide +kernel), by decide +kernel, by decide +kernel, Or.inr (Or.inl ⟨rfl, rfl⟩)⟩, List.forall_mem_cons.mpr ⟨⟨RX8, TX8, 12, tyX8 6, zCla8, by decide, zIn 356 (by decide +kernel) (by decide +kernel), by decide +kernel, by decide +kernel, Or.inr (Or.inl ⟨rfl, rfl⟩)⟩, List.forall_mem_cons.mpr ⟨⟨RX8, TX8, 12, tyX8 7, zCla8, by decide, zIn 357 (by decide +kernel) (by decide +kernel), by decide +kernel, by decide +kernel, Or.inr (Or.inl ⟨rfl, rfl⟩)⟩, List.forall_mem_cons.mpr ⟨⟨RX8, TX8, 12, tyX8 8, zCla8, by decide, zIn 358 (by decide +kernel) (by decide +kernel), by decide +kernel, by decide +kernel, Or.inr (Or.inl ⟨rfl, rfl⟩)⟩, fun _ h => absurd h List.not_mem_nil⟩⟩⟩⟩⟩⟩⟩⟩⟩⟩⟩⟩
theorem PB_F3 : ∀ q ∈ ([(72, 8, 9, 2, true), (75, 8, 10, 0, false), (79, 8, 11, 0, false)] : List (Nat × Nat × Nat × Nat × Bool)), zFOk RX8 q := List.forall_mem_cons.mpr ⟨⟨RX8, TX8, 12, tyX8 9, zCla8, by decide, zIn 359 (by decide +kernel) (by decide +kernel), by decide +kernel, by decide +kernel, Or.inr (Or.inl ⟨rfl, rfl⟩)⟩, List.forall_mem_cons.mpr ⟨⟨RX8, TX8, 12, tyX8 10, zCla8, by decide, zIn 360 (by decide +kernel) (by decide +kernel), by decide +kernel, by decide +kernel, Or.inl rfl⟩, List.forall_mem_cons.mpr ⟨⟨RX8, TX8, 12, tyX8 11, zCla8, by decide, zIn 361 (by decide +kernel) (by decide +kernel), by decide +kernel, by decide +kernel, Or.inl rfl⟩, fun _ h => absurd h List.not_mem_nil⟩⟩⟩
theorem PB_M0 : ∀ q ∈ ([(1, 4, 1, 0, (yX0_init, cX0_init, 0, none, 0, 0)), (9, 2, 1, 7, gTe_init), (18, 2, 1, 1, gFa_init), (28, 2, 1, 6, gSt_init), (35, 2, 3, 0, gCt_init), (44, 2, 4, 5, gSh_init), (53, 2, 1, 4, gPs_init), (60, 2, 1, 3, gPa_init), (67, 2, 1, 2, gIm_init), (82, 1, 3, 8, gB_isWithin), (91, 0, 2, 7, gTe_add), (95, 0, 2, 7, gTe_readInto)] : List (Nat × Nat × Nat × Nat × zG)), zMOk RX8 q := List.forall_mem_cons.mpr ⟨Or.inl ⟨rfl, zIn 76 (by decide +kernel) (by decide +kernel), zIn 77 (by decide +kernel) (by decide +kernel), zIn 78 (by decide +kernel) (by decide +kernel)⟩, List.forall_mem_cons.mpr ⟨Or.inr ⟨zIn 83 (by decide +kernel) (by decide +kernel), zIn 60 (by decide +kernel) (by decide +kernel), ⟨by decide +kernel, by decide +kernel⟩, by decide, zIn 81 (by decide +kernel) (by decide +kernel), zIn 82 (by decide +kernel) (by decide +kernel), by decide +kernel, rfl, by decide +kernel, by decide +kernel⟩, List.forall_mem_cons.mpr ⟨Or.inr ⟨zIn 111 (by decide +kernel) (by decide +kernel), zIn 61 (by decide +kernel) (by decide +kernel), ⟨by decide +kernel, by decide +kernel⟩, by decide, zIn 109 (by decide +kernel) (by decide +kernel), zIn 110 (by decide +kernel) (by decide +kernel), by decide +kernel, rfl, by decide +kernel, by decide +kernel⟩, List.forall_mem_cons.mpr ⟨Or.inr ⟨zIn 208 (by decide +kernel) (by decide +kernel), zIn 62 (by decide +kernel) (by decide +kernel), ⟨by decide +kernel, by decide +kernel⟩, by decide, zIn 206 (by decide +kernel) (by decide +kernel), zIn 207 (by decide +kernel) (by decide +kernel), by decide +kernel, rfl, by decide +kernel, by decide +kernel⟩, List.forall_mem_cons.mpr ⟨Or.inr ⟨zIn 220 (by decide +kernel) (by decide +kernel), zIn 63 (by decide +kernel) (by decide +kernel), ⟨by decide +kernel, by decide +kernel⟩, by decide, zIn 218 (by decide +kernel) (by decide +kernel), zIn 219 (by decide +kernel) (by decide +kernel), by decide +kernel, rfl, by decide +kernel, by decide +kernel⟩, List.forall_mem_cons.mpr ⟨Or.inr ⟨zIn 233 (by decide +kernel) (by decide +kernel), zIn 64 (by decide +kernel) (by decide +kernel), ⟨by decide +kernel, by decide +kernel⟩, by decide, zIn 231 (by decide +kernel) (by decide +kernel), zIn 232 (by decide +kernel) (by decide +kernel), by decide +kernel, rfl, by decide +kernel, by decide +kernel⟩, List.forall_mem_cons.mpr ⟨Or.inr ⟨zIn 284 (by decide +kernel) (by decide +kernel), zIn 65 (by decide +kernel) (by decide +kernel), ⟨by decide +kernel, by decide +kernel⟩, by decide, zIn 282 (by decide +kernel) (by decide +kernel), zIn 283 (by decide +kernel) (by decide +kernel), by decide +kernel, rfl, by decide +kernel, by decide +kernel⟩, List.forall_mem_cons.mpr ⟨Or.inr ⟨zIn 303 (by decide +kernel) (by decide +kernel), zIn 66 (by decide +kernel) (by decide +kernel), ⟨by decide +kernel, by decide +kernel⟩, by decide, zIn 301 (by decide +kernel) (by decide +kernel), zIn 302 (by decide +kernel) (by decide +kernel), by decide +kernel, rfl, by decide +kernel, by decide +kernel⟩, List.forall_mem_cons.mpr ⟨Or.inr ⟨zIn 335 (by decide +kernel) (by decide +kernel), zIn 67 (by decide +kernel) (by decide +kernel), ⟨by decide +kernel, by decide +kernel⟩, by decide, zIn 333 (by decide +kernel) (by decide +kernel), zIn 334 (by decide +kernel) (by decide +kernel), by decide +kernel, rfl, by decide +kernel, by decide +kernel⟩, List.forall_mem_cons.mpr ⟨Or.inr ⟨zIn 393 (by decide +kernel) (by decide +kernel), zIn 59 (by decide +kernel) (by decide +kernel), ⟨by decide +kernel, by decide +kernel⟩, by decide, zIn 391 (by decide +kernel) (by decide +kernel), zIn 392 (by decide +kernel) (by decide +kernel), by decide +kernel⟩, List.forall_mem_cons.mpr ⟨Or.inr ⟨zIn 399 (by decide +kernel) (by decide +kernel), zIn 60 (by decide +kernel) (by decide +kernel), ⟨by decide +kernel, by decide +kernel⟩, by decide, zIn 396 (by decide +kernel) (by decide +kernel), zIn 397 (by decide +kernel) (by decide +kernel), zIn 398 (by decide +kernel) (by decide +kernel), by decide +kernel, by decide +kernel⟩, List.forall_mem_cons.mpr ⟨Or.inr ⟨zIn 410 (by decide +kernel) (by decide +kernel), zIn 60 (by decide +kernel) (by decide +kernel), ⟨by decide +kernel, by decide +kernel⟩, by decide, zIn 407 (by decide +kernel) (by decide +kernel), zIn 408 (by decide +kernel) (by decide +kernel), zIn 409 (by decide +kernel) (by decide +kernel), by decide +kernel, by decide +kernel⟩, fun _ h => absurd h List.not_mem_nil⟩⟩⟩⟩⟩⟩⟩⟩⟩⟩⟩⟩
theorem PB_M1 : ∀ q ∈ ([(100, 0, 2, 1, gFa_become), (104, 0, 2, 6, gSt_begin), (107, 0, 1, 4, gPs_forget), (110, 0, 1, 3, gPa_burn), (132, 0, 1, 6, gSt_days), (136, 0, 1, 6, gSt_spent), (139, 0, 1, 0, gCt_freeInAll), (151, 0, 2, 8, gB_isMan), (160, 1, 2, 8, gB_at), (170, 0, 2, 6, gSt_wornOf), (173, 0, 2, 0, gCt_blamesOf), (176, 0, 3, 6, gSt_placeOf)] : List (Nat × Nat × Nat × Nat × zG)), zMOk RX8 q := List.forall_mem_cons.mpr ⟨Or.inr ⟨zIn 463 (by decide +kernel) (by decide +kernel), zIn 61 (by decide +kernel) (by decide +kernel), ⟨by decide +kernel, by decide +kernel⟩, by decide, zIn 460 (by decide +kernel) (by decide +kernel), zIn 461 (by decide +kernel) (by decide +kernel), zIn 462 (by decide +kernel) (by decide +kernel), by decide +kernel, by decide +kernel⟩, List.forall_mem_cons.mpr ⟨Or.inr ⟨zIn 470 (by decide +kernel) (by decide +kernel), zIn 62 (by decide +kernel) (by decide +kernel), ⟨by decide +kernel, by decide +kernel⟩, by decide, zIn 467 (by decide +kernel) (by decide +kernel), zIn 468 (by decide +kernel) (by decide +kernel), zIn 469 (by decide +kernel) (by decide +kernel), by decide +kernel, by decide +kernel⟩, List.forall_mem_cons.mpr ⟨Or.inr ⟨zIn 479 (by decide +kernel) (by decide +kernel), zIn 65 (by decide +kernel) (by decide +kernel), ⟨by decide +kernel, by decide +kernel⟩, by decide, zIn 476 (by decide +kernel) (by decide +kernel), zIn 477 (by decide +kernel) (by decide +kernel), zIn 478 (by decide +kernel) (by decide +kernel), by decide +kernel, by decide +kernel⟩, List.forall_mem_cons.mpr ⟨Or.inr ⟨zIn 483 (by decide +kernel) (by decide +kernel), zIn 66 (by decide +kernel) (by decide +kernel), ⟨by decide +kernel, by decide +kernel⟩, by decide, zIn 480 (by decide +kernel) (by decide +kernel), zIn 481 (by decide +kernel) (by decide +kernel), zIn 482 (by decide +kernel) (by decide +kernel), by decide +kernel, by decide +kernel⟩, List.forall_mem_cons.mpr ⟨Or.inr ⟨zIn 495 (by decide +kernel) (by decide +kernel), zIn 62 (by decide +kernel) (by decide +kernel), ⟨by decide +kernel, by decide +kernel⟩, by decide, zIn 492 (by decide +kernel) (by decide +kernel), zIn 493 (by decide +kernel) (by decide +kernel), zIn 494 (by decide +kernel) (by decide +kernel), by decide +kernel, by decide +kernel⟩, List.forall_mem_cons.mpr ⟨Or.inr ⟨zIn 502 (by decide +kernel) (by decide +kernel), zIn 62 (by decide +kernel) (by decide +kernel), ⟨by decide +kernel, by decide +kernel⟩, by decide, zIn 499 (by decide +kernel) (by decide +kernel), zIn 500 (by decide +kernel) (by decide +kernel), zIn 501 (by decide +kernel) (by decide +kernel), by decide +kernel, by decide +kernel⟩, List.forall_mem_cons.mpr ⟨Or.inr ⟨zIn 506 (by decide +kernel) (by decide +kernel), zIn 63 (by decide +kernel) (by decide +kernel), ⟨by decide +kernel, by decide +kernel⟩, by decide, zIn 503 (by decide +kernel) (by decide +kernel), zIn 504 (by decide +kernel) (by decide +kernel), zIn 505 (by decide +kernel) (by decide +kernel), by decide +kernel, by decide +kernel⟩, List.forall_mem_cons.mpr ⟨Or.inr ⟨zIn 532 (by decide +kernel) (by decide +kernel), zIn 59 (by decide +kernel) (by decide +kernel), ⟨by decide +kernel, by decide +kernel⟩, by decide, zIn 529 (by decide +kernel) (by decide +kernel), zIn 531 (by decide +kernel) (by decide +kernel), zIn 10 (by decide +kernel) (by decide +kernel), by decide +kernel, by decide +kernel⟩, List.forall_mem_cons.mpr ⟨Or.inr ⟨zIn 498 (by decide +kernel) (by decide +kernel), zIn 59 (by decide +kernel) (by decide +kernel), ⟨by decide +kernel, by decide +kernel⟩, by decide, zIn 534 (by decide +kernel) (by decide +kernel), zIn 497 (by decide +kernel) (by decide +kernel), by decide +kernel⟩, List.forall_mem_cons.mpr ⟨Or.inr ⟨zIn 538 (by decide +kernel) (by decide +kernel), zIn 62 (by decide +kernel) (by decide +kernel), ⟨by decide +kernel, by decide +kernel⟩, by decide, zIn 535 (by decide +kernel) (by decide +kernel), zIn 536 (by decide +kernel) (by decide +kernel), zIn 537 (by decide +kernel) (by decide +kernel), by decide +kernel, by decide +kernel⟩, List.forall_mem_cons.mpr ⟨Or.inr ⟨zIn 542 (by decide +kernel) (by decide +kernel), zIn 63 (by decide +kernel) (by decide +kernel), ⟨by decide +kernel, by decide +kernel⟩, by decide, zIn 539 (by decide +kernel) (by decide +kernel), zIn 540 (by decide +kernel) (by decide +kernel), zIn 541 (by decide +kernel) (by decide +kernel), by decide +kernel, by decide +kernel⟩, List.forall_mem_cons.mpr ⟨Or.inr ⟨zIn 549 (by decide +kernel) (by decide +kernel), zIn 62 (by decide +kernel) (by decide +kernel), ⟨by decide +kernel, by decide +kernel⟩, by decide, zIn 546 (by decide +kernel) (by decide +kernel), zIn 547 (by decide +kernel) (by decide +kernel), zIn 548 (by decide +kernel) (by decide +kernel), by decide +kernel, by decide +kernel⟩, fun _ h => absurd h List.not_mem_nil⟩⟩⟩⟩⟩⟩⟩⟩⟩⟩⟩⟩
theorem PB_M2 : ∀ q ∈ ([(180, 0, 2, 8, gB_isMishap), (201, 0, 2, 6, gSt_blamedFor), (204, 0, 3, 0, gCt_isNear), (208, 0, 3, 0, gCt_hasPowers), (211, 0, 4, 0, gCt_freshBelief), (215, 0, 3, 0, gCt_mayTake), (219, 0, 2, 4, gPs_remember), (223, 0, 3, 8, gB_putBlame), (230, 0, 3, 6, gSt_setBlamed), (233, 0, 3, 6, gSt_wear), (324, 0, 2, 6, gSt_spend), (227, 1, 2, 8, gB_isIn)] : List (Nat × Nat × Nat × Nat × zG)), zMOk RX8 q := List.forall_mem_cons.mpr ⟨Or.inr ⟨zIn 557 (by decide +kernel) (by decide +kernel), zIn 59 (by decide +kernel) (by decide +kernel), ⟨by decide +kernel, by decide +kernel⟩, by decide, zIn 554 (by decide +kernel) (by decide +kernel), zIn 556 (by decide +kernel) (by decide +kernel), zIn 11 (by decide +kernel) (by decide +kernel), by decide +kernel, by decide +kernel⟩, List.forall_mem_cons.mpr ⟨Or.inr ⟨zIn 515 (by decide +kernel) (by decide +kernel), zIn 62 (by decide +kernel) (by decide +kernel), ⟨by decide +kernel, by decide +kernel⟩, by decide, zIn 558 (by decide +kernel) (by decide +kernel), zIn 513 (by decide +kernel) (by decide +kernel), zIn 514 (by decide +kernel) (by decide +kernel), by decide +kernel, by decide +kernel⟩, List.forall_mem_cons.mpr ⟨Or.inr ⟨zIn 566 (by decide +kernel) (by decide +kernel), zIn 63 (by decide +kernel) (by decide +kernel), ⟨by decide +kernel, by decide +kernel⟩, by decide, zIn 563 (by decide +kernel) (by decide +kernel), zIn 564 (by decide +kernel) (by decide +kernel), zIn 565 (by decide +kernel) (by decide +kernel), by decide +kernel, by decide +kernel⟩, List.forall_mem_cons.mpr ⟨Or.inr ⟨zIn 573 (by decide +kernel) (by decide +kernel), zIn 63 (by decide +kernel) (by decide +kernel), ⟨by decide +kernel, by decide +kernel⟩, by decide, zIn 570 (by decide +kernel) (by decide +kernel), zIn 571 (by decide +kernel) (by decide +kernel), zIn 572 (by decide +kernel) (by decide +kernel), by decide +kernel, by decide +kernel⟩, List.forall_mem_cons.mpr ⟨Or.inr ⟨zIn 577 (by decide +kernel) (by decide +kernel), zIn 63 (by decide +kernel) (by decide +kernel), ⟨by decide +kernel, by decide +kernel⟩, by decide, zIn 574 (by decide +kernel) (by decide +kernel), zIn 575 (by decide +kernel) (by decide +kernel), zIn 576 (by decide +kernel) (by decide +kernel), by decide +kernel, by decide +kernel⟩, List.forall_mem_cons.mpr ⟨Or.inr ⟨zIn 585 (by decide +kernel) (by decide +kernel), zIn 63 (by decide +kernel) (by decide +kernel), ⟨by decide +kernel, by decide +kernel⟩, by decide, zIn 582 (by decide +kernel) (by decide +kernel), zIn 583 (by decide +kernel) (by decide +kernel), zIn 584 (by decide +kernel) (by decide +kernel), by decide +kernel, by decide +kernel⟩, List.forall_mem_cons.mpr ⟨Or.inr ⟨zIn 605 (by decide +kernel) (by decide +kernel), zIn 65 (by decide +kernel) (by decide +kernel), ⟨by decide +kernel, by decide +kernel⟩, by decide, zIn 602 (by decide +kernel) (by decide +kernel), zIn 603 (by decide +kernel) (by decide +kernel), zIn 604 (by decide +kernel) (by decide +kernel), by decide +kernel, by decide +kernel⟩, List.forall_mem_cons.mpr ⟨Or.inr ⟨zIn 611 (by decide +kernel) (by decide +kernel), zIn 59 (by decide +kernel) (by decide +kernel), ⟨by decide +kernel, by decide +kernel⟩, by decide, zIn 608 (by decide +kernel) (by decide +kernel), zIn 610 (by decide +kernel) (by decide +kernel), zIn 12 (by decide +kernel) (by decide +kernel), by decide +kernel, by decide +kernel⟩, List.forall_mem_cons.mpr ⟨Or.inr ⟨zIn 615 (by decide +kernel) (by decide +kernel), zIn 62 (by decide +kernel) (by decide +kernel), ⟨by decide +kernel, by decide +kernel⟩, by decide, zIn 612 (by decide +kernel) (by decide +kernel), zIn 613 (by decide +kernel) (by decide +kernel), zIn 614 (by decide +kernel) (by decide +kernel), by decide +kernel, by decide +kernel⟩, List.forall_mem_cons.mpr ⟨Or.inr ⟨zIn 620 (by decide +kernel) (by decide +kernel), zIn 62 (by decide +kernel) (by decide +kernel), ⟨by decide +kernel, by decide +kernel⟩, by decide, zIn 617 (by decide +kernel) (by decide +kernel), zIn 618 (by decide +kernel) (by decide +kernel), zIn 619 (by decide +kernel) (by decide +kernel), by decide +kernel, by decide +kernel⟩, List.forall_mem_cons.mpr ⟨Or.inr ⟨zIn 627 (by decide +kernel) (by decide +kernel), zIn 62 (by decide +kernel) (by decide +kernel), ⟨by decide +kernel, by decide +kernel⟩, by decide, zIn 624 (by decide +kernel) (by decide +kernel), zIn 625 (by decide +kernel) (by decide +kernel), zIn 626 (by decide +kernel) (by decide +kernel), by decide +kernel, by decide +kernel⟩, List.forall_mem_cons.mpr ⟨Or.inr ⟨zIn 545 (by decide +kernel) (by decide +kernel), zIn 59 (by decide +kernel) (by decide +kernel), ⟨by decide +kernel, by decide +kernel⟩, by decide, zIn 633 (by decide +kernel) (by decide +kernel), zIn 544 (by decide +kernel) (by decide +kernel), by decide +kernel⟩, fun _ h => absurd h List.not_mem_nil⟩⟩⟩⟩⟩⟩⟩⟩⟩⟩⟩⟩
theorem PB_M3 : ∀ q ∈ ([(236, 1, 1, 8, gB_isHour), (239, 1, 1, 8, gB_isPlace), (242, 0, 4, 6, gSt_setPlace), (246, 0, 1, 8, gB_endDay), (341, 0, 2, 6, gSt_takeRows), (344, 0, 1, 6, gSt_countDay), (249, 0, 2, 8, gB_blameByDraws), (257, 0, 2, 0, gCt_takers), (327, 1, 1, 0, gJI_bitCount), (332, 0, 2, 8, gB_draw), (335, 1, 2, 8, gB_memberOf), (253, 0, 3, 4, gPs_giveBack)] : List (Nat × Nat × Nat × Nat × zG)), zMOk RX8 q := List.forall_mem_cons.mpr ⟨Or.inr ⟨zIn 640 (by decide +kernel) (by decide +kernel), zIn 59 (by decide +kernel) (by decide +kernel), ⟨by decide +kernel, by decide +kernel⟩, by decide, zIn 638 (by decide +kernel) (by decide +kernel), zIn 639 (by decide +kernel) (by decide +kernel), by decide +kernel⟩, List.forall_mem_cons.mpr ⟨Or.inr ⟨zIn 643 (by decide +kernel) (by decide +kernel), zIn 59 (by decide +kernel) (by decide +kernel), ⟨by decide +kernel, by decide +kernel⟩, by decide, zIn 641 (by decide +kernel) (by decide +kernel), zIn 642 (by decide +kernel) (by decide +kernel), by decide +kernel⟩, List.forall_mem_cons.mpr ⟨Or.inr ⟨zIn 647 (by decide +kernel) (by decide +kernel), zIn 62 (by decide +kernel) (by decide +kernel), ⟨by decide +kernel, by decide +kernel⟩, by decide, zIn 644 (by decide +kernel) (by decide +kernel), zIn 645 (by decide +kernel) (by decide +kernel), zIn 646 (by decide +kernel) (by decide +kernel), by decide +kernel, by decide +kernel⟩, List.forall_mem_cons.mpr ⟨Or.inr ⟨zIn 655 (by decide +kernel) (by decide +kernel), zIn 59 (by decide +kernel) (by decide +kernel), ⟨by decide +kernel, by decide +kernel⟩, by decide, zIn 652 (by decide +kernel) (by decide +kernel), zIn 654 (by decide +kernel) (by decide +kernel), zIn 13 (by decide +kernel) (by decide +kernel), by decide +kernel, by decide +kernel⟩, List.forall_mem_cons.mpr ⟨Or.inr ⟨zIn 474 (by decide +kernel) (by decide +kernel), zIn 62 (by decide +kernel) (by decide +kernel), ⟨by decide +kernel, by decide +kernel⟩, by decide, zIn 656 (by decide +kernel) (by decide +kernel), zIn 472 (by decide +kernel) (by decide +kernel), zIn 473 (by decide +kernel) (by decide +kernel), by decide +kernel, by decide +kernel⟩, List.forall_mem_cons.mpr ⟨Or.inr ⟨zIn 660 (by decide +kernel) (by decide +kernel), zIn 62 (by decide +kernel) (by decide +kernel), ⟨by decide +kernel, by decide +kernel⟩, by decide, zIn 657 (by decide +kernel) (by decide +kernel), zIn 658 (by decide +kernel) (by decide +kernel), zIn 659 (by decide +kernel) (by decide +kernel), by decide +kernel, by decide +kernel⟩, List.forall_mem_cons.mpr ⟨Or.inr ⟨zIn 669 (by decide +kernel) (by decide +kernel), zIn 59 (by decide +kernel) (by decide +kernel), ⟨by decide +kernel, by decide +kernel⟩, by decide, zIn 666 (by decide +kernel) (by decide +kernel), zIn 668 (by decide +kernel) (by decide +kernel), zIn 14 (by decide +kernel) (by decide +kernel), by decide +kernel, by decide +kernel⟩, List.forall_mem_cons.mpr ⟨Or.inr ⟨zIn 673 (by decide +kernel) (by decide +kernel), zIn 63 (by decide +kernel) (by decide +kernel), ⟨by decide +kernel, by decide +kernel⟩, by decide, zIn 670 (by decide +kernel) (by decide +kernel), zIn 671 (by decide +kernel) (by decide +kernel), zIn 672 (by decide +kernel) (by decide +kernel), by decide +kernel, by decide +kernel⟩, List.forall_mem_cons.mpr ⟨Or.inr ⟨zIn 518 (by decide +kernel) (by decide +kernel), zIn 70 (by decide +kernel) (by decide +kernel), ⟨by decide +kernel, by decide +kernel⟩, by decide, zIn 675 (by decide +kernel) (by decide +kernel), zIn 517 (by decide +kernel) (by decide +kernel), by decide +kernel⟩, List.forall_mem_cons.mpr ⟨Or.inr ⟨zIn 679 (by decide +kernel) (by decide +kernel), zIn 59 (by decide +kernel) (by decide +kernel), ⟨by decide +kernel, by decide +kernel⟩, by decide, zIn 676 (by decide +kernel) (by decide +kernel), zIn 678 (by decide +kernel) (by decide +kernel), zIn 15 (by decide +kernel) (by decide +kernel), by decide +kernel, by decide +kernel⟩, List.forall_mem_cons.mpr ⟨Or.inr ⟨zIn 685 (by decide +kernel) (by decide +kernel), zIn 59 (by decide +kernel) (by decide +kernel), ⟨by decide +kernel, by decide +kernel⟩, by decide, zIn 683 (by decide +kernel) (by decide +kernel), zIn 684 (by decide +kernel) (by decide +kernel), by decide +kernel⟩, List.forall_mem_cons.mpr ⟨Or.inr ⟨zIn 693 (by decide +kernel) (by decide +kernel), zIn 65 (by decide +kernel) (by decide +kernel), ⟨by decide +kernel, by decide +kernel⟩, by decide, zIn 690 (by decide +kernel) (by decide +kernel), zIn 691 (by decide +kernel) (by decide +kernel), zIn 692 (by decide +kernel) (by decide +kernel), by decide +kernel, by decide +kernel⟩, fun _ h => absurd h List.not_mem_nil⟩⟩⟩⟩⟩⟩⟩⟩⟩⟩⟩⟩
theorem PB_M4 : ∀ q ∈ ([(260, 0, 2, 0, gCt_freeOf), (263, 0, 1, 5, gSh_solve), (272, 0, 2, 0, gCt_cheapestFor), (275, 0, 4, 0, gCt_nearestFit), (278, 1, 1, 0, gJM_abs), (283, 0, 2, 1, gFa_chainOf), (286, 0, 2, 1, gFa_rootOf), (289, 0, 2, 1, gFa_wholeOf), (296, 0, 4, 3, gPa_addSeen), (299, 0, 4, 3, gPa_excludes), (302, 0, 3, 3, gPa_addEntry), (311, 0, 2, 8, gB_imageOf)] : List (Nat × Nat × Nat × Nat × zG)), zMOk RX8 q := List.forall_mem_cons.mpr ⟨Or.inr ⟨zIn 510 (by decide +kernel) (by decide +kernel), zIn 63 (by decide +kernel) (by decide +kernel), ⟨by decide +kernel, by decide +kernel⟩, by decide, zIn 706 (by decide +kernel) (by decide +kernel), zIn 508 (by decide +kernel) (by decide +kernel), zIn 509 (by decide +kernel) (by decide +kernel), by decide +kernel, by decide +kernel⟩, List.forall_mem_cons.mpr ⟨Or.inr ⟨zIn 714 (by decide +kernel) (by decide +kernel), zIn 64 (by decide +kernel) (by decide +kernel), ⟨by decide +kernel, by decide +kernel⟩, by decide, zIn 711 (by decide +kernel) (by decide +kernel), zIn 712 (by decide +kernel) (by decide +kernel), zIn 713 (by decide +kernel) (by decide +kernel), by decide +kernel, by decide +kernel⟩, List.forall_mem_cons.mpr ⟨Or.inr ⟨zIn 772 (by decide +kernel) (by decide +kernel), zIn 63 (by decide +kernel) (by decide +kernel), ⟨by decide +kernel, by decide +kernel⟩, by decide, zIn 769 (by decide +kernel) (by decide +kernel), zIn 770 (by decide +kernel) (by decide +kernel), zIn 771 (by decide +kernel) (by decide +kernel), by decide +kernel, by decide +kernel⟩, List.forall_mem_cons.mpr ⟨Or.inr ⟨zIn 791 (by decide +kernel) (by decide +kernel), zIn 63 (by decide +kernel) (by decide +kernel), ⟨by decide +kernel, by decide +kernel⟩, by decide, zIn 788 (by decide +kernel) (by decide +kernel), zIn 789 (by decide +kernel) (by decide +kernel), zIn 790 (by decide +kernel) (by decide +kernel), by decide +kernel, by decide +kernel⟩, List.forall_mem_cons.mpr ⟨Or.inr ⟨zIn 569 (by decide +kernel) (by decide +kernel), zIn 69 (by decide +kernel) (by decide +kernel), ⟨by decide +kernel, by decide +kernel⟩, by decide, zIn 792 (by decide +kernel) (by decide +kernel), zIn 568 (by decide +kernel) (by decide +kernel), by decide +kernel⟩, List.forall_mem_cons.mpr ⟨Or.inr ⟨zIn 800 (by decide +kernel) (by decide +kernel), zIn 61 (by decide +kernel) (by decide +kernel), ⟨by decide +kernel, by decide +kernel⟩, by decide, zIn 797 (by decide +kernel) (by decide +kernel), zIn 798 (by decide +kernel) (by decide +kernel), zIn 799 (by decide +kernel) (by decide +kernel), by decide +kernel, by decide +kernel⟩, List.forall_mem_cons.mpr ⟨Or.inr ⟨zIn 804 (by decide +kernel) (by decide +kernel), zIn 61 (by decide +kernel) (by decide +kernel), ⟨by decide +kernel, by decide +kernel⟩, by decide, zIn 801 (by decide +kernel) (by decide +kernel), zIn 802 (by decide +kernel) (by decide +kernel), zIn 803 (by decide +kernel) (by decide +kernel), by decide +kernel, by decide +kernel⟩, List.forall_mem_cons.mpr ⟨Or.inr ⟨zIn 808 (by decide +kernel) (by decide +kernel), zIn 61 (by decide +kernel) (by decide +kernel), ⟨by decide +kernel, by decide +kernel⟩, by decide, zIn 805 (by decide +kernel) (by decide +kernel), zIn 806 (by decide +kernel) (by decide +kernel), zIn 807 (by decide +kernel) (by decide +kernel), by decide +kernel, by decide +kernel⟩, List.forall_mem_cons.mpr ⟨Or.inr ⟨zIn 823 (by decide +kernel) (by decide +kernel), zIn 66 (by decide +kernel) (by decide +kernel), ⟨by decide +kernel, by decide +kernel⟩, by decide, zIn 820 (by decide +kernel) (by decide +kernel), zIn 821 (by decide +kernel) (by decide +kernel), zIn 822 (by decide +kernel) (by decide +kernel), by decide +kernel, by decide +kernel⟩, List.forall_mem_cons.mpr ⟨Or.inr ⟨zIn 832 (by decide +kernel) (by decide +kernel), zIn 66 (by decide +kernel) (by decide +kernel), ⟨by decide +kernel, by decide +kernel⟩, by decide, zIn 829 (by decide +kernel) (by decide +kernel), zIn 830 (by decide +kernel) (by decide +kernel), zIn 831 (by decide +kernel) (by decide +kernel), by decide +kernel, by decide +kernel⟩, List.forall_mem_cons.mpr ⟨Or.inr ⟨zIn 842 (by decide +kernel) (by decide +kernel), zIn 66 (by decide +kernel) (by decide +kernel), ⟨by decide +kernel, by decide +kernel⟩, by decide, zIn 839 (by decide +kernel) (by decide +kernel), zIn 840 (by decide +kernel) (by decide +kernel), zIn 841 (by decide +kernel) (by decide +kernel), by decide +kernel, by decide +kernel⟩, List.forall_mem_cons.mpr ⟨Or.inr ⟨zIn 862 (by decide +kernel) (by decide +kernel), zIn 59 (by decide +kernel) (by decide +kernel), ⟨by decide +kernel, by decide +kernel⟩, by decide, zIn 859 (by decide +kernel) (by decide +kernel), zIn 861 (by decide +kernel) (by decide +kernel), zIn 24 (by decide +kernel) (by decide +kernel), by decide +kernel, by decide +kernel⟩, fun _ h => absurd h List.not_mem_nil⟩⟩⟩⟩⟩⟩⟩⟩⟩⟩⟩⟩
theorem PB_M5 : ∀ q ∈ ([(319, 1, 2, 8, gB_copyRow)] : List (Nat × Nat × Nat × Nat × zG)), zMOk RX8 q := List.forall_mem_cons.mpr ⟨Or.inr ⟨zIn 466 (by decide +kernel) (by decide +kernel), zIn 59 (by decide +kernel) (by decide +kernel), ⟨by decide +kernel, by decide +kernel⟩, by decide, zIn 863 (by decide +kernel) (by decide +kernel), zIn 465 (by decide +kernel) (by decide +kernel), by decide +kernel⟩, fun _ h => absurd h List.not_mem_nil⟩
theorem PB_K0 : ∀ q ∈ ([(86, .int (-1000000002)), (90, .int (-1000000004)), (155, .int (-1000000001)), (218, .int (-1000000003)), (338, .int 1103515245), (339, .int 2147483647), (340, .int 65536), (292, .long 1000000000), (294, .long 100)] : List (Nat × Value)), zKOk RX8 q := List.forall_mem_cons.mpr ⟨zIn 394 (by decide +kernel) (by decide +kernel), List.forall_mem_cons.mpr ⟨zIn 395 (by decide +kernel) (by decide +kernel), List.forall_mem_cons.mpr ⟨zIn 533 (by decide +kernel) (by decide +kernel), List.forall_mem_cons.mpr ⟨zIn 601 (by decide +kernel) (by decide +kernel), List.forall_mem_cons.mpr ⟨zIn 680 (by decide +kernel) (by decide +kernel), List.forall_mem_cons.mpr ⟨zIn 681 (by decide +kernel) (by decide +kernel), List.forall_mem_cons.mpr ⟨zIn 682 (by decide +kernel) (by decide +kernel), List.forall_mem_cons.mpr ⟨zIn 814 (by decide +kernel) (by decide +kernel), List.forall_mem_cons.mpr ⟨zIn 815 (by decide +kernel) (by decide +kernel), fun _ h => absurd h List.not_mem_nil⟩⟩⟩⟩⟩⟩⟩⟩⟩
theorem PB_N0 : ∀ q ∈ ([(7, 7, 6, [.null, .int 0, .int 0, .int 0, .int 0, .int 0]), (16, 1, 15, [.int 0, .int 0, .int 0, .int 0, .int 0, .null, .null, .null, .null, .null, .null, .null, .null, .null, .null]), (26, 6, 1, [.null]), (33, 0, 2, [.null, .null]), (42, 5, 14, [.null, .null, .null, .null, .null, .null, .null, .null, .null, .null, .null, .null, .null, .int 0]), (51, 4, 3, [.null, .int 0, .int 0]), (58, 3, 7, [.null, .null, .null, .int 0, .null, .null, .int 0]), (65, 2, 3, [.null, .int 0, .int 0])] : List (Nat × Nat × Nat × List Value)), zNOk RX8 q := List.forall_mem_cons.mpr ⟨⟨RX7, TX7, tyX7, zCla7, tyX7_ok, zIn 79 (by decide +kernel) (by decide +kernel), zIn 80 (by decide +kernel) (by decide +kernel), zIn 60 (by decide +kernel) (by decide +kernel), fun j hj => (show ∀ j, j < 6 → defaultValue (tyX7 j) = vp_V [.null, .int 0, .int 0, .int 0, .int 0, .int 0] j by decide +kernel) j hj, fun _ => rfl⟩, List.forall_mem_cons.mpr ⟨⟨RX1, TX1, tyX1, zCla1, tyX1_ok, zIn 107 (by decide +kernel) (by decide +kernel), zIn 108 (by decide +kernel) (by decide +kernel), zIn 61 (by decide +kernel) (by decide +kernel), fun j hj => (show ∀ j, j < 15 → defaultValue (tyX1 j) = vp_V [.int 0, .int 0, .int 0, .int 0, .int 0, .null, .null, .null, .null, .null, .null, .null, .null, .null, .null] j by decide +kernel) j hj, fun _ => rfl⟩, List.forall_mem_cons.mpr ⟨⟨RX6, TX6, tyX6, zCla6, tyX6_ok, zIn 204 (by decide +kernel) (by decide +kernel), zIn 205 (by decide +kernel) (by decide +kernel), zIn 62 (by decide +kernel) (by decide +kernel), fun j hj => (show ∀ j, j < 1 → defaultValue (tyX6 j) = vp_V [.null] j by decide +kernel) j hj, fun _ => rfl⟩, List.forall_mem_cons.mpr ⟨⟨RX0, TX0, tyX0, zCla0, tyX0_ok, zIn 216 (by decide +kernel) (by decide +kernel), zIn 217 (by decide +kernel) (by decide +kernel), zIn 63 (by decide +kernel) (by decide +kernel), fun j hj => (show ∀ j, j < 2 → defaultValue (tyX0 j) = vp_V [.null, .null] j by decide +kernel) j hj, fun _ => rfl⟩, List.forall_mem_cons.mpr ⟨⟨RX5, TX5, tyX5, zCla5, tyX5_ok, zIn 229 (by decide +kernel) (by decide +kernel), zIn 230 (by decide +kernel) (by decide +kernel), zIn 64 (by decide +kernel) (by decide +kernel), fun j hj => (show ∀ j, j < 14 → defaultValue (tyX5 j) = vp_V [.null, .null, .null, .null, .null, .null, .null, .null, .null, .null, .null, .null, .null, .int 0] j by decide +kernel) j hj, fun _ => rfl⟩, List.forall_mem_cons.mpr ⟨⟨RX4, TX4, tyX4, zCla4, tyX4_ok, zIn 280 (by decide +kernel) (by decide +kernel), zIn 281 (by decide +kernel) (by decide +kernel), zIn 65 (by decide +kernel) (by decide +kernel), fun j hj => (show ∀ j, j < 3 → defaultValue (tyX4 j) = vp_V [.null, .int 0, .int 0] j by decide +kernel) j hj, fun _ => rfl⟩, List.forall_mem_cons.mpr ⟨⟨RX3, TX3, tyX3, zCla3, tyX3_ok, zIn 299 (by decide +kernel) (by decide +kernel), zIn 300 (by decide +kernel) (by decide +kernel), zIn 66 (by decide +kernel) (by decide +kernel), fun j hj => (show ∀ j, j < 7 → defaultValue (tyX3 j) = vp_V [.null, .null, .null, .int 0, .null, .null, .int 0] j by decide +kernel) j hj, fun _ => rfl⟩, List.forall_mem_cons.mpr ⟨⟨RX2, TX2, tyX2, zCla2, tyX2_ok, zIn 331 (by decide +kernel) (by decide +kernel), zIn 332 (by decide +kernel) (by decide +kernel), zIn 67 (by decide +kernel) (by decide +kernel), fun j hj => (show ∀ j, j < 3 → defaultValue (tyX2 j) = vp_V [.null, .int 0, .int 0] j by decide +kernel) j hj, fun _ => rfl⟩, fun _ h => absurd h List.not_mem_nil⟩⟩⟩⟩⟩⟩⟩⟩
theorem PB : zPool RX8 pB := ⟨List.forall_mem_append.mpr ⟨PB_F0, List.forall_mem_append.mpr ⟨PB_F1, List.forall_mem_append.mpr ⟨PB_F2, PB_F3⟩⟩⟩, List.forall_mem_append.mpr ⟨PB_M0, List.forall_mem_append.mpr ⟨PB_M1, List.forall_mem_append.mpr ⟨PB_M2, List.forall_mem_append.mpr ⟨PB_M3, List.forall_mem_append.mpr ⟨PB_M4, PB_M5⟩⟩⟩⟩⟩, PB_K0, PB_N0⟩
def pM : zC := ([(7, 9, 0, 2, true), (74, 9, 1, 0, false), (13, 9, 2, 0, false), (138, 9, 3, 1, false), (123, 9, 4, 0, false), (126, 9, 5, 0, false), (129, 9, 6, 0, false), (132, 9, 7, 0, false), (17, 9, 8, 2, true), (20, 9, 9, 2, true), (23, 9, 10, 2, true), (108, 9, 11, 0, false), (111, 9, 12, 0, false), (95, 9, 13, 0, false), (105, 9, 14, 0, false), (26, 9, 15, 2, true), (29, 9, 16, 2, true), (32, 9, 17, 2, true), (35, 9, 18, 2, true), (38, 9, 19, 2, true), (145, 9, 20, 0, false), (41, 9, 21, 2, true), (44, 9, 22, 2, true), (47, 9, 23, 2, true), (222, 9, 24, 0, false), (51, 9, 25, 2, true), (148, 9, 26, 0, false), (54, 9, 27, 2, true), (151, 9, 28, 0, false), (78, 9, 29, 0, false), (85, 9, 30, 0, false), (57, 9, 31, 2, true), (60, 9, 32, 2, true), (63, 9, 33, 2, true), (66, 9, 34, 2, true), (241, 9, 35, 0, false)], [(1, 4, 1, 0, (yX0_init, cX0_init, 0, none, 0, 0)), (69, 1, 3, 9, gM_in), (88, 0, 1, 9, gM_skips), (81, 0, 1, 9, gM_look), (135, 0, 1, 9, gM_reads), (102, 0, 2, 9, gM_word), (91, 0, 2, 9, gM_fails), (98, 0, 3, 9, gM_number), (114, 0, 1, 9, gM_skipsIfWell), (117, 0, 1, 9, gM_readsMan), (120, 0, 1, 9, gM_readsMishap), (142, 0, 1, 9, gM_takes), (164, 0, 1, 9, gM_allFree), (161, 0, 2, 9, gM_free), (154, 0, 2, 9, gM_blamedFor), (158, 1, 1, 9, gM_ones), (171, 0, 2, 9, gM_isMan), (176, 0, 2, 9, gM_blamesOf), (167, 1, 2, 9, gM_has), (179, 0, 2, 9, gM_isMishap), (188, 0, 3, 9, gM_isNear), (182, 0, 3, 9, gM_whereIs), (185, 1, 2, 9, gM_off), (191, 0, 3, 9, gM_can), (194, 0, 5, 9, gM_beliefAt), (204, 0, 3, 9, gM_mayBe), (198, 0, 4, 9, gM_fits), (201, 0, 3, 9, gM_areFar), (212, 0, 1, 9, gM_notes), (207, 1, 4, 9, gM_copies), (215, 0, 3, 9, gM_blames), (219, 0, 1, 9, gM_sets), (232, 0, 2, 9, gM_mayFor), (235, 0, 2, 9, gM_draw), (238, 1, 2, 9, gM_member), (254, 0, 1, 9, gM_shares), (244, 0, 1, 9, gM_costs), (247, 0, 1, 9, gM_canBe), (251, 0, 1, 9, gM_counts), (257, 0, 2, 9, gM_root)], [(73, .int (-1000000002)), (77, .int (-1000000004)), (175, .int (-1000000001)), (211, .int (-1000000003)), (225, .long 1103515245), (227, .long 12345), (229, .long 2147483647), (231, .int 65536), (260, .long 1000000000), (262, .long 100)], [])
theorem PM_F0 : ∀ q ∈ ([(7, 9, 0, 2, true), (74, 9, 1, 0, false), (13, 9, 2, 0, false), (138, 9, 3, 1, false), (123, 9, 4, 0, false), (126, 9, 5, 0, false), (129, 9, 6, 0, false), (132, 9, 7, 0, false), (17, 9, 8, 2, true), (20, 9, 9, 2, true), (23, 9, 10, 2, true), (108, 9, 11, 0, false)] : List (Nat × Nat × Nat × Nat × Bool)), zFOk RX9 q := List.forall_mem_cons.mpr ⟨⟨RX9, TX9, 36, tyX9 0, zCla9, by decide, zIn 874 (by decide +kernel) (by decide +kernel), by decide +kernel, by decide +kernel, Or.inr (Or.inl ⟨rfl, rfl⟩)⟩, List.forall_mem_cons.mpr ⟨⟨RX9, TX9, 36, tyX9 1, zCla9, by decide, zIn 875 (by decide +kernel) (by decide +kernel), by decide +kernel, by decide +kernel, Or.inl rfl⟩, List.forall_mem_cons.mpr ⟨⟨RX9, TX9, 36, tyX9 2, zCla9, by decide, zIn 876 (by decide +kernel) (by decide +kernel), by decide +kernel, by decide +kernel, Or.inl rfl⟩, List.forall_mem_cons.mpr ⟨⟨RX9, TX9, 36, tyX9 3, zCla9, by decide, zIn 877 (by decide +kernel) (by decide +kernel), by decide +kernel, by decide +kernel, Or.inl rfl⟩, List.forall_mem_cons.mpr ⟨⟨RX9, TX9, 36, tyX9 4, zCla9, by decide, zIn 878 (by decide +kernel) (by decide +kernel), by decide +kernel, by decide +kernel, Or.inl rfl⟩, List.forall_mem_cons.mpr ⟨⟨RX9, TX9, 36, tyX9 5, zCla9, by decide, zIn 879 (by decide +kernel) (by decide +kernel), by decide +kernel, by decide +kernel, Or.inl rfl⟩, List.forall_mem_cons.mpr ⟨⟨RX9, TX9, 36, tyX9 6, zCla9, by decide, zIn 880 (by decide +kernel) (by decide +kernel), by decide +kernel, by decide +kernel, Or.inl rfl⟩, List.forall_mem_cons.mpr ⟨⟨RX9, TX9, 36, tyX9 7, zCla9, by decide, zIn 881 (by decide +kernel) (by decide +kernel), by decide +kernel, by decide +kernel, Or.inl rfl⟩, List.forall_mem_cons.mpr ⟨⟨RX9, TX9, 36, tyX9 8, zCla9, by decide, zIn 882 (by decide +kernel) (by decide +kernel), by decide +kernel, by decide +kernel, Or.inr (Or.inl ⟨rfl, rfl⟩)⟩, List.forall_mem_cons.mpr ⟨⟨RX9, TX9, 36, tyX9 9, zCla9, by decide, zIn 883 (by decide +kernel) (by decide +kernel), by decide +kernel, by decide +kernel, Or.inr (Or.inl ⟨rfl, rfl⟩)⟩, List.forall_mem_cons.mpr ⟨⟨RX9, TX9, 36, tyX9 10, zCla9, by decide, zIn 884 (by decide +kernel) (by decide +kernel), by decide +kernel, by decide +kernel, Or.inr (Or.inl ⟨rfl, rfl⟩)⟩, List.forall_mem_cons.mpr ⟨⟨RX9, TX9, 36, tyX9 11, zCla9, by decide, zIn 885 (by decide +kernel) (by decide +kernel), by decide +kernel, by decide +kernel, Or.inl rfl⟩, fun _ h => absurd h List.not_mem_nil⟩⟩⟩⟩⟩⟩⟩⟩⟩⟩⟩⟩
theorem PM_F1 : ∀ q ∈ ([(111, 9, 12, 0, false), (95, 9, 13, 0, false), (105, 9, 14, 0, false), (26, 9, 15, 2, true), (29, 9, 16, 2, true), (32, 9, 17, 2, true), (35, 9, 18, 2, true), (38, 9, 19, 2, true), (145, 9, 20, 0, false), (41, 9, 21, 2, true), (44, 9, 22, 2, true), (47, 9, 23, 2, true)] : List (Nat × Nat × Nat × Nat × Bool)), zFOk RX9 q := List.forall_mem_cons.mpr ⟨⟨RX9, TX9, 36, tyX9 12, zCla9, by decide, zIn 886 (by decide +kernel) (by decide +kernel), by decide +kernel, by decide +kernel, Or.inl rfl⟩, List.forall_mem_cons.mpr ⟨⟨RX9, TX9, 36, tyX9 13, zCla9, by decide, zIn 887 (by decide +kernel) (by decide +kernel), by decide +kernel, by decide +kernel, Or.inl rfl⟩, List.forall_mem_cons.mpr ⟨⟨RX9, TX9, 36, tyX9 14, zCla9, by decide, zIn 888 (by decide +kernel) (by decide +kernel), by decide +kernel, by decide +kernel, Or.inl rfl⟩, List.forall_mem_cons.mpr ⟨⟨RX9, TX9, 36, tyX9 15, zCla9, by decide, zIn 889 (by decide +kernel) (by decide +kernel), by decide +kernel, by decide +kernel, Or.inr (Or.inl ⟨rfl, rfl⟩)⟩, List.forall_mem_cons.mpr ⟨⟨RX9, TX9, 36, tyX9 16, zCla9, by decide, zIn 890 (by decide +kernel) (by decide +kernel), by decide +kernel, by decide +kernel, Or.inr (Or.inl ⟨rfl, rfl⟩)⟩, List.forall_mem_cons.mpr ⟨⟨RX9, TX9, 36, tyX9 17, zCla9, by decide, zIn 891 (by decide +kernel) (by decide +kernel), by decide +kernel, by decide +kernel, Or.inr (Or.inl ⟨rfl, rfl⟩)⟩, List.forall_mem_cons.mpr ⟨⟨RX9, TX9, 36, tyX9 18, zCla9, by decide, zIn 892 (by decide +kernel) (by decide +kernel), by decide +kernel, by decide +kernel, Or.inr (Or.inl ⟨rfl, rfl⟩)⟩, List.forall_mem_cons.mpr ⟨⟨RX9, TX9, 36, tyX9 19, zCla9, by decide, zIn 893 (by decide +kernel) (by decide +kernel), by decide +kernel, by decide +kernel, Or.inr (Or.inl ⟨rfl, rfl⟩)⟩, List.forall_mem_cons.mpr ⟨⟨RX9, TX9, 36, tyX9 20, zCla9, by decide, zIn 894 (by decide +kernel) (by decide +kernel), by decide +kernel, by decide +kernel, Or.inl rfl⟩, List.forall_mem_cons.mpr ⟨⟨RX9, TX9, 36, tyX9 21, zCla9, by decide, zIn 895 (by decide +kernel) (by decide +kernel), by decide +kernel, by decide +kernel, Or.inr (Or.inl ⟨rfl, rfl⟩)⟩, List.forall_mem_cons.mpr ⟨⟨RX9, TX9, 36, tyX9 22, zCla9, by decide, zIn 896 (by decide +kernel) (by decide +kernel), by decide +kernel, by decide +kernel, Or.inr (Or.inl ⟨rfl, rfl⟩)⟩, List.forall_mem_cons.mpr ⟨⟨RX9, TX9, 36, tyX9 23, zCla9, by decide, zIn 897 (by decide +kernel) (by decide +kernel), by decide +kernel, by decide +kernel, Or.inr (Or.inl ⟨rfl, rfl⟩)⟩, fun _ h => absurd h List.not_mem_nil⟩⟩⟩⟩⟩⟩⟩⟩⟩⟩⟩⟩
theorem PM_F2 : ∀ q ∈ ([(222, 9, 24, 0, false), (51, 9, 25, 2, true), (148, 9, 26, 0, false), (54, 9, 27, 2, true), (151, 9, 28, 0, false), (78, 9, 29, 0, false), (85, 9, 30, 0, false), (57, 9, 31, 2, true), (60, 9, 32, 2, true), (63, 9, 33, 2, true), (66, 9, 34, 2, true), (241, 9, 35, 0, false)] : List (Nat × Nat × Nat × Nat × Bool)), zFOk RX9 q := List.forall_mem_cons.mpr ⟨⟨RX9, TX9, 36, tyX9 24, zCla9, by decide, zIn 898 (by decide +kernel) (by decide +kernel), by decide +kernel, by decide +kernel, Or.inl rfl⟩, List.forall_mem_cons.mpr ⟨⟨RX9, TX9, 36, tyX9 25, zCla9, by decide, zIn 899 (by decide +kernel) (by decide +kernel), by decide +kernel, by decide +kernel, Or.inr (Or.inl ⟨rfl, rfl⟩)⟩, List.forall_mem_cons.mpr ⟨⟨RX9, TX9, 36, tyX9 26, zCla9, by decide, zIn 900 (by decide +kernel) (by decide +kernel), by decide +kernel, by decide +kernel, Or.inl rfl⟩, List.forall_mem_cons.mpr ⟨⟨RX9, TX9, 36, tyX9 27, zCla9, by decide, zIn 901 (by decide +kernel) (by decide +kernel), by decide +kernel, by decide +kernel, Or.inr (Or.inl ⟨rfl, rfl⟩)⟩, List.forall_mem_cons.mpr ⟨⟨RX9, TX9, 36, tyX9 28, zCla9, by decide, zIn 902 (by decide +kernel) (by decide +kernel), by decide +kernel, by decide +kernel, Or.inl rfl⟩, List.forall_mem_cons.mpr ⟨⟨RX9, TX9, 36, tyX9 29, zCla9, by decide, zIn 903 (by decide +kernel) (by decide +kernel), by decide +kernel, by decide +kernel, Or.inl rfl⟩, List.forall_mem_cons.mpr ⟨⟨RX9, TX9, 36, tyX9 30, zCla9, by decide, zIn 904 (by decide +kernel) (by decide +kernel), by decide +kernel, by decide +kernel, Or.inl rfl⟩, List.forall_mem_cons.mpr ⟨⟨RX9, TX9, 36, tyX9 31, zCla9, by decide, zIn 905 (by decide +kernel) (by decide +kernel), by decide +kernel, by decide +kernel, Or.inr (Or.inl ⟨rfl, rfl⟩)⟩, List.forall_mem_cons.mpr ⟨⟨RX9, TX9, 36, tyX9 32, zCla9, by decide, zIn 906 (by decide +kernel) (by decide +kernel), by decide +kernel, by decide +kernel, Or.inr (Or.inl ⟨rfl, rfl⟩)⟩, List.forall_mem_cons.mpr ⟨⟨RX9, TX9, 36, tyX9 33, zCla9, by decide, zIn 907 (by decide +kernel) (by decide +kernel), by decide +kernel, by decide +kernel, Or.inr (Or.inl ⟨rfl, rfl⟩)⟩, List.forall_mem_cons.mpr ⟨⟨RX9, TX9, 36, tyX9 34, zCla9, by decide, zIn 908 (by decide +kernel) (by decide +kernel), by decide +kernel, by decide +kernel, Or.inr (Or.inl ⟨rfl, rfl⟩)⟩, List.forall_mem_cons.mpr ⟨⟨RX9, TX9, 36, tyX9 35, zCla9, by decide, zIn 909 (by decide +kernel) (by decide +kernel), by decide +kernel, by decide +kernel, Or.inl rfl⟩, fun _ h => absurd h List.not_mem_nil⟩⟩⟩⟩⟩⟩⟩⟩⟩⟩⟩⟩
theorem PM_M0 : ∀ q ∈ ([(1, 4, 1, 0, (yX0_init, cX0_init, 0, none, 0, 0)), (69, 1, 3, 9, gM_in), (88, 0, 1, 9, gM_skips), (81, 0, 1, 9, gM_look), (135, 0, 1, 9, gM_reads), (102, 0, 2, 9, gM_word), (91, 0, 2, 9, gM_fails), (98, 0, 3, 9, gM_number), (114, 0, 1, 9, gM_skipsIfWell), (117, 0, 1, 9, gM_readsMan), (120, 0, 1, 9, gM_readsMishap), (142, 0, 1, 9, gM_takes)] : List (Nat × Nat × Nat × Nat × zG)), zMOk RX9 q := List.forall_mem_cons.mpr ⟨Or.inl ⟨rfl, zIn 873 (by decide +kernel) (by decide +kernel), zIn 77 (by decide +kernel) (by decide +kernel), zIn 78 (by decide +kernel) (by decide +kernel)⟩, List.forall_mem_cons.mpr ⟨Or.inr ⟨zIn 990 (by decide +kernel) (by decide +kernel), zIn 68 (by decide +kernel) (by decide +kernel), ⟨by decide +kernel, by decide +kernel⟩, by decide, zIn 988 (by decide +kernel) (by decide +kernel), zIn 989 (by decide +kernel) (by decide +kernel), by decide +kernel⟩, List.forall_mem_cons.mpr ⟨Or.inr ⟨zIn 1000 (by decide +kernel) (by decide +kernel), zIn 68 (by decide +kernel) (by decide +kernel), ⟨by decide +kernel, by decide +kernel⟩, by decide, zIn 997 (by decide +kernel) (by decide +kernel), zIn 999 (by decide +kernel) (by decide +kernel), zIn 25 (by decide +kernel) (by decide +kernel), by decide +kernel, by decide +kernel⟩, List.forall_mem_cons.mpr ⟨Or.inr ⟨zIn 1004 (by decide +kernel) (by decide +kernel), zIn 68 (by decide +kernel) (by decide +kernel), ⟨by decide +kernel, by decide +kernel⟩, by decide, zIn 1001 (by decide +kernel) (by decide +kernel), zIn 1003 (by decide +kernel) (by decide +kernel), zIn 26 (by decide +kernel) (by decide +kernel), by decide +kernel, by decide +kernel⟩, List.forall_mem_cons.mpr ⟨Or.inr ⟨zIn 1008 (by decide +kernel) (by decide +kernel), zIn 68 (by decide +kernel) (by decide +kernel), ⟨by decide +kernel, by decide +kernel⟩, by decide, zIn 1005 (by decide +kernel) (by decide +kernel), zIn 1007 (by decide +kernel) (by decide +kernel), zIn 27 (by decide +kernel) (by decide +kernel), by decide +kernel, by decide +kernel⟩, List.forall_mem_cons.mpr ⟨Or.inr ⟨zIn 1012 (by decide +kernel) (by decide +kernel), zIn 68 (by decide +kernel) (by decide +kernel), ⟨by decide +kernel, by decide +kernel⟩, by decide, zIn 1009 (by decide +kernel) (by decide +kernel), zIn 1011 (by decide +kernel) (by decide +kernel), zIn 28 (by decide +kernel) (by decide +kernel), by decide +kernel, by decide +kernel⟩, List.forall_mem_cons.mpr ⟨Or.inr ⟨zIn 1016 (by decide +kernel) (by decide +kernel), zIn 68 (by decide +kernel) (by decide +kernel), ⟨by decide +kernel, by decide +kernel⟩, by decide, zIn 1013 (by decide +kernel) (by decide +kernel), zIn 1015 (by decide +kernel) (by decide +kernel), zIn 29 (by decide +kernel) (by decide +kernel), by decide +kernel, by decide +kernel⟩, List.forall_mem_cons.mpr ⟨Or.inr ⟨zIn 1020 (by decide +kernel) (by decide +kernel), zIn 68 (by decide +kernel) (by decide +kernel), ⟨by decide +kernel, by decide +kernel⟩, by decide, zIn 1017 (by decide +kernel) (by decide +kernel), zIn 1019 (by decide +kernel) (by decide +kernel), zIn 30 (by decide +kernel) (by decide +kernel), by decide +kernel, by decide +kernel⟩, List.forall_mem_cons.mpr ⟨Or.inr ⟨zIn 1024 (by decide +kernel) (by decide +kernel), zIn 68 (by decide +kernel) (by decide +kernel), ⟨by decide +kernel, by decide +kernel⟩, by decide, zIn 1021 (by decide +kernel) (by decide +kernel), zIn 1023 (by decide +kernel) (by decide +kernel), zIn 31 (by decide +kernel) (by decide +kernel), by decide +kernel, by decide +kernel⟩, List.forall_mem_cons.mpr ⟨Or.inr ⟨zIn 1028 (by decide +kernel) (by decide +kernel), zIn 68 (by decide +kernel) (by decide +kernel), ⟨by decide +kernel, by decide +kernel⟩, by decide, zIn 1025 (by decide +kernel) (by decide +kernel), zIn 1027 (by decide +kernel) (by decide +kernel), zIn 32 (by decide +kernel) (by decide +kernel), by decide +kernel, by decide +kernel⟩, List.forall_mem_cons.mpr ⟨Or.inr ⟨zIn 1032 (by decide +kernel) (by decide +kernel), zIn 68 (by decide +kernel) (by decide +kernel), ⟨by decide +kernel, by decide +kernel⟩, by decide, zIn 1029 (by decide +kernel) (by decide +kernel), zIn 1031 (by decide +kernel) (by decide +kernel), zIn 33 (by decide +kernel) (by decide +kernel), by decide +kernel, by decide +kernel⟩, List.forall_mem_cons.mpr ⟨Or.inr ⟨zIn 1036 (by decide +kernel) (by decide +kernel), zIn 68 (by decide +kernel) (by decide +kernel), ⟨by decide +kernel, by decide +kernel⟩, by decide, zIn 1033 (by decide +kernel) (by decide +kernel), zIn 1035 (by decide +kernel) (by decide +kernel), zIn 34 (by decide +kernel) (by decide +kernel), by decide +kernel, by decide +kernel⟩, fun _ h => absurd h List.not_mem_nil⟩⟩⟩⟩⟩⟩⟩⟩⟩⟩⟩⟩
theorem PM_M1 : ∀ q ∈ ([(164, 0, 1, 9, gM_allFree), (161, 0, 2, 9, gM_free), (154, 0, 2, 9, gM_blamedFor), (158, 1, 1, 9, gM_ones), (171, 0, 2, 9, gM_isMan), (176, 0, 2, 9, gM_blamesOf), (167, 1, 2, 9, gM_has), (179, 0, 2, 9, gM_isMishap), (188, 0, 3, 9, gM_isNear), (182, 0, 3, 9, gM_whereIs), (185, 1, 2, 9, gM_off), (191, 0, 3, 9, gM_can)] : List (Nat × Nat × Nat × Nat × zG)), zMOk RX9 q := List.forall_mem_cons.mpr ⟨Or.inr ⟨zIn 1048 (by decide +kernel) (by decide +kernel), zIn 68 (by decide +kernel) (by decide +kernel), ⟨by decide +kernel, by decide +kernel⟩, by decide, zIn 1045 (by decide +kernel) (by decide +kernel), zIn 1047 (by decide +kernel) (by decide +kernel), zIn 35 (by decide +kernel) (by decide +kernel), by decide +kernel, by decide +kernel⟩, List.forall_mem_cons.mpr ⟨Or.inr ⟨zIn 1052 (by decide +kernel) (by decide +kernel), zIn 68 (by decide +kernel) (by decide +kernel), ⟨by decide +kernel, by decide +kernel⟩, by decide, zIn 1049 (by decide +kernel) (by decide +kernel), zIn 1051 (by decide +kernel) (by decide +kernel), zIn 36 (by decide +kernel) (by decide +kernel), by decide +kernel, by decide +kernel⟩, List.forall_mem_cons.mpr ⟨Or.inr ⟨zIn 1056 (by decide +kernel) (by decide +kernel), zIn 68 (by decide +kernel) (by decide +kernel), ⟨by decide +kernel, by decide +kernel⟩, by decide, zIn 1053 (by decide +kernel) (by decide +kernel), zIn 1055 (by decide +kernel) (by decide +kernel), zIn 37 (by decide +kernel) (by decide +kernel), by decide +kernel, by decide +kernel⟩, List.forall_mem_cons.mpr ⟨Or.inr ⟨zIn 1059 (by decide +kernel) (by decide +kernel), zIn 68 (by decide +kernel) (by decide +kernel), ⟨by decide +kernel, by decide +kernel⟩, by decide, zIn 1057 (by decide +kernel) (by decide +kernel), zIn 1058 (by decide +kernel) (by decide +kernel), by decide +kernel⟩, List.forall_mem_cons.mpr ⟨Or.inr ⟨zIn 1067 (by decide +kernel) (by decide +kernel), zIn 68 (by decide +kernel) (by decide +kernel), ⟨by decide +kernel, by decide +kernel⟩, by decide, zIn 1064 (by decide +kernel) (by decide +kernel), zIn 1066 (by decide +kernel) (by decide +kernel), zIn 38 (by decide +kernel) (by decide +kernel), by decide +kernel, by decide +kernel⟩, List.forall_mem_cons.mpr ⟨Or.inr ⟨zIn 1072 (by decide +kernel) (by decide +kernel), zIn 68 (by decide +kernel) (by decide +kernel), ⟨by decide +kernel, by decide +kernel⟩, by decide, zIn 1069 (by decide +kernel) (by decide +kernel), zIn 1071 (by decide +kernel) (by decide +kernel), zIn 39 (by decide +kernel) (by decide +kernel), by decide +kernel, by decide +kernel⟩, List.forall_mem_cons.mpr ⟨Or.inr ⟨zIn 1075 (by decide +kernel) (by decide +kernel), zIn 68 (by decide +kernel) (by decide +kernel), ⟨by decide +kernel, by decide +kernel⟩, by decide, zIn 1073 (by decide +kernel) (by decide +kernel), zIn 1074 (by decide +kernel) (by decide +kernel), by decide +kernel⟩, List.forall_mem_cons.mpr ⟨Or.inr ⟨zIn 1083 (by decide +kernel) (by decide +kernel), zIn 68 (by decide +kernel) (by decide +kernel), ⟨by decide +kernel, by decide +kernel⟩, by decide, zIn 1080 (by decide +kernel) (by decide +kernel), zIn 1082 (by decide +kernel) (by decide +kernel), zIn 40 (by decide +kernel) (by decide +kernel), by decide +kernel, by decide +kernel⟩, List.forall_mem_cons.mpr ⟨Or.inr ⟨zIn 1091 (by decide +kernel) (by decide +kernel), zIn 68 (by decide +kernel) (by decide +kernel), ⟨by decide +kernel, by decide +kernel⟩, by decide, zIn 1088 (by decide +kernel) (by decide +kernel), zIn 1090 (by decide +kernel) (by decide +kernel), zIn 41 (by decide +kernel) (by decide +kernel), by decide +kernel, by decide +kernel⟩, List.forall_mem_cons.mpr ⟨Or.inr ⟨zIn 1095 (by decide +kernel) (by decide +kernel), zIn 68 (by decide +kernel) (by decide +kernel), ⟨by decide +kernel, by decide +kernel⟩, by decide, zIn 1092 (by decide +kernel) (by decide +kernel), zIn 1094 (by decide +kernel) (by decide +kernel), zIn 42 (by decide +kernel) (by decide +kernel), by decide +kernel, by decide +kernel⟩, List.forall_mem_cons.mpr ⟨Or.inr ⟨zIn 1098 (by decide +kernel) (by decide +kernel), zIn 68 (by decide +kernel) (by decide +kernel), ⟨by decide +kernel, by decide +kernel⟩, by decide, zIn 1096 (by decide +kernel) (by decide +kernel), zIn 1097 (by decide +kernel) (by decide +kernel), by decide +kernel⟩, List.forall_mem_cons.mpr ⟨Or.inr ⟨zIn 1102 (by decide +kernel) (by decide +kernel), zIn 68 (by decide +kernel) (by decide +kernel), ⟨by decide +kernel, by decide +kernel⟩, by decide, zIn 1099 (by decide +kernel) (by decide +kernel), zIn 1101 (by decide +kernel) (by decide +kernel), zIn 43 (by decide +kernel) (by decide +kernel), by decide +kernel, by decide +kernel⟩, fun _ h => absurd h List.not_mem_nil⟩⟩⟩⟩⟩⟩⟩⟩⟩⟩⟩⟩
theorem PM_M2 : ∀ q ∈ ([(194, 0, 5, 9, gM_beliefAt), (204, 0, 3, 9, gM_mayBe), (198, 0, 4, 9, gM_fits), (201, 0, 3, 9, gM_areFar), (212, 0, 1, 9, gM_notes), (207, 1, 4, 9, gM_copies), (215, 0, 3, 9, gM_blames), (219, 0, 1, 9, gM_sets), (232, 0, 2, 9, gM_mayFor), (235, 0, 2, 9, gM_draw), (238, 1, 2, 9, gM_member), (254, 0, 1, 9, gM_shares)] : List (Nat × Nat × Nat × Nat × zG)), zMOk RX9 q := List.forall_mem_cons.mpr ⟨Or.inr ⟨zIn 1106 (by decide +kernel) (by decide +kernel), zIn 68 (by decide +kernel) (by decide +kernel), ⟨by decide +kernel, by decide +kernel⟩, by decide, zIn 1103 (by decide +kernel) (by decide +kernel), zIn 1105 (by decide +kernel) (by decide +kernel), zIn 44 (by decide +kernel) (by decide +kernel), by decide +kernel, by decide +kernel⟩, List.forall_mem_cons.mpr ⟨Or.inr ⟨zIn 1114 (by decide +kernel) (by decide +kernel), zIn 68 (by decide +kernel) (by decide +kernel), ⟨by decide +kernel, by decide +kernel⟩, by decide, zIn 1111 (by decide +kernel) (by decide +kernel), zIn 1113 (by decide +kernel) (by decide +kernel), zIn 45 (by decide +kernel) (by decide +kernel), by decide +kernel, by decide +kernel⟩, List.forall_mem_cons.mpr ⟨Or.inr ⟨zIn 1118 (by decide +kernel) (by decide +kernel), zIn 68 (by decide +kernel) (by decide +kernel), ⟨by decide +kernel, by decide +kernel⟩, by decide, zIn 1115 (by decide +kernel) (by decide +kernel), zIn 1117 (by decide +kernel) (by decide +kernel), zIn 46 (by decide +kernel) (by decide +kernel), by decide +kernel, by decide +kernel⟩, List.forall_mem_cons.mpr ⟨Or.inr ⟨zIn 1122 (by decide +kernel) (by decide +kernel), zIn 68 (by decide +kernel) (by decide +kernel), ⟨by decide +kernel, by decide +kernel⟩, by decide, zIn 1119 (by decide +kernel) (by decide +kernel), zIn 1121 (by decide +kernel) (by decide +kernel), zIn 47 (by decide +kernel) (by decide +kernel), by decide +kernel, by decide +kernel⟩, List.forall_mem_cons.mpr ⟨Or.inr ⟨zIn 1127 (by decide +kernel) (by decide +kernel), zIn 68 (by decide +kernel) (by decide +kernel), ⟨by decide +kernel, by decide +kernel⟩, by decide, zIn 1124 (by decide +kernel) (by decide +kernel), zIn 1126 (by decide +kernel) (by decide +kernel), zIn 48 (by decide +kernel) (by decide +kernel), by decide +kernel, by decide +kernel⟩, List.forall_mem_cons.mpr ⟨Or.inr ⟨zIn 1130 (by decide +kernel) (by decide +kernel), zIn 68 (by decide +kernel) (by decide +kernel), ⟨by decide +kernel, by decide +kernel⟩, by decide, zIn 1128 (by decide +kernel) (by decide +kernel), zIn 1129 (by decide +kernel) (by decide +kernel), by decide +kernel⟩, List.forall_mem_cons.mpr ⟨Or.inr ⟨zIn 1134 (by decide +kernel) (by decide +kernel), zIn 68 (by decide +kernel) (by decide +kernel), ⟨by decide +kernel, by decide +kernel⟩, by decide, zIn 1131 (by decide +kernel) (by decide +kernel), zIn 1133 (by decide +kernel) (by decide +kernel), zIn 49 (by decide +kernel) (by decide +kernel), by decide +kernel, by decide +kernel⟩, List.forall_mem_cons.mpr ⟨Or.inr ⟨zIn 1150 (by decide +kernel) (by decide +kernel), zIn 68 (by decide +kernel) (by decide +kernel), ⟨by decide +kernel, by decide +kernel⟩, by decide, zIn 1147 (by decide +kernel) (by decide +kernel), zIn 1149 (by decide +kernel) (by decide +kernel), zIn 50 (by decide +kernel) (by decide +kernel), by decide +kernel, by decide +kernel⟩, List.forall_mem_cons.mpr ⟨Or.inr ⟨zIn 1158 (by decide +kernel) (by decide +kernel), zIn 68 (by decide +kernel) (by decide +kernel), ⟨by decide +kernel, by decide +kernel⟩, by decide, zIn 1155 (by decide +kernel) (by decide +kernel), zIn 1157 (by decide +kernel) (by decide +kernel), zIn 51 (by decide +kernel) (by decide +kernel), by decide +kernel, by decide +kernel⟩, List.forall_mem_cons.mpr ⟨Or.inr ⟨zIn 1162 (by decide +kernel) (by decide +kernel), zIn 68 (by decide +kernel) (by decide +kernel), ⟨by decide +kernel, by decide +kernel⟩, by decide, zIn 1159 (by decide +kernel) (by decide +kernel), zIn 1161 (by decide +kernel) (by decide +kernel), zIn 52 (by decide +kernel) (by decide +kernel), by decide +kernel, by decide +kernel⟩, List.forall_mem_cons.mpr ⟨Or.inr ⟨zIn 1169 (by decide +kernel) (by decide +kernel), zIn 68 (by decide +kernel) (by decide +kernel), ⟨by decide +kernel, by decide +kernel⟩, by decide, zIn 1167 (by decide +kernel) (by decide +kernel), zIn 1168 (by decide +kernel) (by decide +kernel), by decide +kernel⟩, List.forall_mem_cons.mpr ⟨Or.inr ⟨zIn 1189 (by decide +kernel) (by decide +kernel), zIn 68 (by decide +kernel) (by decide +kernel), ⟨by decide +kernel, by decide +kernel⟩, by decide, zIn 1186 (by decide +kernel) (by decide +kernel), zIn 1188 (by decide +kernel) (by decide +kernel), zIn 53 (by decide +kernel) (by decide +kernel), by decide +kernel, by decide +kernel⟩, fun _ h => absurd h List.not_mem_nil⟩⟩⟩⟩⟩⟩⟩⟩⟩⟩⟩⟩
theorem PM_M3 : ∀ q ∈ ([(244, 0, 1, 9, gM_costs), (247, 0, 1, 9, gM_canBe), (251, 0, 1, 9, gM_counts), (257, 0, 2, 9, gM_root)] : List (Nat × Nat × Nat × Nat × zG)), zMOk RX9 q := List.forall_mem_cons.mpr ⟨Or.inr ⟨zIn 1193 (by decide +kernel) (by decide +kernel), zIn 68 (by decide +kernel) (by decide +kernel), ⟨by decide +kernel, by decide +kernel⟩, by decide, zIn 1190 (by decide +kernel) (by decide +kernel), zIn 1192 (by decide +kernel) (by decide +kernel), zIn 54 (by decide +kernel) (by decide +kernel), by decide +kernel, by decide +kernel⟩, List.forall_mem_cons.mpr ⟨Or.inr ⟨zIn 1197 (by decide +kernel) (by decide +kernel), zIn 68 (by decide +kernel) (by decide +kernel), ⟨by decide +kernel, by decide +kernel⟩, by decide, zIn 1194 (by decide +kernel) (by decide +kernel), zIn 1196 (by decide +kernel) (by decide +kernel), zIn 55 (by decide +kernel) (by decide +kernel), by decide +kernel, by decide +kernel⟩, List.forall_mem_cons.mpr ⟨Or.inr ⟨zIn 1201 (by decide +kernel) (by decide +kernel), zIn 68 (by decide +kernel) (by decide +kernel), ⟨by decide +kernel, by decide +kernel⟩, by decide, zIn 1198 (by decide +kernel) (by decide +kernel), zIn 1200 (by decide +kernel) (by decide +kernel), zIn 56 (by decide +kernel) (by decide +kernel), by decide +kernel, by decide +kernel⟩, List.forall_mem_cons.mpr ⟨Or.inr ⟨zIn 1225 (by decide +kernel) (by decide +kernel), zIn 68 (by decide +kernel) (by decide +kernel), ⟨by decide +kernel, by decide +kernel⟩, by decide, zIn 1222 (by decide +kernel) (by decide +kernel), zIn 1224 (by decide +kernel) (by decide +kernel), zIn 57 (by decide +kernel) (by decide +kernel), by decide +kernel, by decide +kernel⟩, fun _ h => absurd h List.not_mem_nil⟩⟩⟩⟩
theorem PM_K0 : ∀ q ∈ ([(73, .int (-1000000002)), (77, .int (-1000000004)), (175, .int (-1000000001)), (211, .int (-1000000003)), (225, .long 1103515245), (227, .long 12345), (229, .long 2147483647), (231, .int 65536), (260, .long 1000000000), (262, .long 100)] : List (Nat × Value)), zKOk RX9 q := List.forall_mem_cons.mpr ⟨zIn 991 (by decide +kernel) (by decide +kernel), List.forall_mem_cons.mpr ⟨zIn 992 (by decide +kernel) (by decide +kernel), List.forall_mem_cons.mpr ⟨zIn 1068 (by decide +kernel) (by decide +kernel), List.forall_mem_cons.mpr ⟨zIn 1123 (by decide +kernel) (by decide +kernel), List.forall_mem_cons.mpr ⟨zIn 1163 (by decide +kernel) (by decide +kernel), List.forall_mem_cons.mpr ⟨zIn 1164 (by decide +kernel) (by decide +kernel), List.forall_mem_cons.mpr ⟨zIn 1165 (by decide +kernel) (by decide +kernel), List.forall_mem_cons.mpr ⟨zIn 1166 (by decide +kernel) (by decide +kernel), List.forall_mem_cons.mpr ⟨zIn 1230 (by decide +kernel) (by decide +kernel), List.forall_mem_cons.mpr ⟨zIn 1231 (by decide +kernel) (by decide +kernel), fun _ h => absurd h List.not_mem_nil⟩⟩⟩⟩⟩⟩⟩⟩⟩⟩
theorem PM_N0 : ∀ q ∈ ([] : List (Nat × Nat × Nat × List Value)), zNOk RX9 q := fun _ h => absurd h List.not_mem_nil
theorem PM : zPool RX9 pM := ⟨List.forall_mem_append.mpr ⟨PM_F0, List.forall_mem_append.mpr ⟨PM_F1, PM_F2⟩⟩, List.forall_mem_append.mpr ⟨PM_M0, List.forall_mem_append.mpr ⟨PM_M1, List.forall_mem_append.mpr ⟨PM_M2, PM_M3⟩⟩⟩, PM_K0, PM_N0⟩
def pJI : zC := ([], [], [(265, .int 1431655765), (266, .int 858993459), (267, .int 252645135)], [])
theorem PJI_F0 : ∀ q ∈ ([] : List (Nat × Nat × Nat × Nat × Bool)), zFOk RJ6 q := fun _ h => absurd h List.not_mem_nil
theorem PJI_M0 : ∀ q ∈ ([] : List (Nat × Nat × Nat × Nat × zG)), zMOk RJ6 q := fun _ h => absurd h List.not_mem_nil
theorem PJI_K0 : ∀ q ∈ ([(265, .int 1431655765), (266, .int 858993459), (267, .int 252645135)] : List (Nat × Value)), zKOk RJ6 q := List.forall_mem_cons.mpr ⟨zIn 519 (by decide +kernel) (by decide +kernel), List.forall_mem_cons.mpr ⟨zIn 520 (by decide +kernel) (by decide +kernel), List.forall_mem_cons.mpr ⟨zIn 521 (by decide +kernel) (by decide +kernel), fun _ h => absurd h List.not_mem_nil⟩⟩⟩
theorem PJI_N0 : ∀ q ∈ ([] : List (Nat × Nat × Nat × List Value)), zNOk RJ6 q := fun _ h => absurd h List.not_mem_nil
theorem PJI : zPool RJ6 pJI := ⟨PJI_F0, PJI_M0, PJI_K0, PJI_N0⟩
def pJM : zC := ([], [], [], [])
theorem PJM_F0 : ∀ q ∈ ([] : List (Nat × Nat × Nat × Nat × Bool)), zFOk RJ9 q := fun _ h => absurd h List.not_mem_nil
theorem PJM_M0 : ∀ q ∈ ([] : List (Nat × Nat × Nat × Nat × zG)), zMOk RJ9 q := fun _ h => absurd h List.not_mem_nil
theorem PJM_K0 : ∀ q ∈ ([] : List (Nat × Value)), zKOk RJ9 q := fun _ h => absurd h List.not_mem_nil
theorem PJM_N0 : ∀ q ∈ ([] : List (Nat × Nat × Nat × List Value)), zNOk RJ9 q := fun _ h => absurd h List.not_mem_nil
theorem PJM : zPool RJ9 pJM := ⟨PJM_F0, PJM_M0, PJM_K0, PJM_N0⟩
end
section
def kCt_init : List zR := [(0, .aload_n 0, 1, .null, 0, []),
  (1, .invokespecial 3, 3, .null, 0, []),
  (4, .aload_n 0, 1, .null, 0, []),
  (5, .aload_n 1, 1, .null, 0, []),
  (6, .putfield 9, 3, .null, 0, []),
  (9, .aload_n 0, 1, .null, 0, []),
  (10, .aload_n 2, 1, .null, 0, []),
  (11, .putfield 15, 3, .null, 0, []),
  (14, .return_, 1, .null, 0, [])]
theorem KCt_init : zCode gCt_init kCt_init := by unfold zCode; decide +kernel
def kCt_isNear : List zR := [(0, .iload_n 1, 1, .null, 0, []),
  (1, .iconst (-1), 1, .int (-1), 0, []),
  (2, .if_icmp .eq 27, 3, .null, 29, []),
  (5, .iload_n 1, 1, .null, 0, []),
  (6, .aload_n 0, 1, .null, 0, []),
  (7, .getfield 9, 3, .null, 0, []),
  (10, .getfield 19, 3, .null, 0, []),
  (13, .iload_n 2, 1, .null, 0, []),
  (14, .invokestatic 25, 3, .null, 0, []),
  (17, .isub, 1, .null, 0, []),
  (18, .invokestatic 29, 3, .null, 0, []),
  (21, .iconst 1, 1, .int 1, 0, []),
  (22, .if_icmp .gt 7, 3, .null, 29, []),
  (25, .iconst 1, 1, .int 1, 0, []),
  (26, .goto 4, 3, .null, 30, []),
  (29, .iconst 0, 1, .int 0, 0, []),
  (30, .ireturn, 1, .null, 0, [])]
theorem KCt_isNear : zCode gCt_isNear kCt_isNear := by unfold zCode; decide +kernel
def kCt_hasPowers : List zR := [(0, .aload_n 0, 1, .null, 0, []),
  (1, .getfield 9, 3, .null, 0, []),
  (4, .getfield 35, 3, .null, 0, []),
  (7, .iload_n 2, 1, .null, 0, []),
  (8, .invokestatic 25, 3, .null, 0, []),
  (11, .aload_n 0, 1, .null, 0, []),
  (12, .getfield 9, 3, .null, 0, []),
  (15, .getfield 38, 3, .null, 0, []),
  (18, .iload_n 1, 1, .null, 0, []),
  (19, .invokestatic 25, 3, .null, 0, []),
  (22, .iconst (-1), 1, .int (-1), 0, []),
  (23, .ixor, 1, .null, 0, []),
  (24, .iand, 1, .null, 0, []),
  (25, .ifCond .ne 7, 3, .null, 32, []),
  (28, .iconst 1, 1, .int 1, 0, []),
  (29, .goto 4, 3, .null, 33, []),
  (32, .iconst 0, 1, .int 0, 0, []),
  (33, .ireturn, 1, .null, 0, [])]
theorem KCt_hasPowers : zCode gCt_hasPowers kCt_hasPowers := by unfold zCode; decide +kernel
def kCt_freshBelief : List zR := [(0, .aload_n 0, 1, .null, 0, []),
  (1, .getfield 9, 3, .null, 0, []),
  (4, .getfield 41, 3, .null, 0, []),
  (7, .iload_n 1, 1, .null, 0, []),
  (8, .invokestatic 25, 3, .null, 0, []),
  (11, .aload_n 0, 1, .null, 0, []),
  (12, .getfield 9, 3, .null, 0, []),
  (15, .getfield 44, 3, .null, 0, []),
  (18, .iload_n 2, 1, .null, 0, []),
  (19, .invokestatic 25, 3, .null, 0, []),
  (22, .invokestatic 47, 3, .null, 0, []),
  (25, .ifCond .eq 7, 3, .null, 32, []),
  (28, .iconst 2, 1, .int 2, 0, []),
  (29, .goto 4, 3, .null, 33, []),
  (32, .iconst 0, 1, .int 0, 0, []),
  (33, .istore 4, 2, .null, 0, []),
  (35, .iload_n 3, 1, .null, 0, []),
  (36, .aload_n 0, 1, .null, 0, []),
  (37, .getfield 9, 3, .null, 0, []),
  (40, .getfield 19, 3, .null, 0, []),
  (43, .iload_n 2, 1, .null, 0, []),
  (44, .invokestatic 25, 3, .null, 0, []),
  (47, .if_icmp .ne 7, 3, .null, 54, []),
  (50, .iconst 2, 1, .int 2, 0, []),
  (51, .goto 4, 3, .null, 55, []),
  (54, .iconst 0, 1, .int 0, 0, []),
  (55, .istore 5, 2, .null, 0, []),
  (57, .iconst 1, 1, .int 1, 0, []),
  (58, .iload 4, 2, .null, 0, []),
  (60, .iadd, 1, .null, 0, []),
  (61, .iload 5, 2, .null, 0, []),
  (63, .iadd, 1, .null, 0, []),
  (64, .ireturn, 1, .null, 0, [])]
theorem KCt_freshBelief : zCode gCt_freshBelief kCt_freshBelief := by unfold zCode; decide +kernel
def kCt_wornLimit : List zR := [(0, .aload_n 0, 1, .null, 0, []),
  (1, .iload_n 3, 1, .null, 0, []),
  (2, .iload_n 2, 1, .null, 0, []),
  (3, .invokevirtual 51, 3, .null, 0, []),
  (6, .ifCond .eq 12, 3, .null, 18, []),
  (9, .aload_n 0, 1, .null, 0, []),
  (10, .iload_n 1, 1, .null, 0, []),
  (11, .iload_n 2, 1, .null, 0, []),
  (12, .invokevirtual 54, 3, .null, 0, []),
  (15, .ifCond .ne 5, 3, .null, 20, []),
  (18, .iconst (-1), 1, .int (-1), 0, []),
  (19, .ireturn, 1, .null, 0, []),
  (20, .aload_n 0, 1, .null, 0, []),
  (21, .iload_n 1, 1, .null, 0, []),
  (22, .iload_n 2, 1, .null, 0, []),
  (23, .iload_n 3, 1, .null, 0, []),
  (24, .invokevirtual 57, 3, .null, 0, []),
  (27, .aload_n 0, 1, .null, 0, []),
  (28, .getfield 9, 3, .null, 0, []),
  (31, .getfield 61, 3, .null, 0, []),
  (34, .isub, 1, .null, 0, []),
  (35, .ireturn, 1, .null, 0, [])]
theorem KCt_wornLimit : zCode gCt_wornLimit kCt_wornLimit := by unfold zCode; decide +kernel
def kCt_freeOf : List zR := [(0, .iconst 0, 1, .int 0, 0, []),
  (1, .aload_n 0, 1, .null, 0, []),
  (2, .getfield 9, 3, .null, 0, []),
  (5, .getfield 65, 3, .null, 0, []),
  (8, .iload_n 1, 1, .null, 0, []),
  (9, .invokestatic 25, 3, .null, 0, []),
  (12, .aload_n 0, 1, .null, 0, []),
  (13, .getfield 15, 3, .null, 0, []),
  (16, .iload_n 1, 1, .null, 0, []),
  (17, .invokevirtual 68, 3, .null, 0, []),
  (20, .invokestatic 73, 3, .null, 0, []),
  (23, .isub, 1, .null, 0, []),
  (24, .invokestatic 78, 3, .null, 0, []),
  (27, .ireturn, 1, .null, 0, [])]
theorem KCt_freeOf : zCode gCt_freeOf kCt_freeOf := by unfold zCode; decide +kernel
def kCt_freeInAll : List zR := [(0, .iconst 0, 1, .int 0, 0, []),
  (1, .istore_n 1, 1, .null, 0, []),
  (2, .iconst 0, 1, .int 0, 0, []),
  (3, .istore_n 2, 1, .null, 0, []),
  (4, .iload_n 2, 1, .null, 0, []),
  (5, .aload_n 0, 1, .null, 0, []),
  (6, .getfield 9, 3, .null, 0, []),
  (9, .getfield 82, 3, .null, 0, []),
  (12, .if_icmp .ge 17, 3, .null, 29, []),
  (15, .iload_n 1, 1, .null, 0, []),
  (16, .aload_n 0, 1, .null, 0, []),
  (17, .iload_n 2, 1, .null, 0, []),
  (18, .invokevirtual 85, 3, .null, 0, []),
  (21, .iadd, 1, .null, 0, []),
  (22, .istore_n 1, 1, .null, 0, []),
  (23, .iinc 2 1, 3, .int 1, 0, []),
  (26, .goto (-22), 3, .null, 4, []),
  (29, .iload_n 1, 1, .null, 0, []),
  (30, .ireturn, 1, .null, 0, [])]
theorem KCt_freeInAll : zCode gCt_freeInAll kCt_freeInAll := by unfold zCode; decide +kernel
def kCt_blamesOf : List zR := [(0, .iconst 0, 1, .int 0, 0, []),
  (1, .istore_n 2, 1, .null, 0, []),
  (2, .iconst 0, 1, .int 0, 0, []),
  (3, .istore_n 3, 1, .null, 0, []),
  (4, .iload_n 3, 1, .null, 0, []),
  (5, .aload_n 0, 1, .null, 0, []),
  (6, .getfield 9, 3, .null, 0, []),
  (9, .getfield 82, 3, .null, 0, []),
  (12, .if_icmp .ge 30, 3, .null, 42, []),
  (15, .aload_n 0, 1, .null, 0, []),
  (16, .getfield 15, 3, .null, 0, []),
  (19, .iload_n 3, 1, .null, 0, []),
  (20, .invokevirtual 68, 3, .null, 0, []),
  (23, .iload_n 1, 1, .null, 0, []),
  (24, .invokestatic 47, 3, .null, 0, []),
  (27, .ifCond .eq 9, 3, .null, 36, []),
  (30, .iload_n 2, 1, .null, 0, []),
  (31, .iconst 1, 1, .int 1, 0, []),
  (32, .iload_n 3, 1, .null, 0, []),
  (33, .ishl, 1, .null, 0, []),
  (34, .ior, 1, .null, 0, []),
  (35, .istore_n 2, 1, .null, 0, []),
  (36, .iinc 3 1, 3, .int 1, 0, []),
  (39, .goto (-35), 3, .null, 4, []),
  (42, .iload_n 2, 1, .null, 0, []),
  (43, .ireturn, 1, .null, 0, [])]
theorem KCt_blamesOf : zCode gCt_blamesOf kCt_blamesOf := by unfold zCode; decide +kernel
def kCt_mayTake : List zR := [(0, .aload_n 0, 1, .null, 0, []),
  (1, .iload_n 2, 1, .null, 0, []),
  (2, .invokevirtual 85, 3, .null, 0, []),
  (5, .ifCond .eq 18, 3, .null, 23, []),
  (8, .aload_n 0, 1, .null, 0, []),
  (9, .getfield 15, 3, .null, 0, []),
  (12, .iload_n 2, 1, .null, 0, []),
  (13, .invokevirtual 68, 3, .null, 0, []),
  (16, .iload_n 1, 1, .null, 0, []),
  (17, .invokestatic 47, 3, .null, 0, []),
  (20, .ifCond .eq 5, 3, .null, 25, []),
  (23, .iconst 0, 1, .int 0, 0, []),
  (24, .ireturn, 1, .null, 0, []),
  (25, .iconst 0, 1, .int 0, 0, []),
  (26, .istore_n 3, 1, .null, 0, []),
  (27, .iload_n 3, 1, .null, 0, []),
  (28, .aload_n 0, 1, .null, 0, []),
  (29, .getfield 9, 3, .null, 0, []),
  (32, .getfield 82, 3, .null, 0, []),
  (35, .if_icmp .ge 38, 3, .null, 73, []),
  (38, .aload_n 0, 1, .null, 0, []),
  (39, .getfield 15, 3, .null, 0, []),
  (42, .iload_n 3, 1, .null, 0, []),
  (43, .invokevirtual 68, 3, .null, 0, []),
  (46, .iload_n 1, 1, .null, 0, []),
  (47, .invokestatic 47, 3, .null, 0, []),
  (50, .ifCond .eq 17, 3, .null, 67, []),
  (53, .aload_n 0, 1, .null, 0, []),
  (54, .getfield 9, 3, .null, 0, []),
  (57, .iload_n 2, 1, .null, 0, []),
  (58, .iload_n 3, 1, .null, 0, []),
  (59, .invokevirtual 88, 3, .null, 0, []),
  (62, .ifCond .eq 5, 3, .null, 67, []),
  (65, .iconst 0, 1, .int 0, 0, []),
  (66, .ireturn, 1, .null, 0, []),
  (67, .iinc 3 1, 3, .int 1, 0, []),
  (70, .goto (-43), 3, .null, 27, []),
  (73, .aload_n 0, 1, .null, 0, []),
  (74, .getfield 15, 3, .null, 0, []),
  (77, .iload_n 1, 1, .null, 0, []),
  (78, .aload_n 0, 1, .null, 0, []),
  (79, .getfield 9, 3, .null, 0, []),
  (82, .getfield 91, 3, .null, 0, []),
  (85, .iload_n 2, 1, .null, 0, []),
  (86, .invokestatic 25, 3, .null, 0, []),
  (89, .invokevirtual 94, 3, .null, 0, []),
  (92, .istore_n 3, 1, .null, 0, []),
  (93, .aload_n 0, 1, .null, 0, []),
  (94, .getfield 15, 3, .null, 0, []),
  (97, .iload_n 1, 1, .null, 0, []),
  (98, .invokevirtual 97, 3, .null, 0, []),
  (101, .aload_n 0, 1, .null, 0, []),
  (102, .iload_n 1, 1, .null, 0, []),
  (103, .iload_n 2, 1, .null, 0, []),
  (104, .iload_n 3, 1, .null, 0, []),
  (105, .invokevirtual 100, 3, .null, 0, []),
  (108, .if_icmp .gt 7, 3, .null, 115, []),
  (111, .iconst 1, 1, .int 1, 0, []),
  (112, .goto 4, 3, .null, 116, []),
  (115, .iconst 0, 1, .int 0, 0, []),
  (116, .ireturn, 1, .null, 0, [])]
theorem KCt_mayTake : zCode gCt_mayTake kCt_mayTake := by unfold zCode; decide +kernel
def kCt_takers : List zR := [(0, .iconst 0, 1, .int 0, 0, []),
  (1, .istore_n 2, 1, .null, 0, []),
  (2, .iconst 0, 1, .int 0, 0, []),
  (3, .istore_n 3, 1, .null, 0, []),
  (4, .iload_n 3, 1, .null, 0, []),
  (5, .aload_n 0, 1, .null, 0, []),
  (6, .getfield 9, 3, .null, 0, []),
  (9, .getfield 103, 3, .null, 0, []),
  (12, .if_icmp .ge 24, 3, .null, 36, []),
  (15, .aload_n 0, 1, .null, 0, []),
  (16, .iload_n 3, 1, .null, 0, []),
  (17, .iload_n 1, 1, .null, 0, []),
  (18, .invokevirtual 106, 3, .null, 0, []),
  (21, .ifCond .eq 9, 3, .null, 30, []),
  (24, .iload_n 2, 1, .null, 0, []),
  (25, .iconst 1, 1, .int 1, 0, []),
  (26, .iload_n 3, 1, .null, 0, []),
  (27, .ishl, 1, .null, 0, []),
  (28, .ior, 1, .null, 0, []),
  (29, .istore_n 2, 1, .null, 0, []),
  (30, .iinc 3 1, 3, .int 1, 0, []),
  (33, .goto (-29), 3, .null, 4, []),
  (36, .iload_n 2, 1, .null, 0, []),
  (37, .ireturn, 1, .null, 0, [])]
theorem KCt_takers : zCode gCt_takers kCt_takers := by unfold zCode; decide +kernel
def kCt_cheapestFor : List zR := [(0, .aload_n 0, 1, .null, 0, []),
  (1, .iload_n 1, 1, .null, 0, []),
  (2, .invokevirtual 109, 3, .null, 0, []),
  (5, .istore_n 2, 1, .null, 0, []),
  (6, .aload_n 0, 1, .null, 0, []),
  (7, .iload_n 1, 1, .null, 0, []),
  (8, .invokevirtual 85, 3, .null, 0, []),
  (11, .istore_n 3, 1, .null, 0, []),
  (12, .iconst (-1), 1, .int (-1), 0, []),
  (13, .istore 4, 2, .null, 0, []),
  (15, .ldc 112, 2, .null, 0, []),
  (17, .istore 5, 2, .null, 0, []),
  (19, .iconst 1, 1, .int 1, 0, []),
  (20, .istore 6, 2, .null, 0, []),
  (22, .iload 6, 2, .null, 0, []),
  (24, .sipush 128, 3, .int 128, 0, []),
  (27, .if_icmp .ge 68, 3, .null, 95, []),
  (30, .iload 6, 2, .null, 0, []),
  (32, .iload_n 2, 1, .null, 0, []),
  (33, .iconst (-1), 1, .int (-1), 0, []),
  (34, .ixor, 1, .null, 0, []),
  (35, .iand, 1, .null, 0, []),
  (36, .ifCond .ne 16, 3, .null, 52, []),
  (39, .iload 6, 2, .null, 0, []),
  (41, .invokestatic 73, 3, .null, 0, []),
  (44, .iload_n 3, 1, .null, 0, []),
  (45, .if_icmp .ne 7, 3, .null, 52, []),
  (48, .iconst 1, 1, .int 1, 0, []),
  (49, .goto 4, 3, .null, 53, []),
  (52, .iconst 0, 1, .int 0, 0, []),
  (53, .istore 7, 2, .null, 0, []),
  (55, .iload 7, 2, .null, 0, []),
  (57, .ifCond .eq 32, 3, .null, 89, []),
  (60, .aload_n 0, 1, .null, 0, []),
  (61, .getfield 9, 3, .null, 0, []),
  (64, .iload 6, 2, .null, 0, []),
  (66, .invokevirtual 113, 3, .null, 0, []),
  (69, .iload 5, 2, .null, 0, []),
  (71, .if_icmp .ge 18, 3, .null, 89, []),
  (74, .iload 6, 2, .null, 0, []),
  (76, .istore 4, 2, .null, 0, []),
  (78, .aload_n 0, 1, .null, 0, []),
  (79, .getfield 9, 3, .null, 0, []),
  (82, .iload 6, 2, .null, 0, []),
  (84, .invokevirtual 113, 3, .null, 0, []),
  (87, .istore 5, 2, .null, 0, []),
  (89, .iinc 6 1, 3, .int 1, 0, []),
  (92, .goto (-70), 3, .null, 22, []),
  (95, .iload 4, 2, .null, 0, []),
  (97, .ireturn, 1, .null, 0, [])]
theorem KCt_cheapestFor : zCode gCt_cheapestFor kCt_cheapestFor := by unfold zCode; decide +kernel
def kCt_nearestFit : List zR := [(0, .iload_n 3, 1, .null, 0, []),
  (1, .iconst (-1), 1, .int (-1), 0, []),
  (2, .if_icmp .ne 5, 3, .null, 7, []),
  (5, .iconst (-1), 1, .int (-1), 0, []),
  (6, .ireturn, 1, .null, 0, []),
  (7, .iconst (-1), 1, .int (-1), 0, []),
  (8, .istore 4, 2, .null, 0, []),
  (10, .bipush 6, 2, .int 6, 0, []),
  (12, .istore 5, 2, .null, 0, []),
  (14, .iconst 0, 1, .int 0, 0, []),
  (15, .istore 6, 2, .null, 0, []),
  (17, .iload 6, 2, .null, 0, []),
  (19, .bipush 6, 2, .int 6, 0, []),
  (21, .if_icmp .ge 52, 3, .null, 73, []),
  (24, .iload 6, 2, .null, 0, []),
  (26, .iload_n 3, 1, .null, 0, []),
  (27, .isub, 1, .null, 0, []),
  (28, .invokestatic 29, 3, .null, 0, []),
  (31, .istore 7, 2, .null, 0, []),
  (33, .iload 7, 2, .null, 0, []),
  (35, .iload 5, 2, .null, 0, []),
  (37, .if_icmp .ge 30, 3, .null, 67, []),
  (40, .aload_n 0, 1, .null, 0, []),
  (41, .getfield 15, 3, .null, 0, []),
  (44, .iload_n 1, 1, .null, 0, []),
  (45, .invokevirtual 97, 3, .null, 0, []),
  (48, .aload_n 0, 1, .null, 0, []),
  (49, .iload_n 1, 1, .null, 0, []),
  (50, .iload_n 2, 1, .null, 0, []),
  (51, .iload 6, 2, .null, 0, []),
  (53, .invokevirtual 100, 3, .null, 0, []),
  (56, .if_icmp .gt 11, 3, .null, 67, []),
  (59, .iload 6, 2, .null, 0, []),
  (61, .istore 4, 2, .null, 0, []),
  (63, .iload 7, 2, .null, 0, []),
  (65, .istore 5, 2, .null, 0, []),
  (67, .iinc 6 1, 3, .int 1, 0, []),
  (70, .goto (-53), 3, .null, 17, []),
  (73, .iload 4, 2, .null, 0, []),
  (75, .ireturn, 1, .null, 0, [])]
theorem KCt_nearestFit : zCode gCt_nearestFit kCt_nearestFit := by unfold zCode; decide +kernel
def kFa_init : List zR := [(0, .aload_n 0, 1, .null, 0, []),
  (1, .invokespecial 3, 3, .null, 0, []),
  (4, .aload_n 0, 1, .null, 0, []),
  (5, .iconst 0, 1, .int 0, 0, []),
  (6, .putfield 9, 3, .null, 0, []),
  (9, .aload_n 0, 1, .null, 0, []),
  (10, .iconst 0, 1, .int 0, 0, []),
  (11, .putfield 15, 3, .null, 0, []),
  (14, .aload_n 0, 1, .null, 0, []),
  (15, .iconst 0, 1, .int 0, 0, []),
  (16, .putfield 19, 3, .null, 0, []),
  (19, .aload_n 0, 1, .null, 0, []),
  (20, .iconst 0, 1, .int 0, 0, []),
  (21, .putfield 22, 3, .null, 0, []),
  (24, .aload_n 0, 1, .null, 0, []),
  (25, .iconst 0, 1, .int 0, 0, []),
  (26, .putfield 25, 3, .null, 0, []),
  (29, .aload_n 0, 1, .null, 0, []),
  (30, .bipush 7, 2, .int 7, 0, []),
  (32, .newarray .int, 2, .null, 0, []),
  (34, .putfield 28, 3, .null, 0, []),
  (37, .aload_n 0, 1, .null, 0, []),
  (38, .bipush 7, 2, .int 7, 0, []),
  (40, .newarray .int, 2, .null, 0, []),
  (42, .putfield 32, 3, .null, 0, []),
  (45, .aload_n 0, 1, .null, 0, []),
  (46, .bipush 7, 2, .int 7, 0, []),
  (48, .newarray .int, 2, .null, 0, []),
  (50, .putfield 35, 3, .null, 0, []),
  (53, .aload_n 0, 1, .null, 0, []),
  (54, .bipush 42, 2, .int 42, 0, []),
  (56, .newarray .int, 2, .null, 0, []),
  (58, .putfield 38, 3, .null, 0, []),
  (61, .aload_n 0, 1, .null, 0, []),
  (62, .iconst 4, 1, .int 4, 0, []),
  (63, .newarray .int, 2, .null, 0, []),
  (65, .putfield 41, 3, .null, 0, []),
  (68, .aload_n 0, 1, .null, 0, []),
  (69, .iconst 4, 1, .int 4, 0, []),
  (70, .newarray .int, 2, .null, 0, []),
  (72, .putfield 44, 3, .null, 0, []),
  (75, .aload_n 0, 1, .null, 0, []),
  (76, .iconst 4, 1, .int 4, 0, []),
  (77, .newarray .int, 2, .null, 0, []),
  (79, .putfield 47, 3, .null, 0, []),
  (82, .aload_n 0, 1, .null, 0, []),
  (83, .iconst 4, 1, .int 4, 0, []),
  (84, .newarray .int, 2, .null, 0, []),
  (86, .putfield 50, 3, .null, 0, []),
  (89, .aload_n 0, 1, .null, 0, []),
  (90, .iconst 4, 1, .int 4, 0, []),
  (91, .newarray .int, 2, .null, 0, []),
  (93, .putfield 53, 3, .null, 0, []),
  (96, .aload_n 0, 1, .null, 0, []),
  (97, .iconst 4, 1, .int 4, 0, []),
  (98, .newarray .int, 2, .null, 0, []),
  (100, .putfield 56, 3, .null, 0, []),
  (103, .return_, 1, .null, 0, [])]
theorem KFa_init : zCode gFa_init kFa_init := by unfold zCode; decide +kernel
def kFa_empty : List zR := [(0, .aload_n 0, 1, .null, 0, []),
  (1, .iconst 0, 1, .int 0, 0, []),
  (2, .putfield 9, 3, .null, 0, []),
  (5, .aload_n 0, 1, .null, 0, []),
  (6, .iconst 0, 1, .int 0, 0, []),
  (7, .putfield 15, 3, .null, 0, []),
  (10, .aload_n 0, 1, .null, 0, []),
  (11, .iconst 0, 1, .int 0, 0, []),
  (12, .putfield 19, 3, .null, 0, []),
  (15, .aload_n 0, 1, .null, 0, []),
  (16, .iconst 0, 1, .int 0, 0, []),
  (17, .putfield 22, 3, .null, 0, []),
  (20, .aload_n 0, 1, .null, 0, []),
  (21, .iconst 0, 1, .int 0, 0, []),
  (22, .putfield 25, 3, .null, 0, []),
  (25, .return_, 1, .null, 0, [])]
theorem KFa_empty : zCode gFa_empty kFa_empty := by unfold zCode; decide +kernel
def kFa_become : List zR := [(0, .aload_n 0, 1, .null, 0, []),
  (1, .aload_n 1, 1, .null, 0, []),
  (2, .getfield 9, 3, .null, 0, []),
  (5, .putfield 9, 3, .null, 0, []),
  (8, .aload_n 0, 1, .null, 0, []),
  (9, .aload_n 1, 1, .null, 0, []),
  (10, .getfield 15, 3, .null, 0, []),
  (13, .putfield 15, 3, .null, 0, []),
  (16, .aload_n 0, 1, .null, 0, []),
  (17, .aload_n 1, 1, .null, 0, []),
  (18, .getfield 19, 3, .null, 0, []),
  (21, .putfield 19, 3, .null, 0, []),
  (24, .aload_n 0, 1, .null, 0, []),
  (25, .aload_n 1, 1, .null, 0, []),
  (26, .getfield 22, 3, .null, 0, []),
  (29, .putfield 22, 3, .null, 0, []),
  (32, .aload_n 0, 1, .null, 0, []),
  (33, .aload_n 1, 1, .null, 0, []),
  (34, .getfield 25, 3, .null, 0, []),
  (37, .putfield 25, 3, .null, 0, []),
  (40, .aload_n 1, 1, .null, 0, []),
  (41, .getfield 28, 3, .null, 0, []),
  (44, .aload_n 0, 1, .null, 0, []),
  (45, .getfield 28, 3, .null, 0, []),
  (48, .invokestatic 59, 3, .null, 0, []),
  (51, .aload_n 1, 1, .null, 0, []),
  (52, .getfield 32, 3, .null, 0, []),
  (55, .aload_n 0, 1, .null, 0, []),
  (56, .getfield 32, 3, .null, 0, []),
  (59, .invokestatic 59, 3, .null, 0, []),
  (62, .aload_n 1, 1, .null, 0, []),
  (63, .getfield 35, 3, .null, 0, []),
  (66, .aload_n 0, 1, .null, 0, []),
  (67, .getfield 35, 3, .null, 0, []),
  (70, .invokestatic 59, 3, .null, 0, []),
  (73, .aload_n 1, 1, .null, 0, []),
  (74, .getfield 38, 3, .null, 0, []),
  (77, .aload_n 0, 1, .null, 0, []),
  (78, .getfield 38, 3, .null, 0, []),
  (81, .invokestatic 59, 3, .null, 0, []),
  (84, .aload_n 1, 1, .null, 0, []),
  (85, .getfield 41, 3, .null, 0, []),
  (88, .aload_n 0, 1, .null, 0, []),
  (89, .getfield 41, 3, .null, 0, []),
  (92, .invokestatic 59, 3, .null, 0, []),
  (95, .aload_n 1, 1, .null, 0, []),
  (96, .getfield 44, 3, .null, 0, []),
  (99, .aload_n 0, 1, .null, 0, []),
  (100, .getfield 44, 3, .null, 0, []),
  (103, .invokestatic 59, 3, .null, 0, []),
  (106, .aload_n 1, 1, .null, 0, []),
  (107, .getfield 47, 3, .null, 0, []),
  (110, .aload_n 0, 1, .null, 0, []),
  (111, .getfield 47, 3, .null, 0, []),
  (114, .invokestatic 59, 3, .null, 0, []),
  (117, .aload_n 1, 1, .null, 0, []),
  (118, .getfield 50, 3, .null, 0, []),
  (121, .aload_n 0, 1, .null, 0, []),
  (122, .getfield 50, 3, .null, 0, []),
  (125, .invokestatic 59, 3, .null, 0, []),
  (128, .aload_n 1, 1, .null, 0, []),
  (129, .getfield 53, 3, .null, 0, []),
  (132, .aload_n 0, 1, .null, 0, []),
  (133, .getfield 53, 3, .null, 0, []),
  (136, .invokestatic 59, 3, .null, 0, []),
  (139, .aload_n 1, 1, .null, 0, []),
  (140, .getfield 56, 3, .null, 0, []),
  (143, .aload_n 0, 1, .null, 0, []),
  (144, .getfield 56, 3, .null, 0, []),
  (147, .invokestatic 59, 3, .null, 0, []),
  (150, .return_, 1, .null, 0, [])]
theorem KFa_become : zCode gFa_become kFa_become := by unfold zCode; decide +kernel
def kFa_areFar : List zR := [(0, .aload_n 0, 1, .null, 0, []),
  (1, .getfield 41, 3, .null, 0, []),
  (4, .iload_n 1, 1, .null, 0, []),
  (5, .invokestatic 63, 3, .null, 0, []),
  (8, .aload_n 0, 1, .null, 0, []),
  (9, .getfield 41, 3, .null, 0, []),
  (12, .iload_n 2, 1, .null, 0, []),
  (13, .invokestatic 63, 3, .null, 0, []),
  (16, .isub, 1, .null, 0, []),
  (17, .invokestatic 67, 3, .null, 0, []),
  (20, .aload_n 0, 1, .null, 0, []),
  (21, .getfield 44, 3, .null, 0, []),
  (24, .iload_n 1, 1, .null, 0, []),
  (25, .invokestatic 63, 3, .null, 0, []),
  (28, .aload_n 0, 1, .null, 0, []),
  (29, .getfield 44, 3, .null, 0, []),
  (32, .iload_n 2, 1, .null, 0, []),
  (33, .invokestatic 63, 3, .null, 0, []),
  (36, .isub, 1, .null, 0, []),
  (37, .invokestatic 67, 3, .null, 0, []),
  (40, .if_icmp .le 7, 3, .null, 47, []),
  (43, .iconst 1, 1, .int 1, 0, []),
  (44, .goto 4, 3, .null, 48, []),
  (47, .iconst 0, 1, .int 0, 0, []),
  (48, .ireturn, 1, .null, 0, [])]
theorem KFa_areFar : zCode gFa_areFar kFa_areFar := by unfold zCode; decide +kernel
def kFa_ratesOf : List zR := [(0, .iconst 0, 1, .int 0, 0, []),
  (1, .istore_n 2, 1, .null, 0, []),
  (2, .iconst 0, 1, .int 0, 0, []),
  (3, .istore_n 3, 1, .null, 0, []),
  (4, .iload_n 3, 1, .null, 0, []),
  (5, .aload_n 0, 1, .null, 0, []),
  (6, .getfield 22, 3, .null, 0, []),
  (9, .if_icmp .ge 28, 3, .null, 37, []),
  (12, .iload_n 1, 1, .null, 0, []),
  (13, .iload_n 3, 1, .null, 0, []),
  (14, .invokestatic 73, 3, .null, 0, []),
  (17, .ifCond .eq 14, 3, .null, 31, []),
  (20, .iload_n 2, 1, .null, 0, []),
  (21, .aload_n 0, 1, .null, 0, []),
  (22, .getfield 35, 3, .null, 0, []),
  (25, .iload_n 3, 1, .null, 0, []),
  (26, .invokestatic 63, 3, .null, 0, []),
  (29, .iadd, 1, .null, 0, []),
  (30, .istore_n 2, 1, .null, 0, []),
  (31, .iinc 3 1, 3, .int 1, 0, []),
  (34, .goto (-30), 3, .null, 4, []),
  (37, .iload_n 2, 1, .null, 0, []),
  (38, .ireturn, 1, .null, 0, [])]
theorem KFa_ratesOf : zCode gFa_ratesOf kFa_ratesOf := by unfold zCode; decide +kernel
def kFa_chainOf : List zR := [(0, .iconst 0, 1, .int 0, 0, []),
  (1, .istore_n 2, 1, .null, 0, []),
  (2, .aload_n 0, 1, .null, 0, []),
  (3, .getfield 56, 3, .null, 0, []),
  (6, .iload_n 1, 1, .null, 0, []),
  (7, .invokestatic 63, 3, .null, 0, []),
  (10, .istore_n 3, 1, .null, 0, []),
  (11, .iconst 0, 1, .int 0, 0, []),
  (12, .istore 4, 2, .null, 0, []),
  (14, .iload 4, 2, .null, 0, []),
  (16, .iconst 4, 1, .int 4, 0, []),
  (17, .if_icmp .ge 26, 3, .null, 43, []),
  (20, .iload_n 3, 1, .null, 0, []),
  (21, .iconst (-1), 1, .int (-1), 0, []),
  (22, .if_icmp .eq 21, 3, .null, 43, []),
  (25, .iinc 2 1, 3, .int 1, 0, []),
  (28, .aload_n 0, 1, .null, 0, []),
  (29, .getfield 56, 3, .null, 0, []),
  (32, .iload_n 3, 1, .null, 0, []),
  (33, .invokestatic 63, 3, .null, 0, []),
  (36, .istore_n 3, 1, .null, 0, []),
  (37, .iinc 4 1, 3, .int 1, 0, []),
  (40, .goto (-26), 3, .null, 14, []),
  (43, .iload_n 2, 1, .null, 0, []),
  (44, .ireturn, 1, .null, 0, [])]
theorem KFa_chainOf : zCode gFa_chainOf kFa_chainOf := by unfold zCode; decide +kernel
def kFa_rootOf : List zR := [(0, .iload_n 1, 1, .null, 0, []),
  (1, .istore_n 2, 1, .null, 0, []),
  (2, .iconst 0, 1, .int 0, 0, []),
  (3, .istore_n 3, 1, .null, 0, []),
  (4, .iload_n 3, 1, .null, 0, []),
  (5, .iconst 4, 1, .int 4, 0, []),
  (6, .if_icmp .ge 30, 3, .null, 36, []),
  (9, .aload_n 0, 1, .null, 0, []),
  (10, .getfield 56, 3, .null, 0, []),
  (13, .iload_n 2, 1, .null, 0, []),
  (14, .invokestatic 63, 3, .null, 0, []),
  (17, .iconst (-1), 1, .int (-1), 0, []),
  (18, .if_icmp .eq 18, 3, .null, 36, []),
  (21, .aload_n 0, 1, .null, 0, []),
  (22, .getfield 56, 3, .null, 0, []),
  (25, .iload_n 2, 1, .null, 0, []),
  (26, .invokestatic 63, 3, .null, 0, []),
  (29, .istore_n 2, 1, .null, 0, []),
  (30, .iinc 3 1, 3, .int 1, 0, []),
  (33, .goto (-29), 3, .null, 4, []),
  (36, .iload_n 2, 1, .null, 0, []),
  (37, .ireturn, 1, .null, 0, [])]
theorem KFa_rootOf : zCode gFa_rootOf kFa_rootOf := by unfold zCode; decide +kernel
def kFa_wholeOf : List zR := [(0, .iconst 0, 1, .int 0, 0, []),
  (1, .istore_n 2, 1, .null, 0, []),
  (2, .iconst 0, 1, .int 0, 0, []),
  (3, .istore_n 3, 1, .null, 0, []),
  (4, .iload_n 3, 1, .null, 0, []),
  (5, .aload_n 0, 1, .null, 0, []),
  (6, .getfield 25, 3, .null, 0, []),
  (9, .if_icmp .ge 28, 3, .null, 37, []),
  (12, .aload_n 0, 1, .null, 0, []),
  (13, .iload_n 3, 1, .null, 0, []),
  (14, .invokevirtual 77, 3, .null, 0, []),
  (17, .aload_n 0, 1, .null, 0, []),
  (18, .iload_n 1, 1, .null, 0, []),
  (19, .invokevirtual 77, 3, .null, 0, []),
  (22, .if_icmp .ne 9, 3, .null, 31, []),
  (25, .iload_n 2, 1, .null, 0, []),
  (26, .iconst 1, 1, .int 1, 0, []),
  (27, .iload_n 3, 1, .null, 0, []),
  (28, .ishl, 1, .null, 0, []),
  (29, .ior, 1, .null, 0, []),
  (30, .istore_n 2, 1, .null, 0, []),
  (31, .iinc 3 1, 3, .int 1, 0, []),
  (34, .goto (-30), 3, .null, 4, []),
  (37, .iload_n 2, 1, .null, 0, []),
  (38, .ireturn, 1, .null, 0, [])]
theorem KFa_wholeOf : zCode gFa_wholeOf kFa_wholeOf := by unfold zCode; decide +kernel
def kIm_init : List zR := [(0, .aload_n 0, 1, .null, 0, []),
  (1, .invokespecial 1, 3, .null, 0, []),
  (4, .aload_n 0, 1, .null, 0, []),
  (5, .bipush 55, 2, .int 55, 0, []),
  (7, .newarray .int, 2, .null, 0, []),
  (9, .putfield 9, 3, .null, 0, []),
  (12, .aload_n 0, 1, .null, 0, []),
  (13, .iconst 0, 1, .int 0, 0, []),
  (14, .putfield 15, 3, .null, 0, []),
  (17, .aload_n 0, 1, .null, 0, []),
  (18, .iconst 0, 1, .int 0, 0, []),
  (19, .putfield 19, 3, .null, 0, []),
  (22, .return_, 1, .null, 0, [])]
theorem KIm_init : zCode gIm_init kIm_init := by unfold zCode; decide +kernel
def kPa_init : List zR := [(0, .aload_n 0, 1, .null, 0, []),
  (1, .invokespecial 3, 3, .null, 0, []),
  (4, .aload_n 0, 1, .null, 0, []),
  (5, .bipush 6, 2, .int 6, 0, []),
  (7, .newarray .int, 2, .null, 0, []),
  (9, .putfield 9, 3, .null, 0, []),
  (12, .aload_n 0, 1, .null, 0, []),
  (13, .bipush 6, 2, .int 6, 0, []),
  (15, .newarray .int, 2, .null, 0, []),
  (17, .putfield 15, 3, .null, 0, []),
  (20, .aload_n 0, 1, .null, 0, []),
  (21, .bipush 6, 2, .int 6, 0, []),
  (23, .newarray .int, 2, .null, 0, []),
  (25, .putfield 18, 3, .null, 0, []),
  (28, .aload_n 0, 1, .null, 0, []),
  (29, .iconst 0, 1, .int 0, 0, []),
  (30, .putfield 21, 3, .null, 0, []),
  (33, .aload_n 0, 1, .null, 0, []),
  (34, .bipush 20, 2, .int 20, 0, []),
  (36, .newarray .int, 2, .null, 0, []),
  (38, .putfield 25, 3, .null, 0, []),
  (41, .aload_n 0, 1, .null, 0, []),
  (42, .bipush 20, 2, .int 20, 0, []),
  (44, .newarray .int, 2, .null, 0, []),
  (46, .putfield 28, 3, .null, 0, []),
  (49, .aload_n 0, 1, .null, 0, []),
  (50, .iconst 0, 1, .int 0, 0, []),
  (51, .putfield 31, 3, .null, 0, []),
  (54, .return_, 1, .null, 0, [])]
theorem KPa_init : zCode gPa_init kPa_init := by unfold zCode; decide +kernel
def kPa_burn : List zR := [(0, .aload_n 0, 1, .null, 0, []),
  (1, .iconst 0, 1, .int 0, 0, []),
  (2, .putfield 21, 3, .null, 0, []),
  (5, .aload_n 0, 1, .null, 0, []),
  (6, .iconst 0, 1, .int 0, 0, []),
  (7, .putfield 31, 3, .null, 0, []),
  (10, .return_, 1, .null, 0, [])]
theorem KPa_burn : zCode gPa_burn kPa_burn := by unfold zCode; decide +kernel
def kPa_addSeen : List zR := [(0, .aload_n 0, 1, .null, 0, []),
  (1, .getfield 9, 3, .null, 0, []),
  (4, .aload_n 0, 1, .null, 0, []),
  (5, .getfield 21, 3, .null, 0, []),
  (8, .iload_n 1, 1, .null, 0, []),
  (9, .invokestatic 34, 3, .null, 0, []),
  (12, .aload_n 0, 1, .null, 0, []),
  (13, .getfield 15, 3, .null, 0, []),
  (16, .aload_n 0, 1, .null, 0, []),
  (17, .getfield 21, 3, .null, 0, []),
  (20, .iload_n 2, 1, .null, 0, []),
  (21, .invokestatic 34, 3, .null, 0, []),
  (24, .aload_n 0, 1, .null, 0, []),
  (25, .getfield 18, 3, .null, 0, []),
  (28, .aload_n 0, 1, .null, 0, []),
  (29, .getfield 21, 3, .null, 0, []),
  (32, .iload_n 3, 1, .null, 0, []),
  (33, .invokestatic 34, 3, .null, 0, []),
  (36, .aload_n 0, 1, .null, 0, []),
  (37, .dup, 1, .null, 0, []),
  (38, .getfield 21, 3, .null, 0, []),
  (41, .iconst 1, 1, .int 1, 0, []),
  (42, .iadd, 1, .null, 0, []),
  (43, .putfield 21, 3, .null, 0, []),
  (46, .aload_n 0, 1, .null, 0, []),
  (47, .getfield 21, 3, .null, 0, []),
  (50, .ireturn, 1, .null, 0, [])]
theorem KPa_addSeen : zCode gPa_addSeen kPa_addSeen := by unfold zCode; decide +kernel
def kPa_addEntry : List zR := [(0, .aload_n 0, 1, .null, 0, []),
  (1, .getfield 25, 3, .null, 0, []),
  (4, .aload_n 0, 1, .null, 0, []),
  (5, .getfield 31, 3, .null, 0, []),
  (8, .iload_n 1, 1, .null, 0, []),
  (9, .invokestatic 34, 3, .null, 0, []),
  (12, .aload_n 0, 1, .null, 0, []),
  (13, .getfield 28, 3, .null, 0, []),
  (16, .aload_n 0, 1, .null, 0, []),
  (17, .getfield 31, 3, .null, 0, []),
  (20, .iload_n 2, 1, .null, 0, []),
  (21, .invokestatic 34, 3, .null, 0, []),
  (24, .aload_n 0, 1, .null, 0, []),
  (25, .dup, 1, .null, 0, []),
  (26, .getfield 31, 3, .null, 0, []),
  (29, .iconst 1, 1, .int 1, 0, []),
  (30, .iadd, 1, .null, 0, []),
  (31, .putfield 31, 3, .null, 0, []),
  (34, .aload_n 0, 1, .null, 0, []),
  (35, .getfield 31, 3, .null, 0, []),
  (38, .ireturn, 1, .null, 0, [])]
theorem KPa_addEntry : zCode gPa_addEntry kPa_addEntry := by unfold zCode; decide +kernel
def kPa_excludes : List zR := [(0, .iconst 0, 1, .int 0, 0, []),
  (1, .istore 4, 2, .null, 0, []),
  (3, .iload 4, 2, .null, 0, []),
  (5, .aload_n 0, 1, .null, 0, []),
  (6, .getfield 21, 3, .null, 0, []),
  (9, .if_icmp .ge 63, 3, .null, 72, []),
  (12, .aload_n 0, 1, .null, 0, []),
  (13, .getfield 18, 3, .null, 0, []),
  (16, .iload 4, 2, .null, 0, []),
  (18, .invokestatic 38, 3, .null, 0, []),
  (21, .iload_n 3, 1, .null, 0, []),
  (22, .isub, 1, .null, 0, []),
  (23, .invokestatic 42, 3, .null, 0, []),
  (26, .istore 5, 2, .null, 0, []),
  (28, .aload_n 0, 1, .null, 0, []),
  (29, .getfield 15, 3, .null, 0, []),
  (32, .iload 4, 2, .null, 0, []),
  (34, .invokestatic 38, 3, .null, 0, []),
  (37, .iload_n 2, 1, .null, 0, []),
  (38, .isub, 1, .null, 0, []),
  (39, .invokestatic 42, 3, .null, 0, []),
  (42, .istore 6, 2, .null, 0, []),
  (44, .aload_n 0, 1, .null, 0, []),
  (45, .getfield 9, 3, .null, 0, []),
  (48, .iload 4, 2, .null, 0, []),
  (50, .invokestatic 38, 3, .null, 0, []),
  (53, .iload_n 1, 1, .null, 0, []),
  (54, .if_icmp .ne 12, 3, .null, 66, []),
  (57, .iload 5, 2, .null, 0, []),
  (59, .iload 6, 2, .null, 0, []),
  (61, .if_icmp .le 5, 3, .null, 66, []),
  (64, .iconst 1, 1, .int 1, 0, []),
  (65, .ireturn, 1, .null, 0, []),
  (66, .iinc 4 1, 3, .int 1, 0, []),
  (69, .goto (-66), 3, .null, 3, []),
  (72, .iconst 0, 1, .int 0, 0, []),
  (73, .ireturn, 1, .null, 0, [])]
theorem KPa_excludes : zCode gPa_excludes kPa_excludes := by unfold zCode; decide +kernel
def kPs_init : List zR := [(0, .aload_n 0, 1, .null, 0, []),
  (1, .invokespecial 3, 3, .null, 0, []),
  (4, .aload_n 0, 1, .null, 0, []),
  (5, .bipush 30, 2, .int 30, 0, []),
  (7, .bipush 55, 2, .int 55, 0, []),
  (9, .multianewarray 11 2, 4, .null, 0, []),
  (13, .putfield 13, 3, .null, 0, []),
  (16, .aload_n 0, 1, .null, 0, []),
  (17, .iconst 0, 1, .int 0, 0, []),
  (18, .putfield 18, 3, .null, 0, []),
  (21, .aload_n 0, 1, .null, 0, []),
  (22, .iconst 0, 1, .int 0, 0, []),
  (23, .putfield 22, 3, .null, 0, []),
  (26, .return_, 1, .null, 0, [])]
theorem KPs_init : zCode gPs_init kPs_init := by unfold zCode; decide +kernel
def kPs_forget : List zR := [(0, .aload_n 0, 1, .null, 0, []),
  (1, .iconst 0, 1, .int 0, 0, []),
  (2, .putfield 22, 3, .null, 0, []),
  (5, .return_, 1, .null, 0, [])]
theorem KPs_forget : zCode gPs_forget kPs_forget := by unfold zCode; decide +kernel
def kPs_remember : List zR := [(0, .aload_n 0, 1, .null, 0, []),
  (1, .getfield 18, 3, .null, 0, []),
  (4, .ifCond .lt 31, 3, .null, 35, []),
  (7, .aload_n 0, 1, .null, 0, []),
  (8, .getfield 18, 3, .null, 0, []),
  (11, .aload_n 0, 1, .null, 0, []),
  (12, .getfield 13, 3, .null, 0, []),
  (15, .arraylength, 1, .null, 0, []),
  (16, .if_icmp .ge 19, 3, .null, 35, []),
  (19, .aload_n 1, 1, .null, 0, []),
  (20, .getfield 25, 3, .null, 0, []),
  (23, .aload_n 0, 1, .null, 0, []),
  (24, .getfield 13, 3, .null, 0, []),
  (27, .aload_n 0, 1, .null, 0, []),
  (28, .getfield 18, 3, .null, 0, []),
  (31, .aaload, 1, .null, 0, []),
  (32, .invokestatic 29, 3, .null, 0, []),
  (35, .aload_n 0, 1, .null, 0, []),
  (36, .aload_n 0, 1, .null, 0, []),
  (37, .getfield 18, 3, .null, 0, []),
  (40, .iconst 1, 1, .int 1, 0, []),
  (41, .iadd, 1, .null, 0, []),
  (42, .bipush 30, 2, .int 30, 0, []),
  (44, .irem, 1, .null, 0, []),
  (45, .putfield 18, 3, .null, 0, []),
  (48, .aload_n 0, 1, .null, 0, []),
  (49, .bipush 30, 2, .int 30, 0, []),
  (51, .aload_n 0, 1, .null, 0, []),
  (52, .getfield 22, 3, .null, 0, []),
  (55, .iconst 1, 1, .int 1, 0, []),
  (56, .iadd, 1, .null, 0, []),
  (57, .invokestatic 33, 3, .null, 0, []),
  (60, .putfield 22, 3, .null, 0, []),
  (63, .return_, 1, .null, 0, [])]
theorem KPs_remember : zCode gPs_remember kPs_remember := by unfold zCode; decide +kernel
def kPs_giveBack : List zR := [(0, .aload_n 0, 1, .null, 0, []),
  (1, .aload_n 0, 1, .null, 0, []),
  (2, .getfield 18, 3, .null, 0, []),
  (5, .iload_n 1, 1, .null, 0, []),
  (6, .isub, 1, .null, 0, []),
  (7, .bipush 30, 2, .int 30, 0, []),
  (9, .invokestatic 39, 3, .null, 0, []),
  (12, .putfield 18, 3, .null, 0, []),
  (15, .aload_n 0, 1, .null, 0, []),
  (16, .iconst 0, 1, .int 0, 0, []),
  (17, .aload_n 0, 1, .null, 0, []),
  (18, .getfield 22, 3, .null, 0, []),
  (21, .iload_n 1, 1, .null, 0, []),
  (22, .isub, 1, .null, 0, []),
  (23, .invokestatic 42, 3, .null, 0, []),
  (26, .putfield 22, 3, .null, 0, []),
  (29, .aload_n 0, 1, .null, 0, []),
  (30, .getfield 18, 3, .null, 0, []),
  (33, .ifCond .lt 31, 3, .null, 64, []),
  (36, .aload_n 0, 1, .null, 0, []),
  (37, .getfield 18, 3, .null, 0, []),
  (40, .aload_n 0, 1, .null, 0, []),
  (41, .getfield 13, 3, .null, 0, []),
  (44, .arraylength, 1, .null, 0, []),
  (45, .if_icmp .ge 19, 3, .null, 64, []),
  (48, .aload_n 0, 1, .null, 0, []),
  (49, .getfield 13, 3, .null, 0, []),
  (52, .aload_n 0, 1, .null, 0, []),
  (53, .getfield 18, 3, .null, 0, []),
  (56, .aaload, 1, .null, 0, []),
  (57, .aload_n 2, 1, .null, 0, []),
  (58, .getfield 25, 3, .null, 0, []),
  (61, .invokestatic 29, 3, .null, 0, []),
  (64, .return_, 1, .null, 0, [])]
theorem KPs_giveBack : zCode gPs_giveBack kPs_giveBack := by unfold zCode; decide +kernel
def kSh_init : List zR := [(0, .aload_n 0, 1, .null, 0, []),
  (1, .invokespecial 3, 3, .null, 0, []),
  (4, .aload_n 0, 1, .null, 0, []),
  (5, .aload_n 1, 1, .null, 0, []),
  (6, .putfield 9, 3, .null, 0, []),
  (9, .aload_n 0, 1, .null, 0, []),
  (10, .aload_n 2, 1, .null, 0, []),
  (11, .putfield 15, 3, .null, 0, []),
  (14, .aload_n 0, 1, .null, 0, []),
  (15, .aload_n 3, 1, .null, 0, []),
  (16, .putfield 19, 3, .null, 0, []),
  (19, .aload_n 0, 1, .null, 0, []),
  (20, .bipush 7, 2, .int 7, 0, []),
  (22, .newarray .int, 2, .null, 0, []),
  (24, .putfield 23, 3, .null, 0, []),
  (27, .aload_n 0, 1, .null, 0, []),
  (28, .bipush 28, 2, .int 28, 0, []),
  (30, .newarray .int, 2, .null, 0, []),
  (32, .putfield 27, 3, .null, 0, []),
  (35, .aload_n 0, 1, .null, 0, []),
  (36, .iconst 4, 1, .int 4, 0, []),
  (37, .newarray .int, 2, .null, 0, []),
  (39, .putfield 30, 3, .null, 0, []),
  (42, .aload_n 0, 1, .null, 0, []),
  (43, .bipush 88, 2, .int 88, 0, []),
  (45, .newarray .int, 2, .null, 0, []),
  (47, .putfield 33, 3, .null, 0, []),
  (50, .aload_n 0, 1, .null, 0, []),
  (51, .bipush 88, 2, .int 88, 0, []),
  (53, .newarray .int, 2, .null, 0, []),
  (55, .putfield 36, 3, .null, 0, []),
  (58, .aload_n 0, 1, .null, 0, []),
  (59, .iconst 4, 1, .int 4, 0, []),
  (60, .newarray .int, 2, .null, 0, []),
  (62, .putfield 39, 3, .null, 0, []),
  (65, .aload_n 0, 1, .null, 0, []),
  (66, .iconst 5, 1, .int 5, 0, []),
  (67, .newarray .int, 2, .null, 0, []),
  (69, .putfield 42, 3, .null, 0, []),
  (72, .aload_n 0, 1, .null, 0, []),
  (73, .bipush 7, 2, .int 7, 0, []),
  (75, .newarray .int, 2, .null, 0, []),
  (77, .putfield 45, 3, .null, 0, []),
  (80, .aload_n 0, 1, .null, 0, []),
  (81, .iconst 4, 1, .int 4, 0, []),
  (82, .newarray .int, 2, .null, 0, []),
  (84, .putfield 48, 3, .null, 0, []),
  (87, .aload_n 0, 1, .null, 0, []),
  (88, .iconst 4, 1, .int 4, 0, []),
  (89, .newarray .int, 2, .null, 0, []),
  (91, .putfield 51, 3, .null, 0, []),
  (94, .aload_n 0, 1, .null, 0, []),
  (95, .iconst 0, 1, .int 0, 0, []),
  (96, .putfield 54, 3, .null, 0, []),
  (99, .return_, 1, .null, 0, [])]
theorem KSh_init : zCode gSh_init kSh_init := by unfold zCode; decide +kernel
def kSh_solve : List zR := [(0, .iconst 0, 1, .int 0, 0, []),
  (1, .istore_n 1, 1, .null, 0, []),
  (2, .iload_n 1, 1, .null, 0, []),
  (3, .aload_n 0, 1, .null, 0, []),
  (4, .getfield 9, 3, .null, 0, []),
  (7, .getfield 58, 3, .null, 0, []),
  (10, .if_icmp .ge 52, 3, .null, 62, []),
  (13, .aload_n 0, 1, .null, 0, []),
  (14, .getfield 19, 3, .null, 0, []),
  (17, .iload_n 1, 1, .null, 0, []),
  (18, .invokevirtual 63, 3, .null, 0, []),
  (21, .invokestatic 69, 3, .null, 0, []),
  (24, .istore_n 2, 1, .null, 0, []),
  (25, .aload_n 0, 1, .null, 0, []),
  (26, .getfield 23, 3, .null, 0, []),
  (29, .iload_n 1, 1, .null, 0, []),
  (30, .iconst 0, 1, .int 0, 0, []),
  (31, .aload_n 0, 1, .null, 0, []),
  (32, .getfield 15, 3, .null, 0, []),
  (35, .iload_n 1, 1, .null, 0, []),
  (36, .invokevirtual 74, 3, .null, 0, []),
  (39, .iload_n 2, 1, .null, 0, []),
  (40, .isub, 1, .null, 0, []),
  (41, .invokestatic 79, 3, .null, 0, []),
  (44, .invokestatic 85, 3, .null, 0, []),
  (47, .aload_n 0, 1, .null, 0, []),
  (48, .getfield 45, 3, .null, 0, []),
  (51, .iload_n 1, 1, .null, 0, []),
  (52, .iconst 0, 1, .int 0, 0, []),
  (53, .invokestatic 85, 3, .null, 0, []),
  (56, .iinc 1 1, 3, .int 1, 0, []),
  (59, .goto (-57), 3, .null, 2, []),
  (62, .aload_n 0, 1, .null, 0, []),
  (63, .getfield 42, 3, .null, 0, []),
  (66, .aload_n 0, 1, .null, 0, []),
  (67, .getfield 9, 3, .null, 0, []),
  (70, .getfield 89, 3, .null, 0, []),
  (73, .iconst 0, 1, .int 0, 0, []),
  (74, .invokestatic 85, 3, .null, 0, []),
  (77, .aload_n 0, 1, .null, 0, []),
  (78, .getfield 9, 3, .null, 0, []),
  (81, .getfield 89, 3, .null, 0, []),
  (84, .iconst 1, 1, .int 1, 0, []),
  (85, .isub, 1, .null, 0, []),
  (86, .istore_n 1, 1, .null, 0, []),
  (87, .iload_n 1, 1, .null, 0, []),
  (88, .ifCond .lt 14, 3, .null, 102, []),
  (91, .aload_n 0, 1, .null, 0, []),
  (92, .iload_n 1, 1, .null, 0, []),
  (93, .invokevirtual 92, 3, .null, 0, []),
  (96, .iinc 1 (-1), 3, .int (-1), 0, []),
  (99, .goto (-12), 3, .null, 87, []),
  (102, .aload_n 0, 1, .null, 0, []),
  (103, .ldc 96, 2, .null, 0, []),
  (105, .putfield 54, 3, .null, 0, []),
  (108, .aload_n 0, 1, .null, 0, []),
  (109, .iconst 0, 1, .int 0, 0, []),
  (110, .iconst 0, 1, .int 0, 0, []),
  (111, .invokevirtual 97, 3, .null, 0, []),
  (114, .return_, 1, .null, 0, [])]
theorem KSh_solve : zCode gSh_solve kSh_solve := by unfold zCode; decide +kernel
def kSh_lookAt : List zR := [(0, .iconst 0, 1, .int 0, 0, []),
  (1, .istore_n 2, 1, .null, 0, []),
  (2, .iconst 0, 1, .int 0, 0, []),
  (3, .istore_n 3, 1, .null, 0, []),
  (4, .iload_n 3, 1, .null, 0, []),
  (5, .aload_n 0, 1, .null, 0, []),
  (6, .getfield 9, 3, .null, 0, []),
  (9, .getfield 89, 3, .null, 0, []),
  (12, .if_icmp .ge 27, 3, .null, 39, []),
  (15, .aload_n 0, 1, .null, 0, []),
  (16, .getfield 9, 3, .null, 0, []),
  (19, .iload_n 1, 1, .null, 0, []),
  (20, .iload_n 3, 1, .null, 0, []),
  (21, .invokevirtual 101, 3, .null, 0, []),
  (24, .ifCond .eq 9, 3, .null, 33, []),
  (27, .iload_n 2, 1, .null, 0, []),
  (28, .iconst 1, 1, .int 1, 0, []),
  (29, .iload_n 3, 1, .null, 0, []),
  (30, .ishl, 1, .null, 0, []),
  (31, .ior, 1, .null, 0, []),
  (32, .istore_n 2, 1, .null, 0, []),
  (33, .iinc 3 1, 3, .int 1, 0, []),
  (36, .goto (-32), 3, .null, 4, []),
  (39, .aload_n 0, 1, .null, 0, []),
  (40, .getfield 30, 3, .null, 0, []),
  (43, .iload_n 1, 1, .null, 0, []),
  (44, .iload_n 2, 1, .null, 0, []),
  (45, .invokestatic 85, 3, .null, 0, []),
  (48, .iconst 0, 1, .int 0, 0, []),
  (49, .istore_n 3, 1, .null, 0, []),
  (50, .iload_n 3, 1, .null, 0, []),
  (51, .aload_n 0, 1, .null, 0, []),
  (52, .getfield 9, 3, .null, 0, []),
  (55, .getfield 58, 3, .null, 0, []),
  (58, .if_icmp .ge 54, 3, .null, 112, []),
  (61, .aload_n 0, 1, .null, 0, []),
  (62, .getfield 15, 3, .null, 0, []),
  (65, .iload_n 3, 1, .null, 0, []),
  (66, .aload_n 0, 1, .null, 0, []),
  (67, .getfield 9, 3, .null, 0, []),
  (70, .getfield 105, 3, .null, 0, []),
  (73, .iload_n 1, 1, .null, 0, []),
  (74, .invokestatic 108, 3, .null, 0, []),
  (77, .invokevirtual 112, 3, .null, 0, []),
  (80, .istore 4, 2, .null, 0, []),
  (82, .aload_n 0, 1, .null, 0, []),
  (83, .getfield 27, 3, .null, 0, []),
  (86, .iload_n 1, 1, .null, 0, []),
  (87, .bipush 7, 2, .int 7, 0, []),
  (89, .imul, 1, .null, 0, []),
  (90, .iload_n 3, 1, .null, 0, []),
  (91, .iadd, 1, .null, 0, []),
  (92, .aload_n 0, 1, .null, 0, []),
  (93, .getfield 19, 3, .null, 0, []),
  (96, .iload_n 3, 1, .null, 0, []),
  (97, .iload_n 1, 1, .null, 0, []),
  (98, .iload 4, 2, .null, 0, []),
  (100, .invokevirtual 115, 3, .null, 0, []),
  (103, .invokestatic 85, 3, .null, 0, []),
  (106, .iinc 3 1, 3, .int 1, 0, []),
  (109, .goto (-59), 3, .null, 50, []),
  (112, .aload_n 0, 1, .null, 0, []),
  (113, .iload_n 1, 1, .null, 0, []),
  (114, .invokevirtual 119, 3, .null, 0, []),
  (117, .return_, 1, .null, 0, [])]
theorem KSh_lookAt : zCode gSh_lookAt kSh_lookAt := by unfold zCode; decide +kernel
def kSh_listSets : List zR := [(0, .aload_n 0, 1, .null, 0, []),
  (1, .getfield 9, 3, .null, 0, []),
  (4, .getfield 122, 3, .null, 0, []),
  (7, .iload_n 1, 1, .null, 0, []),
  (8, .invokestatic 108, 3, .null, 0, []),
  (11, .istore_n 2, 1, .null, 0, []),
  (12, .aload_n 0, 1, .null, 0, []),
  (13, .getfield 9, 3, .null, 0, []),
  (16, .getfield 125, 3, .null, 0, []),
  (19, .iload_n 2, 1, .null, 0, []),
  (20, .imul, 1, .null, 0, []),
  (21, .istore_n 3, 1, .null, 0, []),
  (22, .aload_n 0, 1, .null, 0, []),
  (23, .getfield 39, 3, .null, 0, []),
  (26, .iload_n 1, 1, .null, 0, []),
  (27, .iconst 0, 1, .int 0, 0, []),
  (28, .invokestatic 85, 3, .null, 0, []),
  (31, .aload_n 0, 1, .null, 0, []),
  (32, .iload_n 1, 1, .null, 0, []),
  (33, .iconst 0, 1, .int 0, 0, []),
  (34, .iload_n 3, 1, .null, 0, []),
  (35, .invokevirtual 128, 3, .null, 0, []),
  (38, .iload_n 3, 1, .null, 0, []),
  (39, .istore 4, 2, .null, 0, []),
  (41, .iconst 1, 1, .int 1, 0, []),
  (42, .istore 5, 2, .null, 0, []),
  (44, .iload 5, 2, .null, 0, []),
  (46, .iconst 1, 1, .int 1, 0, []),
  (47, .aload_n 0, 1, .null, 0, []),
  (48, .getfield 9, 3, .null, 0, []),
  (51, .getfield 58, 3, .null, 0, []),
  (54, .ishl, 1, .null, 0, []),
  (55, .if_icmp .ge 57, 3, .null, 112, []),
  (58, .iload 5, 2, .null, 0, []),
  (60, .invokestatic 69, 3, .null, 0, []),
  (63, .iload_n 2, 1, .null, 0, []),
  (64, .if_icmp .ne 42, 3, .null, 106, []),
  (67, .aload_n 0, 1, .null, 0, []),
  (68, .iload 5, 2, .null, 0, []),
  (70, .iload_n 1, 1, .null, 0, []),
  (71, .invokevirtual 132, 3, .null, 0, []),
  (74, .ifCond .eq 32, 3, .null, 106, []),
  (77, .aload_n 0, 1, .null, 0, []),
  (78, .getfield 9, 3, .null, 0, []),
  (81, .iload 5, 2, .null, 0, []),
  (83, .invokevirtual 135, 3, .null, 0, []),
  (86, .istore 6, 2, .null, 0, []),
  (88, .aload_n 0, 1, .null, 0, []),
  (89, .iload_n 1, 1, .null, 0, []),
  (90, .iload 5, 2, .null, 0, []),
  (92, .iload 6, 2, .null, 0, []),
  (94, .invokevirtual 128, 3, .null, 0, []),
  (97, .iload 4, 2, .null, 0, []),
  (99, .iload 6, 2, .null, 0, []),
  (101, .invokestatic 138, 3, .null, 0, []),
  (104, .istore 4, 2, .null, 0, []),
  (106, .iinc 5 1, 3, .int 1, 0, []),
  (109, .goto (-65), 3, .null, 44, []),
  (112, .aload_n 0, 1, .null, 0, []),
  (113, .getfield 42, 3, .null, 0, []),
  (116, .iload_n 1, 1, .null, 0, []),
  (117, .aload_n 0, 1, .null, 0, []),
  (118, .getfield 42, 3, .null, 0, []),
  (121, .iload_n 1, 1, .null, 0, []),
  (122, .iconst 1, 1, .int 1, 0, []),
  (123, .iadd, 1, .null, 0, []),
  (124, .invokestatic 108, 3, .null, 0, []),
  (127, .iload 4, 2, .null, 0, []),
  (129, .iadd, 1, .null, 0, []),
  (130, .invokestatic 85, 3, .null, 0, []),
  (133, .return_, 1, .null, 0, [])]
theorem KSh_listSets : zCode gSh_listSets kSh_listSets := by unfold zCode; decide +kernel
def kSh_addSet : List zR := [(0, .aload_n 0, 1, .null, 0, []),
  (1, .getfield 39, 3, .null, 0, []),
  (4, .iload_n 1, 1, .null, 0, []),
  (5, .invokestatic 108, 3, .null, 0, []),
  (8, .istore 4, 2, .null, 0, []),
  (10, .iload 4, 2, .null, 0, []),
  (12, .bipush 22, 2, .int 22, 0, []),
  (14, .if_icmp .ge 45, 3, .null, 59, []),
  (17, .aload_n 0, 1, .null, 0, []),
  (18, .getfield 33, 3, .null, 0, []),
  (21, .iload_n 1, 1, .null, 0, []),
  (22, .bipush 22, 2, .int 22, 0, []),
  (24, .imul, 1, .null, 0, []),
  (25, .iload 4, 2, .null, 0, []),
  (27, .iadd, 1, .null, 0, []),
  (28, .iload_n 2, 1, .null, 0, []),
  (29, .invokestatic 85, 3, .null, 0, []),
  (32, .aload_n 0, 1, .null, 0, []),
  (33, .getfield 36, 3, .null, 0, []),
  (36, .iload_n 1, 1, .null, 0, []),
  (37, .bipush 22, 2, .int 22, 0, []),
  (39, .imul, 1, .null, 0, []),
  (40, .iload 4, 2, .null, 0, []),
  (42, .iadd, 1, .null, 0, []),
  (43, .iload_n 3, 1, .null, 0, []),
  (44, .invokestatic 85, 3, .null, 0, []),
  (47, .aload_n 0, 1, .null, 0, []),
  (48, .getfield 39, 3, .null, 0, []),
  (51, .iload_n 1, 1, .null, 0, []),
  (52, .iload 4, 2, .null, 0, []),
  (54, .iconst 1, 1, .int 1, 0, []),
  (55, .iadd, 1, .null, 0, []),
  (56, .invokestatic 85, 3, .null, 0, []),
  (59, .return_, 1, .null, 0, [])]
theorem KSh_addSet : zCode gSh_addSet kSh_addSet := by unfold zCode; decide +kernel
def kSh_allTake : List zR := [(0, .iconst 0, 1, .int 0, 0, []),
  (1, .istore_n 3, 1, .null, 0, []),
  (2, .iload_n 3, 1, .null, 0, []),
  (3, .aload_n 0, 1, .null, 0, []),
  (4, .getfield 9, 3, .null, 0, []),
  (7, .getfield 58, 3, .null, 0, []),
  (10, .if_icmp .ge 28, 3, .null, 38, []),
  (13, .iload_n 1, 1, .null, 0, []),
  (14, .iload_n 3, 1, .null, 0, []),
  (15, .invokestatic 141, 3, .null, 0, []),
  (18, .ifCond .eq 14, 3, .null, 32, []),
  (21, .aload_n 0, 1, .null, 0, []),
  (22, .iload_n 3, 1, .null, 0, []),
  (23, .iload_n 2, 1, .null, 0, []),
  (24, .invokevirtual 144, 3, .null, 0, []),
  (27, .ifCond .ne 5, 3, .null, 32, []),
  (30, .iconst 0, 1, .int 0, 0, []),
  (31, .ireturn, 1, .null, 0, []),
  (32, .iinc 3 1, 3, .int 1, 0, []),
  (35, .goto (-33), 3, .null, 2, []),
  (38, .iconst 1, 1, .int 1, 0, []),
  (39, .ireturn, 1, .null, 0, [])]
theorem KSh_allTake : zCode gSh_allTake kSh_allTake := by unfold zCode; decide +kernel
def kSh_takes : List zR := [(0, .aload_n 0, 1, .null, 0, []),
  (1, .getfield 45, 3, .null, 0, []),
  (4, .iload_n 1, 1, .null, 0, []),
  (5, .invokestatic 108, 3, .null, 0, []),
  (8, .istore_n 3, 1, .null, 0, []),
  (9, .bipush 9, 2, .int 9, 0, []),
  (11, .aload_n 0, 1, .null, 0, []),
  (12, .getfield 23, 3, .null, 0, []),
  (15, .iload_n 1, 1, .null, 0, []),
  (16, .invokestatic 108, 3, .null, 0, []),
  (19, .iload_n 3, 1, .null, 0, []),
  (20, .invokestatic 69, 3, .null, 0, []),
  (23, .iadd, 1, .null, 0, []),
  (24, .invokestatic 138, 3, .null, 0, []),
  (27, .istore 4, 2, .null, 0, []),
  (29, .iload 4, 2, .null, 0, []),
  (31, .aload_n 0, 1, .null, 0, []),
  (32, .getfield 27, 3, .null, 0, []),
  (35, .iload_n 2, 1, .null, 0, []),
  (36, .bipush 7, 2, .int 7, 0, []),
  (38, .imul, 1, .null, 0, []),
  (39, .iload_n 1, 1, .null, 0, []),
  (40, .iadd, 1, .null, 0, []),
  (41, .invokestatic 108, 3, .null, 0, []),
  (44, .if_icmp .gt 20, 3, .null, 64, []),
  (47, .iload_n 3, 1, .null, 0, []),
  (48, .aload_n 0, 1, .null, 0, []),
  (49, .getfield 30, 3, .null, 0, []),
  (52, .iload_n 2, 1, .null, 0, []),
  (53, .invokestatic 108, 3, .null, 0, []),
  (56, .iand, 1, .null, 0, []),
  (57, .ifCond .ne 7, 3, .null, 64, []),
  (60, .iconst 1, 1, .int 1, 0, []),
  (61, .goto 4, 3, .null, 65, []),
  (64, .iconst 0, 1, .int 0, 0, []),
  (65, .ireturn, 1, .null, 0, [])]
theorem KSh_takes : zCode gSh_takes kSh_takes := by unfold zCode; decide +kernel
def kSh_search : List zR := [(0, .iload_n 1, 1, .null, 0, []),
  (1, .aload_n 0, 1, .null, 0, []),
  (2, .getfield 9, 3, .null, 0, []),
  (5, .getfield 89, 3, .null, 0, []),
  (8, .if_icmp .ge 8, 3, .null, 16, []),
  (11, .iload_n 1, 1, .null, 0, []),
  (12, .iconst 4, 1, .int 4, 0, []),
  (13, .if_icmp .lt 20, 3, .null, 33, []),
  (16, .aload_n 0, 1, .null, 0, []),
  (17, .iload_n 2, 1, .null, 0, []),
  (18, .putfield 54, 3, .null, 0, []),
  (21, .aload_n 0, 1, .null, 0, []),
  (22, .getfield 48, 3, .null, 0, []),
  (25, .aload_n 0, 1, .null, 0, []),
  (26, .getfield 51, 3, .null, 0, []),
  (29, .invokestatic 147, 3, .null, 0, []),
  (32, .return_, 1, .null, 0, []),
  (33, .aload_n 0, 1, .null, 0, []),
  (34, .getfield 42, 3, .null, 0, []),
  (37, .iload_n 1, 1, .null, 0, []),
  (38, .iconst 1, 1, .int 1, 0, []),
  (39, .iadd, 1, .null, 0, []),
  (40, .invokestatic 108, 3, .null, 0, []),
  (43, .istore_n 3, 1, .null, 0, []),
  (44, .aload_n 0, 1, .null, 0, []),
  (45, .getfield 39, 3, .null, 0, []),
  (48, .iload_n 1, 1, .null, 0, []),
  (49, .invokestatic 108, 3, .null, 0, []),
  (52, .istore 4, 2, .null, 0, []),
  (54, .iconst 0, 1, .int 0, 0, []),
  (55, .istore 5, 2, .null, 0, []),
  (57, .iload 5, 2, .null, 0, []),
  (59, .iload 4, 2, .null, 0, []),
  (61, .if_icmp .ge 59, 3, .null, 120, []),
  (64, .iload_n 2, 1, .null, 0, []),
  (65, .aload_n 0, 1, .null, 0, []),
  (66, .getfield 36, 3, .null, 0, []),
  (69, .iload_n 1, 1, .null, 0, []),
  (70, .bipush 22, 2, .int 22, 0, []),
  (72, .imul, 1, .null, 0, []),
  (73, .iload 5, 2, .null, 0, []),
  (75, .iadd, 1, .null, 0, []),
  (76, .invokestatic 108, 3, .null, 0, []),
  (79, .iadd, 1, .null, 0, []),
  (80, .istore 6, 2, .null, 0, []),
  (82, .iload 6, 2, .null, 0, []),
  (84, .iload_n 3, 1, .null, 0, []),
  (85, .iadd, 1, .null, 0, []),
  (86, .aload_n 0, 1, .null, 0, []),
  (87, .getfield 54, 3, .null, 0, []),
  (90, .if_icmp .ge 24, 3, .null, 114, []),
  (93, .aload_n 0, 1, .null, 0, []),
  (94, .iload_n 1, 1, .null, 0, []),
  (95, .aload_n 0, 1, .null, 0, []),
  (96, .getfield 33, 3, .null, 0, []),
  (99, .iload_n 1, 1, .null, 0, []),
  (100, .bipush 22, 2, .int 22, 0, []),
  (102, .imul, 1, .null, 0, []),
  (103, .iload 5, 2, .null, 0, []),
  (105, .iadd, 1, .null, 0, []),
  (106, .invokestatic 108, 3, .null, 0, []),
  (109, .iload 6, 2, .null, 0, []),
  (111, .invokevirtual 151, 3, .null, 0, []),
  (114, .iinc 5 1, 3, .int 1, 0, []),
  (117, .goto (-60), 3, .null, 57, []),
  (120, .return_, 1, .null, 0, [])]
theorem KSh_search : zCode gSh_search kSh_search := by unfold zCode; decide +kernel
def kSh_pick : List zR := [(0, .aload_n 0, 1, .null, 0, []),
  (1, .iload_n 2, 1, .null, 0, []),
  (2, .iload_n 1, 1, .null, 0, []),
  (3, .invokevirtual 132, 3, .null, 0, []),
  (6, .ifCond .eq 36, 3, .null, 42, []),
  (9, .aload_n 0, 1, .null, 0, []),
  (10, .iload_n 2, 1, .null, 0, []),
  (11, .iconst 1, 1, .int 1, 0, []),
  (12, .iload_n 1, 1, .null, 0, []),
  (13, .ishl, 1, .null, 0, []),
  (14, .invokevirtual 154, 3, .null, 0, []),
  (17, .aload_n 0, 1, .null, 0, []),
  (18, .getfield 48, 3, .null, 0, []),
  (21, .iload_n 1, 1, .null, 0, []),
  (22, .iload_n 2, 1, .null, 0, []),
  (23, .invokestatic 85, 3, .null, 0, []),
  (26, .aload_n 0, 1, .null, 0, []),
  (27, .iload_n 1, 1, .null, 0, []),
  (28, .iconst 1, 1, .int 1, 0, []),
  (29, .iadd, 1, .null, 0, []),
  (30, .iload_n 3, 1, .null, 0, []),
  (31, .invokevirtual 97, 3, .null, 0, []),
  (34, .aload_n 0, 1, .null, 0, []),
  (35, .iload_n 2, 1, .null, 0, []),
  (36, .iconst 1, 1, .int 1, 0, []),
  (37, .iload_n 1, 1, .null, 0, []),
  (38, .ishl, 1, .null, 0, []),
  (39, .invokevirtual 154, 3, .null, 0, []),
  (42, .return_, 1, .null, 0, [])]
theorem KSh_pick : zCode gSh_pick kSh_pick := by unfold zCode; decide +kernel
def kSh_give : List zR := [(0, .iconst 0, 1, .int 0, 0, []),
  (1, .istore_n 3, 1, .null, 0, []),
  (2, .iload_n 3, 1, .null, 0, []),
  (3, .aload_n 0, 1, .null, 0, []),
  (4, .getfield 9, 3, .null, 0, []),
  (7, .getfield 58, 3, .null, 0, []),
  (10, .if_icmp .ge 35, 3, .null, 45, []),
  (13, .iload_n 1, 1, .null, 0, []),
  (14, .iload_n 3, 1, .null, 0, []),
  (15, .invokestatic 141, 3, .null, 0, []),
  (18, .ifCond .eq 21, 3, .null, 39, []),
  (21, .aload_n 0, 1, .null, 0, []),
  (22, .getfield 45, 3, .null, 0, []),
  (25, .iload_n 3, 1, .null, 0, []),
  (26, .aload_n 0, 1, .null, 0, []),
  (27, .getfield 45, 3, .null, 0, []),
  (30, .iload_n 3, 1, .null, 0, []),
  (31, .invokestatic 108, 3, .null, 0, []),
  (34, .iload_n 2, 1, .null, 0, []),
  (35, .ixor, 1, .null, 0, []),
  (36, .invokestatic 85, 3, .null, 0, []),
  (39, .iinc 3 1, 3, .int 1, 0, []),
  (42, .goto (-40), 3, .null, 2, []),
  (45, .return_, 1, .null, 0, [])]
theorem KSh_give : zCode gSh_give kSh_give := by unfold zCode; decide +kernel
def kSt_init : List zR := [(0, .aload_n 0, 1, .null, 0, []),
  (1, .invokespecial 5, 3, .null, 0, []),
  (4, .aload_n 0, 1, .null, 0, []),
  (5, .bipush 55, 2, .int 55, 0, []),
  (7, .newarray .int, 2, .null, 0, []),
  (9, .putfield 11, 3, .null, 0, []),
  (12, .return_, 1, .null, 0, [])]
theorem KSt_init : zCode gSt_init kSt_init := by unfold zCode; decide +kernel
def kSt_begin : List zR := [(0, .iconst 0, 1, .int 0, 0, []),
  (1, .istore_n 2, 1, .null, 0, []),
  (2, .iload_n 2, 1, .null, 0, []),
  (3, .aload_n 0, 1, .null, 0, []),
  (4, .getfield 11, 3, .null, 0, []),
  (7, .arraylength, 1, .null, 0, []),
  (8, .if_icmp .ge 16, 3, .null, 24, []),
  (11, .aload_n 0, 1, .null, 0, []),
  (12, .getfield 11, 3, .null, 0, []),
  (15, .iload_n 2, 1, .null, 0, []),
  (16, .iconst 0, 1, .int 0, 0, []),
  (17, .iastore, 1, .null, 0, []),
  (18, .iinc 2 1, 3, .int 1, 0, []),
  (21, .goto (-19), 3, .null, 2, []),
  (24, .aload_n 0, 1, .null, 0, []),
  (25, .aload_n 1, 1, .null, 0, []),
  (26, .invokevirtual 15, 3, .null, 0, []),
  (29, .return_, 1, .null, 0, [])]
theorem KSt_begin : zCode gSt_begin kSt_begin := by unfold zCode; decide +kernel
def kSt_takeRows : List zR := [(0, .aload_n 1, 1, .null, 0, []),
  (1, .getfield 19, 3, .null, 0, []),
  (4, .aload_n 0, 1, .null, 0, []),
  (5, .getfield 11, 3, .null, 0, []),
  (8, .invokestatic 24, 3, .null, 0, []),
  (11, .return_, 1, .null, 0, [])]
theorem KSt_takeRows : zCode gSt_takeRows kSt_takeRows := by unfold zCode; decide +kernel
def kSt_placeOf : List zR := [(0, .aload_n 0, 1, .null, 0, []),
  (1, .getfield 11, 3, .null, 0, []),
  (4, .iload_n 1, 1, .null, 0, []),
  (5, .bipush 6, 2, .int 6, 0, []),
  (7, .imul, 1, .null, 0, []),
  (8, .iload_n 2, 1, .null, 0, []),
  (9, .iadd, 1, .null, 0, []),
  (10, .invokestatic 28, 3, .null, 0, []),
  (13, .ireturn, 1, .null, 0, [])]
theorem KSt_placeOf : zCode gSt_placeOf kSt_placeOf := by unfold zCode; decide +kernel
def kSt_setPlace : List zR := [(0, .aload_n 0, 1, .null, 0, []),
  (1, .getfield 11, 3, .null, 0, []),
  (4, .iload_n 1, 1, .null, 0, []),
  (5, .bipush 6, 2, .int 6, 0, []),
  (7, .imul, 1, .null, 0, []),
  (8, .iload_n 2, 1, .null, 0, []),
  (9, .iadd, 1, .null, 0, []),
  (10, .iload_n 3, 1, .null, 0, []),
  (11, .invokestatic 32, 3, .null, 0, []),
  (14, .return_, 1, .null, 0, [])]
theorem KSt_setPlace : zCode gSt_setPlace kSt_setPlace := by unfold zCode; decide +kernel
def kSt_wornOf : List zR := [(0, .aload_n 0, 1, .null, 0, []),
  (1, .getfield 11, 3, .null, 0, []),
  (4, .bipush 42, 2, .int 42, 0, []),
  (6, .iload_n 1, 1, .null, 0, []),
  (7, .iadd, 1, .null, 0, []),
  (8, .invokestatic 28, 3, .null, 0, []),
  (11, .ireturn, 1, .null, 0, [])]
theorem KSt_wornOf : zCode gSt_wornOf kSt_wornOf := by unfold zCode; decide +kernel
def kSt_wear : List zR := [(0, .aload_n 0, 1, .null, 0, []),
  (1, .getfield 11, 3, .null, 0, []),
  (4, .bipush 42, 2, .int 42, 0, []),
  (6, .iload_n 1, 1, .null, 0, []),
  (7, .iadd, 1, .null, 0, []),
  (8, .iconst 0, 1, .int 0, 0, []),
  (9, .bipush 9, 2, .int 9, 0, []),
  (11, .aload_n 0, 1, .null, 0, []),
  (12, .iload_n 1, 1, .null, 0, []),
  (13, .invokevirtual 36, 3, .null, 0, []),
  (16, .iload_n 2, 1, .null, 0, []),
  (17, .iadd, 1, .null, 0, []),
  (18, .invokestatic 40, 3, .null, 0, []),
  (21, .invokestatic 46, 3, .null, 0, []),
  (24, .invokestatic 32, 3, .null, 0, []),
  (27, .return_, 1, .null, 0, [])]
theorem KSt_wear : zCode gSt_wear kSt_wear := by unfold zCode; decide +kernel
def kSt_blamedFor : List zR := [(0, .aload_n 0, 1, .null, 0, []),
  (1, .getfield 11, 3, .null, 0, []),
  (4, .bipush 49, 2, .int 49, 0, []),
  (6, .iload_n 1, 1, .null, 0, []),
  (7, .iadd, 1, .null, 0, []),
  (8, .invokestatic 28, 3, .null, 0, []),
  (11, .ireturn, 1, .null, 0, [])]
theorem KSt_blamedFor : zCode gSt_blamedFor kSt_blamedFor := by unfold zCode; decide +kernel
def kSt_setBlamed : List zR := [(0, .aload_n 0, 1, .null, 0, []),
  (1, .getfield 11, 3, .null, 0, []),
  (4, .bipush 49, 2, .int 49, 0, []),
  (6, .iload_n 1, 1, .null, 0, []),
  (7, .iadd, 1, .null, 0, []),
  (8, .iload_n 2, 1, .null, 0, []),
  (9, .invokestatic 32, 3, .null, 0, []),
  (12, .return_, 1, .null, 0, [])]
theorem KSt_setBlamed : zCode gSt_setBlamed kSt_setBlamed := by unfold zCode; decide +kernel
def kSt_spent : List zR := [(0, .aload_n 0, 1, .null, 0, []),
  (1, .getfield 11, 3, .null, 0, []),
  (4, .bipush 53, 2, .int 53, 0, []),
  (6, .invokestatic 28, 3, .null, 0, []),
  (9, .ireturn, 1, .null, 0, [])]
theorem KSt_spent : zCode gSt_spent kSt_spent := by unfold zCode; decide +kernel
def kSt_spend : List zR := [(0, .aload_n 0, 1, .null, 0, []),
  (1, .getfield 11, 3, .null, 0, []),
  (4, .bipush 53, 2, .int 53, 0, []),
  (6, .aload_n 0, 1, .null, 0, []),
  (7, .invokevirtual 49, 3, .null, 0, []),
  (10, .iload_n 1, 1, .null, 0, []),
  (11, .iadd, 1, .null, 0, []),
  (12, .invokestatic 32, 3, .null, 0, []),
  (15, .return_, 1, .null, 0, [])]
theorem KSt_spend : zCode gSt_spend kSt_spend := by unfold zCode; decide +kernel
def kSt_days : List zR := [(0, .aload_n 0, 1, .null, 0, []),
  (1, .getfield 11, 3, .null, 0, []),
  (4, .bipush 54, 2, .int 54, 0, []),
  (6, .invokestatic 28, 3, .null, 0, []),
  (9, .ireturn, 1, .null, 0, [])]
theorem KSt_days : zCode gSt_days kSt_days := by unfold zCode; decide +kernel
def kSt_countDay : List zR := [(0, .aload_n 0, 1, .null, 0, []),
  (1, .getfield 11, 3, .null, 0, []),
  (4, .bipush 54, 2, .int 54, 0, []),
  (6, .aload_n 0, 1, .null, 0, []),
  (7, .invokevirtual 53, 3, .null, 0, []),
  (10, .iconst 1, 1, .int 1, 0, []),
  (11, .iadd, 1, .null, 0, []),
  (12, .invokestatic 32, 3, .null, 0, []),
  (15, .return_, 1, .null, 0, [])]
theorem KSt_countDay : zCode gSt_countDay kSt_countDay := by unfold zCode; decide +kernel
def kTe_init : List zR := [(0, .aload_n 0, 1, .null, 0, []),
  (1, .invokespecial 3, 3, .null, 0, []),
  (4, .aload_n 0, 1, .null, 0, []),
  (5, .sipush 230, 3, .int 230, 0, []),
  (8, .newarray .int, 2, .null, 0, []),
  (10, .putfield 9, 3, .null, 0, []),
  (13, .aload_n 0, 1, .null, 0, []),
  (14, .iconst 0, 1, .int 0, 0, []),
  (15, .putfield 15, 3, .null, 0, []),
  (18, .aload_n 0, 1, .null, 0, []),
  (19, .iconst (-1), 1, .int (-1), 0, []),
  (20, .putfield 19, 3, .null, 0, []),
  (23, .aload_n 0, 1, .null, 0, []),
  (24, .iconst 0, 1, .int 0, 0, []),
  (25, .putfield 22, 3, .null, 0, []),
  (28, .aload_n 0, 1, .null, 0, []),
  (29, .iconst 0, 1, .int 0, 0, []),
  (30, .putfield 25, 3, .null, 0, []),
  (33, .aload_n 0, 1, .null, 0, []),
  (34, .iconst 0, 1, .int 0, 0, []),
  (35, .putfield 28, 3, .null, 0, []),
  (38, .return_, 1, .null, 0, [])]
theorem KTe_init : zCode gTe_init kTe_init := by unfold zCode; decide +kernel
def kTe_add : List zR := [(0, .aload_n 0, 1, .null, 0, []),
  (1, .getfield 9, 3, .null, 0, []),
  (4, .aload_n 0, 1, .null, 0, []),
  (5, .getfield 15, 3, .null, 0, []),
  (8, .iload_n 1, 1, .null, 0, []),
  (9, .invokestatic 31, 3, .null, 0, []),
  (12, .aload_n 0, 1, .null, 0, []),
  (13, .dup, 1, .null, 0, []),
  (14, .getfield 15, 3, .null, 0, []),
  (17, .iconst 1, 1, .int 1, 0, []),
  (18, .iadd, 1, .null, 0, []),
  (19, .putfield 15, 3, .null, 0, []),
  (22, .aload_n 0, 1, .null, 0, []),
  (23, .getfield 15, 3, .null, 0, []),
  (26, .ireturn, 1, .null, 0, [])]
theorem KTe_add : zCode gTe_add kTe_add := by unfold zCode; decide +kernel
def kTe_readInto : List zR := [(0, .aload_n 1, 1, .null, 0, []),
  (1, .invokevirtual 35, 3, .null, 0, []),
  (4, .aload_n 0, 1, .null, 0, []),
  (5, .iconst 0, 1, .int 0, 0, []),
  (6, .putfield 22, 3, .null, 0, []),
  (9, .aload_n 0, 1, .null, 0, []),
  (10, .iconst (-1), 1, .int (-1), 0, []),
  (11, .putfield 19, 3, .null, 0, []),
  (14, .aload_n 0, 1, .null, 0, []),
  (15, .iconst 0, 1, .int 0, 0, []),
  (16, .putfield 25, 3, .null, 0, []),
  (19, .aload_n 0, 1, .null, 0, []),
  (20, .invokevirtual 40, 3, .null, 0, []),
  (23, .iconst 0, 1, .int 0, 0, []),
  (24, .istore_n 2, 1, .null, 0, []),
  (25, .iload_n 2, 1, .null, 0, []),
  (26, .sipush 230, 3, .int 230, 0, []),
  (29, .if_icmp .ge 36, 3, .null, 65, []),
  (32, .aload_n 0, 1, .null, 0, []),
  (33, .getfield 25, 3, .null, 0, []),
  (36, .aload_n 0, 1, .null, 0, []),
  (37, .getfield 15, 3, .null, 0, []),
  (40, .if_icmp .ge 25, 3, .null, 65, []),
  (43, .aload_n 0, 1, .null, 0, []),
  (44, .getfield 22, 3, .null, 0, []),
  (47, .ifCond .ne 18, 3, .null, 65, []),
  (50, .aload_n 0, 1, .null, 0, []),
  (51, .aload_n 1, 1, .null, 0, []),
  (52, .invokevirtual 43, 3, .null, 0, []),
  (55, .aload_n 0, 1, .null, 0, []),
  (56, .invokevirtual 40, 3, .null, 0, []),
  (59, .iinc 2 1, 3, .int 1, 0, []),
  (62, .goto (-37), 3, .null, 25, []),
  (65, .aload_n 0, 1, .null, 0, []),
  (66, .iconst 0, 1, .int 0, 0, []),
  (67, .putfield 15, 3, .null, 0, []),
  (70, .aload_n 0, 1, .null, 0, []),
  (71, .getfield 22, 3, .null, 0, []),
  (74, .ireturn, 1, .null, 0, [])]
theorem KTe_readInto : zCode gTe_readInto kTe_readInto := by unfold zCode; decide +kernel
def kTe_readClause : List zR := [(0, .aload_n 0, 1, .null, 0, []),
  (1, .invokevirtual 47, 3, .null, 0, []),
  (4, .istore_n 2, 1, .null, 0, []),
  (5, .iload_n 2, 1, .null, 0, []),
  (6, .bipush 97, 2, .int 97, 0, []),
  (8, .if_icmp .ne 11, 3, .null, 19, []),
  (11, .aload_n 0, 1, .null, 0, []),
  (12, .aload_n 1, 1, .null, 0, []),
  (13, .invokevirtual 51, 3, .null, 0, []),
  (16, .goto 59, 3, .null, 75, []),
  (19, .aload_n 1, 1, .null, 0, []),
  (20, .getfield 54, 3, .null, 0, []),
  (23, .ifCond .ne 15, 3, .null, 38, []),
  (26, .aload_n 0, 1, .null, 0, []),
  (27, .iconst 1, 1, .int 1, 0, []),
  (28, .aload_n 0, 1, .null, 0, []),
  (29, .getfield 25, 3, .null, 0, []),
  (32, .invokevirtual 58, 3, .null, 0, []),
  (35, .goto 40, 3, .null, 75, []),
  (38, .iload_n 2, 1, .null, 0, []),
  (39, .bipush 109, 2, .int 109, 0, []),
  (41, .if_icmp .ne 11, 3, .null, 52, []),
  (44, .aload_n 0, 1, .null, 0, []),
  (45, .aload_n 1, 1, .null, 0, []),
  (46, .invokevirtual 62, 3, .null, 0, []),
  (49, .goto 26, 3, .null, 75, []),
  (52, .iload_n 2, 1, .null, 0, []),
  (53, .bipush 120, 2, .int 120, 0, []),
  (55, .if_icmp .ne 11, 3, .null, 66, []),
  (58, .aload_n 0, 1, .null, 0, []),
  (59, .aload_n 1, 1, .null, 0, []),
  (60, .invokevirtual 65, 3, .null, 0, []),
  (63, .goto 12, 3, .null, 75, []),
  (66, .aload_n 0, 1, .null, 0, []),
  (67, .iconst 1, 1, .int 1, 0, []),
  (68, .aload_n 0, 1, .null, 0, []),
  (69, .getfield 25, 3, .null, 0, []),
  (72, .invokevirtual 58, 3, .null, 0, []),
  (75, .return_, 1, .null, 0, [])]
theorem KTe_readClause : zCode gTe_readClause kTe_readClause := by unfold zCode; decide +kernel
def kTe_readJury : List zR := [(0, .aload_n 1, 1, .null, 0, []),
  (1, .getfield 54, 3, .null, 0, []),
  (4, .ifCond .eq 13, 3, .null, 17, []),
  (7, .aload_n 0, 1, .null, 0, []),
  (8, .iconst 3, 1, .int 3, 0, []),
  (9, .aload_n 0, 1, .null, 0, []),
  (10, .getfield 25, 3, .null, 0, []),
  (13, .invokevirtual 58, 3, .null, 0, []),
  (16, .return_, 1, .null, 0, []),
  (17, .aload_n 0, 1, .null, 0, []),
  (18, .dup, 1, .null, 0, []),
  (19, .getfield 25, 3, .null, 0, []),
  (22, .iconst 1, 1, .int 1, 0, []),
  (23, .iadd, 1, .null, 0, []),
  (24, .putfield 25, 3, .null, 0, []),
  (27, .aload_n 1, 1, .null, 0, []),
  (28, .aload_n 0, 1, .null, 0, []),
  (29, .iconst 0, 1, .int 0, 0, []),
  (30, .bipush 6, 2, .int 6, 0, []),
  (32, .invokevirtual 68, 3, .null, 0, []),
  (35, .putfield 72, 3, .null, 0, []),
  (38, .aload_n 1, 1, .null, 0, []),
  (39, .aload_n 0, 1, .null, 0, []),
  (40, .iconst 1, 1, .int 1, 0, []),
  (41, .sipush 500, 3, .int 500, 0, []),
  (44, .invokevirtual 68, 3, .null, 0, []),
  (47, .putfield 75, 3, .null, 0, []),
  (50, .aload_n 0, 1, .null, 0, []),
  (51, .invokevirtual 78, 3, .null, 0, []),
  (54, .aload_n 1, 1, .null, 0, []),
  (55, .iconst 1, 1, .int 1, 0, []),
  (56, .putfield 54, 3, .null, 0, []),
  (59, .return_, 1, .null, 0, [])]
theorem KTe_readJury : zCode gTe_readJury kTe_readJury := by unfold zCode; decide +kernel
def kTe_readMan : List zR := [(0, .aload_n 1, 1, .null, 0, []),
  (1, .getfield 81, 3, .null, 0, []),
  (4, .istore_n 2, 1, .null, 0, []),
  (5, .iload_n 2, 1, .null, 0, []),
  (6, .bipush 7, 2, .int 7, 0, []),
  (8, .if_icmp .lt 13, 3, .null, 21, []),
  (11, .aload_n 0, 1, .null, 0, []),
  (12, .iconst 3, 1, .int 3, 0, []),
  (13, .aload_n 0, 1, .null, 0, []),
  (14, .getfield 25, 3, .null, 0, []),
  (17, .invokevirtual 58, 3, .null, 0, []),
  (20, .return_, 1, .null, 0, []),
  (21, .aload_n 0, 1, .null, 0, []),
  (22, .dup, 1, .null, 0, []),
  (23, .getfield 25, 3, .null, 0, []),
  (26, .iconst 1, 1, .int 1, 0, []),
  (27, .iadd, 1, .null, 0, []),
  (28, .putfield 25, 3, .null, 0, []),
  (31, .aload_n 1, 1, .null, 0, []),
  (32, .getfield 84, 3, .null, 0, []),
  (35, .iload_n 2, 1, .null, 0, []),
  (36, .aload_n 0, 1, .null, 0, []),
  (37, .iconst 0, 1, .int 0, 0, []),
  (38, .bipush 15, 2, .int 15, 0, []),
  (40, .invokevirtual 68, 3, .null, 0, []),
  (43, .invokestatic 31, 3, .null, 0, []),
  (46, .aload_n 1, 1, .null, 0, []),
  (47, .getfield 87, 3, .null, 0, []),
  (50, .iload_n 2, 1, .null, 0, []),
  (51, .aload_n 0, 1, .null, 0, []),
  (52, .iconst 0, 1, .int 0, 0, []),
  (53, .bipush 63, 2, .int 63, 0, []),
  (55, .invokevirtual 68, 3, .null, 0, []),
  (58, .invokestatic 31, 3, .null, 0, []),
  (61, .aload_n 1, 1, .null, 0, []),
  (62, .getfield 90, 3, .null, 0, []),
  (65, .iload_n 2, 1, .null, 0, []),
  (66, .aload_n 0, 1, .null, 0, []),
  (67, .iconst 1, 1, .int 1, 0, []),
  (68, .bipush 99, 2, .int 99, 0, []),
  (70, .invokevirtual 68, 3, .null, 0, []),
  (73, .invokestatic 31, 3, .null, 0, []),
  (76, .aload_n 0, 1, .null, 0, []),
  (77, .aload_n 1, 1, .null, 0, []),
  (78, .iload_n 2, 1, .null, 0, []),
  (79, .invokevirtual 93, 3, .null, 0, []),
  (82, .aload_n 0, 1, .null, 0, []),
  (83, .invokevirtual 78, 3, .null, 0, []),
  (86, .aload_n 1, 1, .null, 0, []),
  (87, .iload_n 2, 1, .null, 0, []),
  (88, .iconst 1, 1, .int 1, 0, []),
  (89, .iadd, 1, .null, 0, []),
  (90, .putfield 81, 3, .null, 0, []),
  (93, .return_, 1, .null, 0, [])]
theorem KTe_readMan : zCode gTe_readMan kTe_readMan := by unfold zCode; decide +kernel
def kTe_readMishap : List zR := [(0, .aload_n 1, 1, .null, 0, []),
  (1, .getfield 97, 3, .null, 0, []),
  (4, .istore_n 2, 1, .null, 0, []),
  (5, .iload_n 2, 1, .null, 0, []),
  (6, .iconst 4, 1, .int 4, 0, []),
  (7, .if_icmp .lt 13, 3, .null, 20, []),
  (10, .aload_n 0, 1, .null, 0, []),
  (11, .iconst 3, 1, .int 3, 0, []),
  (12, .aload_n 0, 1, .null, 0, []),
  (13, .getfield 25, 3, .null, 0, []),
  (16, .invokevirtual 58, 3, .null, 0, []),
  (19, .return_, 1, .null, 0, []),
  (20, .aload_n 0, 1, .null, 0, []),
  (21, .dup, 1, .null, 0, []),
  (22, .getfield 25, 3, .null, 0, []),
  (25, .iconst 1, 1, .int 1, 0, []),
  (26, .iadd, 1, .null, 0, []),
  (27, .putfield 25, 3, .null, 0, []),
  (30, .aload_n 1, 1, .null, 0, []),
  (31, .getfield 100, 3, .null, 0, []),
  (34, .iload_n 2, 1, .null, 0, []),
  (35, .aload_n 0, 1, .null, 0, []),
  (36, .iconst 0, 1, .int 0, 0, []),
  (37, .iconst 5, 1, .int 5, 0, []),
  (38, .invokevirtual 68, 3, .null, 0, []),
  (41, .invokestatic 31, 3, .null, 0, []),
  (44, .aload_n 1, 1, .null, 0, []),
  (45, .getfield 103, 3, .null, 0, []),
  (48, .iload_n 2, 1, .null, 0, []),
  (49, .aload_n 0, 1, .null, 0, []),
  (50, .iconst 0, 1, .int 0, 0, []),
  (51, .iconst 5, 1, .int 5, 0, []),
  (52, .invokevirtual 68, 3, .null, 0, []),
  (55, .invokestatic 31, 3, .null, 0, []),
  (58, .aload_n 1, 1, .null, 0, []),
  (59, .getfield 106, 3, .null, 0, []),
  (62, .iload_n 2, 1, .null, 0, []),
  (63, .aload_n 0, 1, .null, 0, []),
  (64, .iconst 0, 1, .int 0, 0, []),
  (65, .bipush 15, 2, .int 15, 0, []),
  (67, .invokevirtual 68, 3, .null, 0, []),
  (70, .invokestatic 31, 3, .null, 0, []),
  (73, .aload_n 1, 1, .null, 0, []),
  (74, .getfield 109, 3, .null, 0, []),
  (77, .iload_n 2, 1, .null, 0, []),
  (78, .aload_n 0, 1, .null, 0, []),
  (79, .iconst 0, 1, .int 0, 0, []),
  (80, .iconst 5, 1, .int 5, 0, []),
  (81, .invokevirtual 68, 3, .null, 0, []),
  (84, .invokestatic 31, 3, .null, 0, []),
  (87, .aload_n 1, 1, .null, 0, []),
  (88, .getfield 112, 3, .null, 0, []),
  (91, .iload_n 2, 1, .null, 0, []),
  (92, .aload_n 0, 1, .null, 0, []),
  (93, .iconst 1, 1, .int 1, 0, []),
  (94, .iconst 2, 1, .int 2, 0, []),
  (95, .invokevirtual 68, 3, .null, 0, []),
  (98, .invokestatic 31, 3, .null, 0, []),
  (101, .aload_n 0, 1, .null, 0, []),
  (102, .iconst 0, 1, .int 0, 0, []),
  (103, .bipush 9, 2, .int 9, 0, []),
  (105, .invokevirtual 68, 3, .null, 0, []),
  (108, .istore_n 3, 1, .null, 0, []),
  (109, .iload_n 3, 1, .null, 0, []),
  (110, .iload_n 2, 1, .null, 0, []),
  (111, .if_icmp .lt 18, 3, .null, 129, []),
  (114, .iload_n 3, 1, .null, 0, []),
  (115, .bipush 9, 2, .int 9, 0, []),
  (117, .if_icmp .eq 12, 3, .null, 129, []),
  (120, .aload_n 0, 1, .null, 0, []),
  (121, .iconst 2, 1, .int 2, 0, []),
  (122, .aload_n 0, 1, .null, 0, []),
  (123, .getfield 28, 3, .null, 0, []),
  (126, .invokevirtual 58, 3, .null, 0, []),
  (129, .aload_n 1, 1, .null, 0, []),
  (130, .getfield 115, 3, .null, 0, []),
  (133, .iload_n 2, 1, .null, 0, []),
  (134, .iload_n 3, 1, .null, 0, []),
  (135, .bipush 9, 2, .int 9, 0, []),
  (137, .if_icmp .ne 7, 3, .null, 144, []),
  (140, .iconst (-1), 1, .int (-1), 0, []),
  (141, .goto 4, 3, .null, 145, []),
  (144, .iload_n 3, 1, .null, 0, []),
  (145, .invokestatic 31, 3, .null, 0, []),
  (148, .aload_n 0, 1, .null, 0, []),
  (149, .invokevirtual 78, 3, .null, 0, []),
  (152, .aload_n 1, 1, .null, 0, []),
  (153, .iload_n 2, 1, .null, 0, []),
  (154, .iconst 1, 1, .int 1, 0, []),
  (155, .iadd, 1, .null, 0, []),
  (156, .putfield 97, 3, .null, 0, []),
  (159, .return_, 1, .null, 0, [])]
theorem KTe_readMishap : zCode gTe_readMishap kTe_readMishap := by unfold zCode; decide +kernel
def kTe_readNumber : List zR := [(0, .aload_n 0, 1, .null, 0, []),
  (1, .invokevirtual 40, 3, .null, 0, []),
  (4, .aload_n 0, 1, .null, 0, []),
  (5, .aload_n 0, 1, .null, 0, []),
  (6, .getfield 25, 3, .null, 0, []),
  (9, .putfield 28, 3, .null, 0, []),
  (12, .iconst 0, 1, .int 0, 0, []),
  (13, .istore_n 3, 1, .null, 0, []),
  (14, .aload_n 0, 1, .null, 0, []),
  (15, .getfield 25, 3, .null, 0, []),
  (18, .aload_n 0, 1, .null, 0, []),
  (19, .getfield 15, 3, .null, 0, []),
  (22, .if_icmp .ge 48, 3, .null, 70, []),
  (25, .aload_n 0, 1, .null, 0, []),
  (26, .invokevirtual 47, 3, .null, 0, []),
  (29, .bipush 48, 2, .int 48, 0, []),
  (31, .bipush 57, 2, .int 57, 0, []),
  (33, .invokestatic 118, 3, .null, 0, []),
  (36, .ifCond .eq 34, 3, .null, 70, []),
  (39, .iload_n 3, 1, .null, 0, []),
  (40, .bipush 10, 2, .int 10, 0, []),
  (42, .imul, 1, .null, 0, []),
  (43, .aload_n 0, 1, .null, 0, []),
  (44, .invokevirtual 47, 3, .null, 0, []),
  (47, .iadd, 1, .null, 0, []),
  (48, .bipush 48, 2, .int 48, 0, []),
  (50, .isub, 1, .null, 0, []),
  (51, .ldc 122, 2, .null, 0, []),
  (53, .invokestatic 123, 3, .null, 0, []),
  (56, .istore_n 3, 1, .null, 0, []),
  (57, .aload_n 0, 1, .null, 0, []),
  (58, .dup, 1, .null, 0, []),
  (59, .getfield 25, 3, .null, 0, []),
  (62, .iconst 1, 1, .int 1, 0, []),
  (63, .iadd, 1, .null, 0, []),
  (64, .putfield 25, 3, .null, 0, []),
  (67, .goto (-53), 3, .null, 14, []),
  (70, .aload_n 0, 1, .null, 0, []),
  (71, .getfield 25, 3, .null, 0, []),
  (74, .aload_n 0, 1, .null, 0, []),
  (75, .getfield 28, 3, .null, 0, []),
  (78, .if_icmp .ne 15, 3, .null, 93, []),
  (81, .aload_n 0, 1, .null, 0, []),
  (82, .iconst 1, 1, .int 1, 0, []),
  (83, .aload_n 0, 1, .null, 0, []),
  (84, .getfield 28, 3, .null, 0, []),
  (87, .invokevirtual 58, 3, .null, 0, []),
  (90, .goto 34, 3, .null, 124, []),
  (93, .aload_n 0, 1, .null, 0, []),
  (94, .getfield 25, 3, .null, 0, []),
  (97, .aload_n 0, 1, .null, 0, []),
  (98, .getfield 28, 3, .null, 0, []),
  (101, .isub, 1, .null, 0, []),
  (102, .iconst 3, 1, .int 3, 0, []),
  (103, .if_icmp .gt 12, 3, .null, 115, []),
  (106, .iload_n 3, 1, .null, 0, []),
  (107, .iload_n 1, 1, .null, 0, []),
  (108, .iload_n 2, 1, .null, 0, []),
  (109, .invokestatic 118, 3, .null, 0, []),
  (112, .ifCond .ne 12, 3, .null, 124, []),
  (115, .aload_n 0, 1, .null, 0, []),
  (116, .iconst 2, 1, .int 2, 0, []),
  (117, .aload_n 0, 1, .null, 0, []),
  (118, .getfield 28, 3, .null, 0, []),
  (121, .invokevirtual 58, 3, .null, 0, []),
  (124, .iload_n 3, 1, .null, 0, []),
  (125, .ireturn, 1, .null, 0, [])]
theorem KTe_readNumber : zCode gTe_readNumber kTe_readNumber := by unfold zCode; decide +kernel
def kTe_readRow : List zR := [(0, .aload_n 0, 1, .null, 0, []),
  (1, .invokevirtual 40, 3, .null, 0, []),
  (4, .iconst 0, 1, .int 0, 0, []),
  (5, .istore_n 3, 1, .null, 0, []),
  (6, .iload_n 3, 1, .null, 0, []),
  (7, .bipush 6, 2, .int 6, 0, []),
  (9, .if_icmp .ge 83, 3, .null, 92, []),
  (12, .aload_n 0, 1, .null, 0, []),
  (13, .invokevirtual 47, 3, .null, 0, []),
  (16, .istore 4, 2, .null, 0, []),
  (18, .iload 4, 2, .null, 0, []),
  (20, .bipush 45, 2, .int 45, 0, []),
  (22, .if_icmp .eq 25, 3, .null, 47, []),
  (25, .iload 4, 2, .null, 0, []),
  (27, .bipush 97, 2, .int 97, 0, []),
  (29, .bipush 102, 2, .int 102, 0, []),
  (31, .invokestatic 118, 3, .null, 0, []),
  (34, .ifCond .ne 13, 3, .null, 47, []),
  (37, .aload_n 0, 1, .null, 0, []),
  (38, .iconst 1, 1, .int 1, 0, []),
  (39, .aload_n 0, 1, .null, 0, []),
  (40, .getfield 25, 3, .null, 0, []),
  (43, .invokevirtual 58, 3, .null, 0, []),
  (46, .return_, 1, .null, 0, []),
  (47, .aload_n 1, 1, .null, 0, []),
  (48, .getfield 128, 3, .null, 0, []),
  (51, .iload_n 2, 1, .null, 0, []),
  (52, .bipush 6, 2, .int 6, 0, []),
  (54, .imul, 1, .null, 0, []),
  (55, .iload_n 3, 1, .null, 0, []),
  (56, .iadd, 1, .null, 0, []),
  (57, .iload 4, 2, .null, 0, []),
  (59, .bipush 45, 2, .int 45, 0, []),
  (61, .if_icmp .ne 7, 3, .null, 68, []),
  (64, .iconst (-1), 1, .int (-1), 0, []),
  (65, .goto 8, 3, .null, 73, []),
  (68, .iload 4, 2, .null, 0, []),
  (70, .bipush 97, 2, .int 97, 0, []),
  (72, .isub, 1, .null, 0, []),
  (73, .invokestatic 31, 3, .null, 0, []),
  (76, .aload_n 0, 1, .null, 0, []),
  (77, .dup, 1, .null, 0, []),
  (78, .getfield 25, 3, .null, 0, []),
  (81, .iconst 1, 1, .int 1, 0, []),
  (82, .iadd, 1, .null, 0, []),
  (83, .putfield 25, 3, .null, 0, []),
  (86, .iinc 3 1, 3, .int 1, 0, []),
  (89, .goto (-83), 3, .null, 6, []),
  (92, .return_, 1, .null, 0, [])]
theorem KTe_readRow : zCode gTe_readRow kTe_readRow := by unfold zCode; decide +kernel
def kTe_readEnd : List zR := [(0, .aload_n 0, 1, .null, 0, []),
  (1, .invokevirtual 40, 3, .null, 0, []),
  (4, .aload_n 0, 1, .null, 0, []),
  (5, .invokevirtual 47, 3, .null, 0, []),
  (8, .bipush 59, 2, .int 59, 0, []),
  (10, .if_icmp .eq 12, 3, .null, 22, []),
  (13, .aload_n 0, 1, .null, 0, []),
  (14, .iconst 1, 1, .int 1, 0, []),
  (15, .aload_n 0, 1, .null, 0, []),
  (16, .getfield 25, 3, .null, 0, []),
  (19, .invokevirtual 58, 3, .null, 0, []),
  (22, .aload_n 0, 1, .null, 0, []),
  (23, .dup, 1, .null, 0, []),
  (24, .getfield 25, 3, .null, 0, []),
  (27, .iconst 1, 1, .int 1, 0, []),
  (28, .iadd, 1, .null, 0, []),
  (29, .putfield 25, 3, .null, 0, []),
  (32, .return_, 1, .null, 0, [])]
theorem KTe_readEnd : zCode gTe_readEnd kTe_readEnd := by unfold zCode; decide +kernel
def kTe_skipBlanks : List zR := [(0, .aload_n 0, 1, .null, 0, []),
  (1, .getfield 25, 3, .null, 0, []),
  (4, .aload_n 0, 1, .null, 0, []),
  (5, .getfield 15, 3, .null, 0, []),
  (8, .if_icmp .ge 25, 3, .null, 33, []),
  (11, .aload_n 0, 1, .null, 0, []),
  (12, .invokevirtual 47, 3, .null, 0, []),
  (15, .bipush 32, 2, .int 32, 0, []),
  (17, .if_icmp .ne 16, 3, .null, 33, []),
  (20, .aload_n 0, 1, .null, 0, []),
  (21, .dup, 1, .null, 0, []),
  (22, .getfield 25, 3, .null, 0, []),
  (25, .iconst 1, 1, .int 1, 0, []),
  (26, .iadd, 1, .null, 0, []),
  (27, .putfield 25, 3, .null, 0, []),
  (30, .goto (-30), 3, .null, 0, []),
  (33, .return_, 1, .null, 0, [])]
theorem KTe_skipBlanks : zCode gTe_skipBlanks kTe_skipBlanks := by unfold zCode; decide +kernel
def kTe_here : List zR := [(0, .aload_n 0, 1, .null, 0, []),
  (1, .getfield 25, 3, .null, 0, []),
  (4, .ifCond .lt 38, 3, .null, 42, []),
  (7, .aload_n 0, 1, .null, 0, []),
  (8, .getfield 25, 3, .null, 0, []),
  (11, .aload_n 0, 1, .null, 0, []),
  (12, .getfield 15, 3, .null, 0, []),
  (15, .if_icmp .ge 27, 3, .null, 42, []),
  (18, .aload_n 0, 1, .null, 0, []),
  (19, .getfield 25, 3, .null, 0, []),
  (22, .aload_n 0, 1, .null, 0, []),
  (23, .getfield 9, 3, .null, 0, []),
  (26, .arraylength, 1, .null, 0, []),
  (27, .if_icmp .ge 15, 3, .null, 42, []),
  (30, .aload_n 0, 1, .null, 0, []),
  (31, .getfield 9, 3, .null, 0, []),
  (34, .aload_n 0, 1, .null, 0, []),
  (35, .getfield 25, 3, .null, 0, []),
  (38, .iaload, 1, .null, 0, []),
  (39, .goto 4, 3, .null, 43, []),
  (42, .iconst (-1), 1, .int (-1), 0, []),
  (43, .ireturn, 1, .null, 0, [])]
theorem KTe_here : zCode gTe_here kTe_here := by unfold zCode; decide +kernel
def kTe_mark : List zR := [(0, .aload_n 0, 1, .null, 0, []),
  (1, .getfield 22, 3, .null, 0, []),
  (4, .ifCond .ne 13, 3, .null, 17, []),
  (7, .aload_n 0, 1, .null, 0, []),
  (8, .iload_n 1, 1, .null, 0, []),
  (9, .putfield 22, 3, .null, 0, []),
  (12, .aload_n 0, 1, .null, 0, []),
  (13, .iload_n 2, 1, .null, 0, []),
  (14, .putfield 19, 3, .null, 0, []),
  (17, .return_, 1, .null, 0, [])]
theorem KTe_mark : zCode gTe_mark kTe_mark := by unfold zCode; decide +kernel
def kB_init : List zR := [(0, .aload_n 0, 1, .null, 0, []),
  (1, .invokespecial 1, 3, .null, 0, []),
  (4, .aload_n 0, 1, .null, 0, []),
  (5, .new 7, 3, .null, 0, []),
  (8, .dup, 1, .null, 0, []),
  (9, .invokespecial 9, 3, .null, 0, []),
  (12, .putfield 10, 3, .null, 0, []),
  (15, .aload_n 0, 1, .null, 0, []),
  (16, .new 16, 3, .null, 0, []),
  (19, .dup, 1, .null, 0, []),
  (20, .invokespecial 18, 3, .null, 0, []),
  (23, .putfield 19, 3, .null, 0, []),
  (26, .aload_n 0, 1, .null, 0, []),
  (27, .new 16, 3, .null, 0, []),
  (30, .dup, 1, .null, 0, []),
  (31, .invokespecial 18, 3, .null, 0, []),
  (34, .putfield 23, 3, .null, 0, []),
  (37, .aload_n 0, 1, .null, 0, []),
  (38, .new 26, 3, .null, 0, []),
  (41, .dup, 1, .null, 0, []),
  (42, .invokespecial 28, 3, .null, 0, []),
  (45, .putfield 29, 3, .null, 0, []),
  (48, .aload_n 0, 1, .null, 0, []),
  (49, .new 33, 3, .null, 0, []),
  (52, .dup, 1, .null, 0, []),
  (53, .aload_n 0, 1, .null, 0, []),
  (54, .getfield 23, 3, .null, 0, []),
  (57, .aload_n 0, 1, .null, 0, []),
  (58, .getfield 29, 3, .null, 0, []),
  (61, .invokespecial 35, 3, .null, 0, []),
  (64, .putfield 38, 3, .null, 0, []),
  (67, .aload_n 0, 1, .null, 0, []),
  (68, .new 42, 3, .null, 0, []),
  (71, .dup, 1, .null, 0, []),
  (72, .aload_n 0, 1, .null, 0, []),
  (73, .getfield 23, 3, .null, 0, []),
  (76, .aload_n 0, 1, .null, 0, []),
  (77, .getfield 29, 3, .null, 0, []),
  (80, .aload_n 0, 1, .null, 0, []),
  (81, .getfield 38, 3, .null, 0, []),
  (84, .invokespecial 44, 3, .null, 0, []),
  (87, .putfield 47, 3, .null, 0, []),
  (90, .aload_n 0, 1, .null, 0, []),
  (91, .new 51, 3, .null, 0, []),
  (94, .dup, 1, .null, 0, []),
  (95, .invokespecial 53, 3, .null, 0, []),
  (98, .putfield 54, 3, .null, 0, []),
  (101, .aload_n 0, 1, .null, 0, []),
  (102, .new 58, 3, .null, 0, []),
  (105, .dup, 1, .null, 0, []),
  (106, .invokespecial 60, 3, .null, 0, []),
  (109, .putfield 61, 3, .null, 0, []),
  (112, .aload_n 0, 1, .null, 0, []),
  (113, .new 65, 3, .null, 0, []),
  (116, .dup, 1, .null, 0, []),
  (117, .invokespecial 67, 3, .null, 0, []),
  (120, .putfield 68, 3, .null, 0, []),
  (123, .aload_n 0, 1, .null, 0, []),
  (124, .new 65, 3, .null, 0, []),
  (127, .dup, 1, .null, 0, []),
  (128, .invokespecial 67, 3, .null, 0, []),
  (131, .putfield 72, 3, .null, 0, []),
  (134, .aload_n 0, 1, .null, 0, []),
  (135, .iconst (-1), 1, .int (-1), 0, []),
  (136, .putfield 75, 3, .null, 0, []),
  (139, .aload_n 0, 1, .null, 0, []),
  (140, .iconst 0, 1, .int 0, 0, []),
  (141, .putfield 79, 3, .null, 0, []),
  (144, .return_, 1, .null, 0, [])]
theorem KB_init : zCode gB_init kB_init := by unfold zCode; decide +kernel
def kB_feed : List zR := [(0, .iload_n 1, 1, .null, 0, []),
  (1, .iconst 0, 1, .int 0, 0, []),
  (2, .sipush 255, 3, .int 255, 0, []),
  (5, .invokestatic 82, 3, .null, 0, []),
  (8, .ifCond .ne 6, 3, .null, 14, []),
  (11, .ldc 86, 2, .null, 0, []),
  (13, .ireturn, 1, .null, 0, []),
  (14, .aload_n 0, 1, .null, 0, []),
  (15, .getfield 10, 3, .null, 0, []),
  (18, .getfield 87, 3, .null, 0, []),
  (21, .sipush 230, 3, .int 230, 0, []),
  (24, .if_icmp .lt 6, 3, .null, 30, []),
  (27, .ldc 90, 2, .null, 0, []),
  (29, .ireturn, 1, .null, 0, []),
  (30, .aload_n 0, 1, .null, 0, []),
  (31, .getfield 10, 3, .null, 0, []),
  (34, .iload_n 1, 1, .null, 0, []),
  (35, .invokevirtual 91, 3, .null, 0, []),
  (38, .ireturn, 1, .null, 0, [])]
theorem KB_feed : zCode gB_feed kB_feed := by unfold zCode; decide +kernel
def kB_town : List zR := [(0, .aload_n 0, 1, .null, 0, []),
  (1, .getfield 10, 3, .null, 0, []),
  (4, .aload_n 0, 1, .null, 0, []),
  (5, .getfield 19, 3, .null, 0, []),
  (8, .invokevirtual 95, 3, .null, 0, []),
  (11, .istore_n 1, 1, .null, 0, []),
  (12, .aload_n 0, 1, .null, 0, []),
  (13, .aload_n 0, 1, .null, 0, []),
  (14, .getfield 10, 3, .null, 0, []),
  (17, .getfield 99, 3, .null, 0, []),
  (20, .putfield 75, 3, .null, 0, []),
  (23, .iload_n 1, 1, .null, 0, []),
  (24, .ifCond .eq 8, 3, .null, 32, []),
  (27, .bipush (-10), 2, .int (-10), 0, []),
  (29, .iload_n 1, 1, .null, 0, []),
  (30, .isub, 1, .null, 0, []),
  (31, .ireturn, 1, .null, 0, []),
  (32, .aload_n 0, 1, .null, 0, []),
  (33, .getfield 23, 3, .null, 0, []),
  (36, .aload_n 0, 1, .null, 0, []),
  (37, .getfield 19, 3, .null, 0, []),
  (40, .invokevirtual 100, 3, .null, 0, []),
  (43, .aload_n 0, 1, .null, 0, []),
  (44, .getfield 29, 3, .null, 0, []),
  (47, .aload_n 0, 1, .null, 0, []),
  (48, .getfield 23, 3, .null, 0, []),
  (51, .invokevirtual 104, 3, .null, 0, []),
  (54, .aload_n 0, 1, .null, 0, []),
  (55, .getfield 54, 3, .null, 0, []),
  (58, .invokevirtual 107, 3, .null, 0, []),
  (61, .aload_n 0, 1, .null, 0, []),
  (62, .getfield 61, 3, .null, 0, []),
  (65, .invokevirtual 110, 3, .null, 0, []),
  (68, .aload_n 0, 1, .null, 0, []),
  (69, .getfield 68, 3, .null, 0, []),
  (72, .iconst 0, 1, .int 0, 0, []),
  (73, .putfield 113, 3, .null, 0, []),
  (76, .aload_n 0, 1, .null, 0, []),
  (77, .getfield 72, 3, .null, 0, []),
  (80, .iconst 0, 1, .int 0, 0, []),
  (81, .putfield 113, 3, .null, 0, []),
  (84, .aload_n 0, 1, .null, 0, []),
  (85, .getfield 23, 3, .null, 0, []),
  (88, .getfield 117, 3, .null, 0, []),
  (91, .ireturn, 1, .null, 0, [])]
theorem KB_town : zCode gB_town kB_town := by unfold zCode; decide +kernel
def kB_fault : List zR := [(0, .aload_n 0, 1, .null, 0, []),
  (1, .getfield 75, 3, .null, 0, []),
  (4, .ireturn, 1, .null, 0, [])]
theorem KB_fault : zCode gB_fault kB_fault := by unfold zCode; decide +kernel
def kB_told : List zR := [(0, .iload_n 1, 1, .null, 0, []),
  (1, .tableswitch 167 0 11 #[63, 79, 87, 95, 103, 111, 119, 127, 135, 143, 151, 159], 63, .null, 168, [64, 80, 88, 96, 104, 112, 120, 128, 136, 144, 152, 160]),
  (64, .aload_n 0, 1, .null, 0, []),
  (65, .getfield 23, 3, .null, 0, []),
  (68, .getfield 120, 3, .null, 0, []),
  (71, .ifCond .eq 7, 3, .null, 78, []),
  (74, .iconst 1, 1, .int 1, 0, []),
  (75, .goto 4, 3, .null, 79, []),
  (78, .iconst 0, 1, .int 0, 0, []),
  (79, .ireturn, 1, .null, 0, []),
  (80, .aload_n 0, 1, .null, 0, []),
  (81, .getfield 23, 3, .null, 0, []),
  (84, .getfield 123, 3, .null, 0, []),
  (87, .ireturn, 1, .null, 0, []),
  (88, .aload_n 0, 1, .null, 0, []),
  (89, .getfield 23, 3, .null, 0, []),
  (92, .getfield 126, 3, .null, 0, []),
  (95, .ireturn, 1, .null, 0, []),
  (96, .aload_n 0, 1, .null, 0, []),
  (97, .getfield 23, 3, .null, 0, []),
  (100, .getfield 117, 3, .null, 0, []),
  (103, .ireturn, 1, .null, 0, []),
  (104, .aload_n 0, 1, .null, 0, []),
  (105, .getfield 23, 3, .null, 0, []),
  (108, .getfield 129, 3, .null, 0, []),
  (111, .ireturn, 1, .null, 0, []),
  (112, .aload_n 0, 1, .null, 0, []),
  (113, .getfield 10, 3, .null, 0, []),
  (116, .getfield 87, 3, .null, 0, []),
  (119, .ireturn, 1, .null, 0, []),
  (120, .aload_n 0, 1, .null, 0, []),
  (121, .getfield 29, 3, .null, 0, []),
  (124, .invokevirtual 132, 3, .null, 0, []),
  (127, .ireturn, 1, .null, 0, []),
  (128, .aload_n 0, 1, .null, 0, []),
  (129, .getfield 29, 3, .null, 0, []),
  (132, .invokevirtual 136, 3, .null, 0, []),
  (135, .ireturn, 1, .null, 0, []),
  (136, .aload_n 0, 1, .null, 0, []),
  (137, .getfield 38, 3, .null, 0, []),
  (140, .invokevirtual 139, 3, .null, 0, []),
  (143, .ireturn, 1, .null, 0, []),
  (144, .aload_n 0, 1, .null, 0, []),
  (145, .getfield 61, 3, .null, 0, []),
  (148, .getfield 142, 3, .null, 0, []),
  (151, .ireturn, 1, .null, 0, []),
  (152, .aload_n 0, 1, .null, 0, []),
  (153, .getfield 61, 3, .null, 0, []),
  (156, .getfield 145, 3, .null, 0, []),
  (159, .ireturn, 1, .null, 0, []),
  (160, .aload_n 0, 1, .null, 0, []),
  (161, .getfield 54, 3, .null, 0, []),
  (164, .getfield 148, 3, .null, 0, []),
  (167, .ireturn, 1, .null, 0, []),
  (168, .ldc 86, 2, .null, 0, []),
  (170, .ireturn, 1, .null, 0, [])]
theorem KB_told : zCode gB_told kB_told := by unfold zCode; decide +kernel
def kB_man : List zR := [(0, .aload_n 0, 1, .null, 0, []),
  (1, .iload_n 1, 1, .null, 0, []),
  (2, .invokevirtual 151, 3, .null, 0, []),
  (5, .ifCond .ne 6, 3, .null, 11, []),
  (8, .ldc 155, 2, .null, 0, []),
  (10, .ireturn, 1, .null, 0, []),
  (11, .iload_n 2, 1, .null, 0, []),
  (12, .tableswitch 126 0 10 #[60, 72, 84, 96, 105, 114, 114, 114, 114, 114, 114], 60, .null, 138, [72, 84, 96, 108, 117, 126, 126, 126, 126, 126, 126]),
  (72, .aload_n 0, 1, .null, 0, []),
  (73, .getfield 23, 3, .null, 0, []),
  (76, .getfield 156, 3, .null, 0, []),
  (79, .iload_n 1, 1, .null, 0, []),
  (80, .invokestatic 160, 3, .null, 0, []),
  (83, .ireturn, 1, .null, 0, []),
  (84, .aload_n 0, 1, .null, 0, []),
  (85, .getfield 23, 3, .null, 0, []),
  (88, .getfield 164, 3, .null, 0, []),
  (91, .iload_n 1, 1, .null, 0, []),
  (92, .invokestatic 160, 3, .null, 0, []),
  (95, .ireturn, 1, .null, 0, []),
  (96, .aload_n 0, 1, .null, 0, []),
  (97, .getfield 23, 3, .null, 0, []),
  (100, .getfield 167, 3, .null, 0, []),
  (103, .iload_n 1, 1, .null, 0, []),
  (104, .invokestatic 160, 3, .null, 0, []),
  (107, .ireturn, 1, .null, 0, []),
  (108, .aload_n 0, 1, .null, 0, []),
  (109, .getfield 29, 3, .null, 0, []),
  (112, .iload_n 1, 1, .null, 0, []),
  (113, .invokevirtual 170, 3, .null, 0, []),
  (116, .ireturn, 1, .null, 0, []),
  (117, .aload_n 0, 1, .null, 0, []),
  (118, .getfield 38, 3, .null, 0, []),
  (121, .iload_n 1, 1, .null, 0, []),
  (122, .invokevirtual 173, 3, .null, 0, []),
  (125, .ireturn, 1, .null, 0, []),
  (126, .aload_n 0, 1, .null, 0, []),
  (127, .getfield 29, 3, .null, 0, []),
  (130, .iload_n 1, 1, .null, 0, []),
  (131, .iload_n 2, 1, .null, 0, []),
  (132, .iconst 5, 1, .int 5, 0, []),
  (133, .isub, 1, .null, 0, []),
  (134, .invokevirtual 176, 3, .null, 0, []),
  (137, .ireturn, 1, .null, 0, []),
  (138, .ldc 86, 2, .null, 0, []),
  (140, .ireturn, 1, .null, 0, [])]
theorem KB_man : zCode gB_man kB_man := by unfold zCode; decide +kernel
def kB_mishap : List zR := [(0, .aload_n 0, 1, .null, 0, []),
  (1, .iload_n 1, 1, .null, 0, []),
  (2, .invokevirtual 180, 3, .null, 0, []),
  (5, .ifCond .ne 6, 3, .null, 11, []),
  (8, .ldc 155, 2, .null, 0, []),
  (10, .ireturn, 1, .null, 0, []),
  (11, .iload_n 2, 1, .null, 0, []),
  (12, .tableswitch 125 0 6 #[44, 56, 68, 80, 92, 104, 116], 44, .null, 137, [56, 68, 80, 92, 104, 116, 128]),
  (56, .aload_n 0, 1, .null, 0, []),
  (57, .getfield 23, 3, .null, 0, []),
  (60, .getfield 183, 3, .null, 0, []),
  (63, .iload_n 1, 1, .null, 0, []),
  (64, .invokestatic 160, 3, .null, 0, []),
  (67, .ireturn, 1, .null, 0, []),
  (68, .aload_n 0, 1, .null, 0, []),
  (69, .getfield 23, 3, .null, 0, []),
  (72, .getfield 186, 3, .null, 0, []),
  (75, .iload_n 1, 1, .null, 0, []),
  (76, .invokestatic 160, 3, .null, 0, []),
  (79, .ireturn, 1, .null, 0, []),
  (80, .aload_n 0, 1, .null, 0, []),
  (81, .getfield 23, 3, .null, 0, []),
  (84, .getfield 189, 3, .null, 0, []),
  (87, .iload_n 1, 1, .null, 0, []),
  (88, .invokestatic 160, 3, .null, 0, []),
  (91, .ireturn, 1, .null, 0, []),
  (92, .aload_n 0, 1, .null, 0, []),
  (93, .getfield 23, 3, .null, 0, []),
  (96, .getfield 192, 3, .null, 0, []),
  (99, .iload_n 1, 1, .null, 0, []),
  (100, .invokestatic 160, 3, .null, 0, []),
  (103, .ireturn, 1, .null, 0, []),
  (104, .aload_n 0, 1, .null, 0, []),
  (105, .getfield 23, 3, .null, 0, []),
  (108, .getfield 195, 3, .null, 0, []),
  (111, .iload_n 1, 1, .null, 0, []),
  (112, .invokestatic 160, 3, .null, 0, []),
  (115, .ireturn, 1, .null, 0, []),
  (116, .aload_n 0, 1, .null, 0, []),
  (117, .getfield 23, 3, .null, 0, []),
  (120, .getfield 198, 3, .null, 0, []),
  (123, .iload_n 1, 1, .null, 0, []),
  (124, .invokestatic 160, 3, .null, 0, []),
  (127, .ireturn, 1, .null, 0, []),
  (128, .aload_n 0, 1, .null, 0, []),
  (129, .getfield 29, 3, .null, 0, []),
  (132, .iload_n 1, 1, .null, 0, []),
  (133, .invokevirtual 201, 3, .null, 0, []),
  (136, .ireturn, 1, .null, 0, []),
  (137, .ldc 86, 2, .null, 0, []),
  (139, .ireturn, 1, .null, 0, [])]
theorem KB_mishap : zCode gB_mishap kB_mishap := by unfold zCode; decide +kernel
def kB_belief : List zR := [(0, .aload_n 0, 1, .null, 0, []),
  (1, .iload_n 1, 1, .null, 0, []),
  (2, .invokevirtual 151, 3, .null, 0, []),
  (5, .ifCond .eq 11, 3, .null, 16, []),
  (8, .aload_n 0, 1, .null, 0, []),
  (9, .iload_n 2, 1, .null, 0, []),
  (10, .invokevirtual 180, 3, .null, 0, []),
  (13, .ifCond .ne 6, 3, .null, 19, []),
  (16, .ldc 155, 2, .null, 0, []),
  (18, .ireturn, 1, .null, 0, []),
  (19, .aload_n 0, 1, .null, 0, []),
  (20, .getfield 29, 3, .null, 0, []),
  (23, .iload_n 1, 1, .null, 0, []),
  (24, .aload_n 0, 1, .null, 0, []),
  (25, .getfield 23, 3, .null, 0, []),
  (28, .getfield 186, 3, .null, 0, []),
  (31, .iload_n 2, 1, .null, 0, []),
  (32, .invokestatic 160, 3, .null, 0, []),
  (35, .invokevirtual 176, 3, .null, 0, []),
  (38, .istore_n 3, 1, .null, 0, []),
  (39, .aload_n 0, 1, .null, 0, []),
  (40, .getfield 38, 3, .null, 0, []),
  (43, .iload_n 3, 1, .null, 0, []),
  (44, .iload_n 2, 1, .null, 0, []),
  (45, .invokevirtual 204, 3, .null, 0, []),
  (48, .ifCond .eq 15, 3, .null, 63, []),
  (51, .aload_n 0, 1, .null, 0, []),
  (52, .getfield 38, 3, .null, 0, []),
  (55, .iload_n 1, 1, .null, 0, []),
  (56, .iload_n 2, 1, .null, 0, []),
  (57, .invokevirtual 208, 3, .null, 0, []),
  (60, .ifCond .ne 5, 3, .null, 65, []),
  (63, .iconst 0, 1, .int 0, 0, []),
  (64, .ireturn, 1, .null, 0, []),
  (65, .aload_n 0, 1, .null, 0, []),
  (66, .getfield 38, 3, .null, 0, []),
  (69, .iload_n 1, 1, .null, 0, []),
  (70, .iload_n 2, 1, .null, 0, []),
  (71, .iload_n 3, 1, .null, 0, []),
  (72, .invokevirtual 211, 3, .null, 0, []),
  (75, .aload_n 0, 1, .null, 0, []),
  (76, .getfield 29, 3, .null, 0, []),
  (79, .iload_n 1, 1, .null, 0, []),
  (80, .invokevirtual 170, 3, .null, 0, []),
  (83, .isub, 1, .null, 0, []),
  (84, .bipush 10, 2, .int 10, 0, []),
  (86, .iadd, 1, .null, 0, []),
  (87, .ireturn, 1, .null, 0, [])]
theorem KB_belief : zCode gB_belief kB_belief := by unfold zCode; decide +kernel
def kB_blame : List zR := [(0, .aload_n 0, 1, .null, 0, []),
  (1, .iload_n 1, 1, .null, 0, []),
  (2, .invokevirtual 151, 3, .null, 0, []),
  (5, .ifCond .eq 11, 3, .null, 16, []),
  (8, .aload_n 0, 1, .null, 0, []),
  (9, .iload_n 2, 1, .null, 0, []),
  (10, .invokevirtual 180, 3, .null, 0, []),
  (13, .ifCond .ne 6, 3, .null, 19, []),
  (16, .ldc 155, 2, .null, 0, []),
  (18, .ireturn, 1, .null, 0, []),
  (19, .aload_n 0, 1, .null, 0, []),
  (20, .getfield 38, 3, .null, 0, []),
  (23, .iload_n 1, 1, .null, 0, []),
  (24, .iload_n 2, 1, .null, 0, []),
  (25, .invokevirtual 215, 3, .null, 0, []),
  (28, .ifCond .ne 6, 3, .null, 34, []),
  (31, .ldc 218, 2, .null, 0, []),
  (33, .ireturn, 1, .null, 0, []),
  (34, .aload_n 0, 1, .null, 0, []),
  (35, .getfield 54, 3, .null, 0, []),
  (38, .aload_n 0, 1, .null, 0, []),
  (39, .getfield 29, 3, .null, 0, []),
  (42, .invokevirtual 219, 3, .null, 0, []),
  (45, .aload_n 0, 1, .null, 0, []),
  (46, .iload_n 1, 1, .null, 0, []),
  (47, .iload_n 2, 1, .null, 0, []),
  (48, .invokevirtual 223, 3, .null, 0, []),
  (51, .aload_n 0, 1, .null, 0, []),
  (52, .getfield 23, 3, .null, 0, []),
  (55, .getfield 167, 3, .null, 0, []),
  (58, .iload_n 1, 1, .null, 0, []),
  (59, .invokestatic 160, 3, .null, 0, []),
  (62, .ireturn, 1, .null, 0, [])]
theorem KB_blame : zCode gB_blame kB_blame := by unfold zCode; decide +kernel
def kB_clear : List zR := [(0, .aload_n 0, 1, .null, 0, []),
  (1, .iload_n 1, 1, .null, 0, []),
  (2, .invokevirtual 151, 3, .null, 0, []),
  (5, .ifCond .eq 11, 3, .null, 16, []),
  (8, .aload_n 0, 1, .null, 0, []),
  (9, .iload_n 2, 1, .null, 0, []),
  (10, .invokevirtual 180, 3, .null, 0, []),
  (13, .ifCond .ne 6, 3, .null, 19, []),
  (16, .ldc 155, 2, .null, 0, []),
  (18, .ireturn, 1, .null, 0, []),
  (19, .aload_n 0, 1, .null, 0, []),
  (20, .getfield 29, 3, .null, 0, []),
  (23, .iload_n 2, 1, .null, 0, []),
  (24, .invokevirtual 201, 3, .null, 0, []),
  (27, .iload_n 1, 1, .null, 0, []),
  (28, .invokestatic 227, 3, .null, 0, []),
  (31, .ifCond .ne 6, 3, .null, 37, []),
  (34, .ldc 218, 2, .null, 0, []),
  (36, .ireturn, 1, .null, 0, []),
  (37, .aload_n 0, 1, .null, 0, []),
  (38, .getfield 54, 3, .null, 0, []),
  (41, .aload_n 0, 1, .null, 0, []),
  (42, .getfield 29, 3, .null, 0, []),
  (45, .invokevirtual 219, 3, .null, 0, []),
  (48, .aload_n 0, 1, .null, 0, []),
  (49, .getfield 29, 3, .null, 0, []),
  (52, .iload_n 2, 1, .null, 0, []),
  (53, .aload_n 0, 1, .null, 0, []),
  (54, .getfield 29, 3, .null, 0, []),
  (57, .iload_n 2, 1, .null, 0, []),
  (58, .invokevirtual 201, 3, .null, 0, []),
  (61, .iconst 1, 1, .int 1, 0, []),
  (62, .iload_n 1, 1, .null, 0, []),
  (63, .ishl, 1, .null, 0, []),
  (64, .iconst (-1), 1, .int (-1), 0, []),
  (65, .ixor, 1, .null, 0, []),
  (66, .iand, 1, .null, 0, []),
  (67, .invokevirtual 230, 3, .null, 0, []),
  (70, .aload_n 0, 1, .null, 0, []),
  (71, .getfield 29, 3, .null, 0, []),
  (74, .iload_n 1, 1, .null, 0, []),
  (75, .iconst (-1), 1, .int (-1), 0, []),
  (76, .invokevirtual 233, 3, .null, 0, []),
  (79, .aload_n 0, 1, .null, 0, []),
  (80, .getfield 29, 3, .null, 0, []),
  (83, .iload_n 1, 1, .null, 0, []),
  (84, .invokevirtual 170, 3, .null, 0, []),
  (87, .ireturn, 1, .null, 0, [])]
theorem KB_clear : zCode gB_clear kB_clear := by unfold zCode; decide +kernel
def kB_walk : List zR := [(0, .aload_n 0, 1, .null, 0, []),
  (1, .iload_n 1, 1, .null, 0, []),
  (2, .invokevirtual 151, 3, .null, 0, []),
  (5, .ifCond .ne 6, 3, .null, 11, []),
  (8, .ldc 155, 2, .null, 0, []),
  (10, .ireturn, 1, .null, 0, []),
  (11, .iload_n 2, 1, .null, 0, []),
  (12, .invokestatic 236, 3, .null, 0, []),
  (15, .ifCond .eq 10, 3, .null, 25, []),
  (18, .iload_n 3, 1, .null, 0, []),
  (19, .invokestatic 239, 3, .null, 0, []),
  (22, .ifCond .ne 6, 3, .null, 28, []),
  (25, .ldc 86, 2, .null, 0, []),
  (27, .ireturn, 1, .null, 0, []),
  (28, .aload_n 0, 1, .null, 0, []),
  (29, .getfield 54, 3, .null, 0, []),
  (32, .aload_n 0, 1, .null, 0, []),
  (33, .getfield 29, 3, .null, 0, []),
  (36, .invokevirtual 219, 3, .null, 0, []),
  (39, .aload_n 0, 1, .null, 0, []),
  (40, .getfield 29, 3, .null, 0, []),
  (43, .iload_n 1, 1, .null, 0, []),
  (44, .iload_n 2, 1, .null, 0, []),
  (45, .invokevirtual 176, 3, .null, 0, []),
  (48, .istore 4, 2, .null, 0, []),
  (50, .aload_n 0, 1, .null, 0, []),
  (51, .getfield 29, 3, .null, 0, []),
  (54, .iload_n 1, 1, .null, 0, []),
  (55, .iload_n 2, 1, .null, 0, []),
  (56, .iload_n 3, 1, .null, 0, []),
  (57, .invokevirtual 242, 3, .null, 0, []),
  (60, .iload 4, 2, .null, 0, []),
  (62, .ireturn, 1, .null, 0, [])]
theorem KB_walk : zCode gB_walk kB_walk := by unfold zCode; decide +kernel
def kB_sunset : List zR := [(0, .aload_n 0, 1, .null, 0, []),
  (1, .getfield 23, 3, .null, 0, []),
  (4, .getfield 120, 3, .null, 0, []),
  (7, .ifCond .ne 6, 3, .null, 13, []),
  (10, .ldc 218, 2, .null, 0, []),
  (12, .ireturn, 1, .null, 0, []),
  (13, .aload_n 0, 1, .null, 0, []),
  (14, .getfield 29, 3, .null, 0, []),
  (17, .invokevirtual 132, 3, .null, 0, []),
  (20, .sipush 9000, 3, .int 9000, 0, []),
  (23, .if_icmp .le 6, 3, .null, 29, []),
  (26, .ldc 90, 2, .null, 0, []),
  (28, .ireturn, 1, .null, 0, []),
  (29, .aload_n 0, 1, .null, 0, []),
  (30, .getfield 54, 3, .null, 0, []),
  (33, .aload_n 0, 1, .null, 0, []),
  (34, .getfield 29, 3, .null, 0, []),
  (37, .invokevirtual 219, 3, .null, 0, []),
  (40, .aload_n 0, 1, .null, 0, []),
  (41, .invokevirtual 246, 3, .null, 0, []),
  (44, .ireturn, 1, .null, 0, [])]
theorem KB_sunset : zCode gB_sunset kB_sunset := by unfold zCode; decide +kernel
def kB_drift : List zR := [(0, .iload_n 1, 1, .null, 0, []),
  (1, .iconst 1, 1, .int 1, 0, []),
  (2, .bipush 20, 2, .int 20, 0, []),
  (4, .invokestatic 82, 3, .null, 0, []),
  (7, .ifCond .ne 6, 3, .null, 13, []),
  (10, .ldc 86, 2, .null, 0, []),
  (12, .ireturn, 1, .null, 0, []),
  (13, .aload_n 0, 1, .null, 0, []),
  (14, .getfield 23, 3, .null, 0, []),
  (17, .getfield 120, 3, .null, 0, []),
  (20, .ifCond .ne 6, 3, .null, 26, []),
  (23, .ldc 218, 2, .null, 0, []),
  (25, .ireturn, 1, .null, 0, []),
  (26, .aload_n 0, 1, .null, 0, []),
  (27, .getfield 29, 3, .null, 0, []),
  (30, .invokevirtual 132, 3, .null, 0, []),
  (33, .sipush 9000, 3, .int 9000, 0, []),
  (36, .if_icmp .le 6, 3, .null, 42, []),
  (39, .ldc 90, 2, .null, 0, []),
  (41, .ireturn, 1, .null, 0, []),
  (42, .iconst 0, 1, .int 0, 0, []),
  (43, .istore_n 2, 1, .null, 0, []),
  (44, .iload_n 2, 1, .null, 0, []),
  (45, .iload_n 1, 1, .null, 0, []),
  (46, .if_icmp .ge 49, 3, .null, 95, []),
  (49, .aload_n 0, 1, .null, 0, []),
  (50, .getfield 54, 3, .null, 0, []),
  (53, .aload_n 0, 1, .null, 0, []),
  (54, .getfield 29, 3, .null, 0, []),
  (57, .invokevirtual 219, 3, .null, 0, []),
  (60, .iconst 0, 1, .int 0, 0, []),
  (61, .istore_n 3, 1, .null, 0, []),
  (62, .iload_n 3, 1, .null, 0, []),
  (63, .aload_n 0, 1, .null, 0, []),
  (64, .getfield 23, 3, .null, 0, []),
  (67, .getfield 129, 3, .null, 0, []),
  (70, .if_icmp .ge 14, 3, .null, 84, []),
  (73, .aload_n 0, 1, .null, 0, []),
  (74, .iload_n 3, 1, .null, 0, []),
  (75, .invokevirtual 249, 3, .null, 0, []),
  (78, .iinc 3 1, 3, .int 1, 0, []),
  (81, .goto (-19), 3, .null, 62, []),
  (84, .aload_n 0, 1, .null, 0, []),
  (85, .invokevirtual 246, 3, .null, 0, []),
  (88, .pop, 1, .null, 0, []),
  (89, .iinc 2 1, 3, .int 1, 0, []),
  (92, .goto (-48), 3, .null, 44, []),
  (95, .aload_n 0, 1, .null, 0, []),
  (96, .getfield 29, 3, .null, 0, []),
  (99, .invokevirtual 136, 3, .null, 0, []),
  (102, .ireturn, 1, .null, 0, [])]
theorem KB_drift : zCode gB_drift kB_drift := by unfold zCode; decide +kernel
def kB_undo : List zR := [(0, .iload_n 1, 1, .null, 0, []),
  (1, .iconst 1, 1, .int 1, 0, []),
  (2, .bipush 30, 2, .int 30, 0, []),
  (4, .invokestatic 82, 3, .null, 0, []),
  (7, .ifCond .ne 6, 3, .null, 13, []),
  (10, .ldc 86, 2, .null, 0, []),
  (12, .ireturn, 1, .null, 0, []),
  (13, .iload_n 1, 1, .null, 0, []),
  (14, .aload_n 0, 1, .null, 0, []),
  (15, .getfield 54, 3, .null, 0, []),
  (18, .getfield 148, 3, .null, 0, []),
  (21, .if_icmp .le 6, 3, .null, 27, []),
  (24, .ldc 218, 2, .null, 0, []),
  (26, .ireturn, 1, .null, 0, []),
  (27, .aload_n 0, 1, .null, 0, []),
  (28, .getfield 54, 3, .null, 0, []),
  (31, .iload_n 1, 1, .null, 0, []),
  (32, .aload_n 0, 1, .null, 0, []),
  (33, .getfield 29, 3, .null, 0, []),
  (36, .invokevirtual 253, 3, .null, 0, []),
  (39, .aload_n 0, 1, .null, 0, []),
  (40, .getfield 29, 3, .null, 0, []),
  (43, .invokevirtual 132, 3, .null, 0, []),
  (46, .ireturn, 1, .null, 0, [])]
theorem KB_undo : zCode gB_undo kB_undo := by unfold zCode; decide +kernel
def kB_may : List zR := [(0, .aload_n 0, 1, .null, 0, []),
  (1, .iload_n 1, 1, .null, 0, []),
  (2, .invokevirtual 180, 3, .null, 0, []),
  (5, .ifCond .eq 14, 3, .null, 19, []),
  (8, .aload_n 0, 1, .null, 0, []),
  (9, .getfield 38, 3, .null, 0, []),
  (12, .iload_n 1, 1, .null, 0, []),
  (13, .invokevirtual 257, 3, .null, 0, []),
  (16, .goto 5, 3, .null, 21, []),
  (19, .ldc 155, 2, .null, 0, []),
  (21, .ireturn, 1, .null, 0, [])]
theorem KB_may : zCode gB_may kB_may := by unfold zCode; decide +kernel
def kB_orphans : List zR := [(0, .iconst 0, 1, .int 0, 0, []),
  (1, .istore_n 1, 1, .null, 0, []),
  (2, .iconst 0, 1, .int 0, 0, []),
  (3, .istore_n 2, 1, .null, 0, []),
  (4, .iload_n 2, 1, .null, 0, []),
  (5, .aload_n 0, 1, .null, 0, []),
  (6, .getfield 23, 3, .null, 0, []),
  (9, .getfield 129, 3, .null, 0, []),
  (12, .if_icmp .ge 37, 3, .null, 49, []),
  (15, .aload_n 0, 1, .null, 0, []),
  (16, .getfield 38, 3, .null, 0, []),
  (19, .iload_n 2, 1, .null, 0, []),
  (20, .invokevirtual 260, 3, .null, 0, []),
  (23, .ifCond .le 20, 3, .null, 43, []),
  (26, .aload_n 0, 1, .null, 0, []),
  (27, .getfield 38, 3, .null, 0, []),
  (30, .iload_n 2, 1, .null, 0, []),
  (31, .invokevirtual 257, 3, .null, 0, []),
  (34, .ifCond .ne 9, 3, .null, 43, []),
  (37, .iload_n 1, 1, .null, 0, []),
  (38, .iconst 1, 1, .int 1, 0, []),
  (39, .iload_n 2, 1, .null, 0, []),
  (40, .ishl, 1, .null, 0, []),
  (41, .ior, 1, .null, 0, []),
  (42, .istore_n 1, 1, .null, 0, []),
  (43, .iinc 2 1, 3, .int 1, 0, []),
  (46, .goto (-42), 3, .null, 4, []),
  (49, .iload_n 1, 1, .null, 0, []),
  (50, .ireturn, 1, .null, 0, [])]
theorem KB_orphans : zCode gB_orphans kB_orphans := by unfold zCode; decide +kernel
def kB_shared : List zR := [(0, .iload_n 1, 1, .null, 0, []),
  (1, .iconst (-1), 1, .int (-1), 0, []),
  (2, .if_icmp .eq 14, 3, .null, 16, []),
  (5, .aload_n 0, 1, .null, 0, []),
  (6, .iload_n 1, 1, .null, 0, []),
  (7, .invokevirtual 180, 3, .null, 0, []),
  (10, .ifCond .ne 6, 3, .null, 16, []),
  (13, .ldc 155, 2, .null, 0, []),
  (15, .ireturn, 1, .null, 0, []),
  (16, .aload_n 0, 1, .null, 0, []),
  (17, .getfield 47, 3, .null, 0, []),
  (20, .invokevirtual 263, 3, .null, 0, []),
  (23, .iload_n 1, 1, .null, 0, []),
  (24, .iconst (-1), 1, .int (-1), 0, []),
  (25, .if_icmp .ne 13, 3, .null, 38, []),
  (28, .aload_n 0, 1, .null, 0, []),
  (29, .getfield 47, 3, .null, 0, []),
  (32, .getfield 266, 3, .null, 0, []),
  (35, .goto 14, 3, .null, 49, []),
  (38, .aload_n 0, 1, .null, 0, []),
  (39, .getfield 47, 3, .null, 0, []),
  (42, .getfield 269, 3, .null, 0, []),
  (45, .iload_n 1, 1, .null, 0, []),
  (46, .invokestatic 160, 3, .null, 0, []),
  (49, .ireturn, 1, .null, 0, [])]
theorem KB_shared : zCode gB_shared kB_shared := by unfold zCode; decide +kernel
def kB_cheapest : List zR := [(0, .aload_n 0, 1, .null, 0, []),
  (1, .iload_n 1, 1, .null, 0, []),
  (2, .invokevirtual 180, 3, .null, 0, []),
  (5, .ifCond .eq 14, 3, .null, 19, []),
  (8, .aload_n 0, 1, .null, 0, []),
  (9, .getfield 38, 3, .null, 0, []),
  (12, .iload_n 1, 1, .null, 0, []),
  (13, .invokevirtual 272, 3, .null, 0, []),
  (16, .goto 5, 3, .null, 21, []),
  (19, .ldc 155, 2, .null, 0, []),
  (21, .ireturn, 1, .null, 0, [])]
theorem KB_cheapest : zCode gB_cheapest kB_cheapest := by unfold zCode; decide +kernel
def kB_culprits : List zR := [(0, .aload_n 0, 1, .null, 0, []),
  (1, .iload_n 1, 1, .null, 0, []),
  (2, .invokevirtual 180, 3, .null, 0, []),
  (5, .ifCond .ne 6, 3, .null, 11, []),
  (8, .ldc 155, 2, .null, 0, []),
  (10, .ireturn, 1, .null, 0, []),
  (11, .iconst 0, 1, .int 0, 0, []),
  (12, .istore_n 2, 1, .null, 0, []),
  (13, .iconst 0, 1, .int 0, 0, []),
  (14, .istore_n 3, 1, .null, 0, []),
  (15, .iload_n 3, 1, .null, 0, []),
  (16, .aload_n 0, 1, .null, 0, []),
  (17, .getfield 23, 3, .null, 0, []),
  (20, .getfield 117, 3, .null, 0, []),
  (23, .if_icmp .ge 72, 3, .null, 95, []),
  (26, .aload_n 0, 1, .null, 0, []),
  (27, .getfield 29, 3, .null, 0, []),
  (30, .iload_n 3, 1, .null, 0, []),
  (31, .aload_n 0, 1, .null, 0, []),
  (32, .getfield 23, 3, .null, 0, []),
  (35, .getfield 186, 3, .null, 0, []),
  (38, .iload_n 1, 1, .null, 0, []),
  (39, .invokestatic 160, 3, .null, 0, []),
  (42, .invokevirtual 176, 3, .null, 0, []),
  (45, .aload_n 0, 1, .null, 0, []),
  (46, .getfield 23, 3, .null, 0, []),
  (49, .getfield 183, 3, .null, 0, []),
  (52, .iload_n 1, 1, .null, 0, []),
  (53, .invokestatic 160, 3, .null, 0, []),
  (56, .if_icmp .ne 7, 3, .null, 63, []),
  (59, .iconst 1, 1, .int 1, 0, []),
  (60, .goto 4, 3, .null, 64, []),
  (63, .iconst 0, 1, .int 0, 0, []),
  (64, .istore 4, 2, .null, 0, []),
  (66, .iload 4, 2, .null, 0, []),
  (68, .ifCond .eq 21, 3, .null, 89, []),
  (71, .aload_n 0, 1, .null, 0, []),
  (72, .getfield 38, 3, .null, 0, []),
  (75, .iload_n 3, 1, .null, 0, []),
  (76, .iload_n 1, 1, .null, 0, []),
  (77, .invokevirtual 208, 3, .null, 0, []),
  (80, .ifCond .eq 9, 3, .null, 89, []),
  (83, .iload_n 2, 1, .null, 0, []),
  (84, .iconst 1, 1, .int 1, 0, []),
  (85, .iload_n 3, 1, .null, 0, []),
  (86, .ishl, 1, .null, 0, []),
  (87, .ior, 1, .null, 0, []),
  (88, .istore_n 2, 1, .null, 0, []),
  (89, .iinc 3 1, 3, .int 1, 0, []),
  (92, .goto (-77), 3, .null, 15, []),
  (95, .iload_n 2, 1, .null, 0, []),
  (96, .ireturn, 1, .null, 0, [])]
theorem KB_culprits : zCode gB_culprits kB_culprits := by unfold zCode; decide +kernel
def kB_idle : List zR := [(0, .iconst 0, 1, .int 0, 0, []),
  (1, .istore_n 1, 1, .null, 0, []),
  (2, .iconst 0, 1, .int 0, 0, []),
  (3, .istore_n 2, 1, .null, 0, []),
  (4, .iload_n 2, 1, .null, 0, []),
  (5, .aload_n 0, 1, .null, 0, []),
  (6, .getfield 23, 3, .null, 0, []),
  (9, .getfield 117, 3, .null, 0, []),
  (12, .if_icmp .ge 26, 3, .null, 38, []),
  (15, .aload_n 0, 1, .null, 0, []),
  (16, .getfield 38, 3, .null, 0, []),
  (19, .iload_n 2, 1, .null, 0, []),
  (20, .invokevirtual 173, 3, .null, 0, []),
  (23, .ifCond .ne 9, 3, .null, 32, []),
  (26, .iload_n 1, 1, .null, 0, []),
  (27, .iconst 1, 1, .int 1, 0, []),
  (28, .iload_n 2, 1, .null, 0, []),
  (29, .ishl, 1, .null, 0, []),
  (30, .ior, 1, .null, 0, []),
  (31, .istore_n 1, 1, .null, 0, []),
  (32, .iinc 2 1, 3, .int 1, 0, []),
  (35, .goto (-31), 3, .null, 4, []),
  (38, .iload_n 1, 1, .null, 0, []),
  (39, .ireturn, 1, .null, 0, [])]
theorem KB_idle : zCode gB_idle kB_idle := by unfold zCode; decide +kernel
def kB_nearer : List zR := [(0, .aload_n 0, 1, .null, 0, []),
  (1, .iload_n 1, 1, .null, 0, []),
  (2, .invokevirtual 151, 3, .null, 0, []),
  (5, .ifCond .eq 11, 3, .null, 16, []),
  (8, .aload_n 0, 1, .null, 0, []),
  (9, .iload_n 2, 1, .null, 0, []),
  (10, .invokevirtual 180, 3, .null, 0, []),
  (13, .ifCond .ne 6, 3, .null, 19, []),
  (16, .ldc 155, 2, .null, 0, []),
  (18, .ireturn, 1, .null, 0, []),
  (19, .iload_n 3, 1, .null, 0, []),
  (20, .ifCond .eq 11, 3, .null, 31, []),
  (23, .iload_n 3, 1, .null, 0, []),
  (24, .iconst 1, 1, .int 1, 0, []),
  (25, .if_icmp .eq 6, 3, .null, 31, []),
  (28, .ldc 86, 2, .null, 0, []),
  (30, .ireturn, 1, .null, 0, []),
  (31, .aload_n 0, 1, .null, 0, []),
  (32, .getfield 29, 3, .null, 0, []),
  (35, .iload_n 1, 1, .null, 0, []),
  (36, .aload_n 0, 1, .null, 0, []),
  (37, .getfield 23, 3, .null, 0, []),
  (40, .getfield 186, 3, .null, 0, []),
  (43, .iload_n 2, 1, .null, 0, []),
  (44, .invokestatic 160, 3, .null, 0, []),
  (47, .invokevirtual 176, 3, .null, 0, []),
  (50, .istore 4, 2, .null, 0, []),
  (52, .aload_n 0, 1, .null, 0, []),
  (53, .getfield 38, 3, .null, 0, []),
  (56, .iload_n 1, 1, .null, 0, []),
  (57, .iload_n 2, 1, .null, 0, []),
  (58, .iload 4, 2, .null, 0, []),
  (60, .invokevirtual 275, 3, .null, 0, []),
  (63, .istore 5, 2, .null, 0, []),
  (65, .iload 5, 2, .null, 0, []),
  (67, .iconst (-1), 1, .int (-1), 0, []),
  (68, .if_icmp .eq 8, 3, .null, 76, []),
  (71, .iload_n 3, 1, .null, 0, []),
  (72, .iconst 1, 1, .int 1, 0, []),
  (73, .if_icmp .ne 6, 3, .null, 79, []),
  (76, .iload 5, 2, .null, 0, []),
  (78, .ireturn, 1, .null, 0, []),
  (79, .iload 5, 2, .null, 0, []),
  (81, .iload 4, 2, .null, 0, []),
  (83, .isub, 1, .null, 0, []),
  (84, .invokestatic 278, 3, .null, 0, []),
  (87, .ireturn, 1, .null, 0, [])]
theorem KB_nearer : zCode gB_nearer kB_nearer := by unfold zCode; decide +kernel
def kB_chain : List zR := [(0, .aload_n 0, 1, .null, 0, []),
  (1, .iload_n 1, 1, .null, 0, []),
  (2, .invokevirtual 180, 3, .null, 0, []),
  (5, .ifCond .ne 6, 3, .null, 11, []),
  (8, .ldc 155, 2, .null, 0, []),
  (10, .ireturn, 1, .null, 0, []),
  (11, .iload_n 2, 1, .null, 0, []),
  (12, .tableswitch 55 0 2 #[28, 37, 46], 28, .null, 67, [40, 49, 58]),
  (40, .aload_n 0, 1, .null, 0, []),
  (41, .getfield 23, 3, .null, 0, []),
  (44, .iload_n 1, 1, .null, 0, []),
  (45, .invokevirtual 283, 3, .null, 0, []),
  (48, .ireturn, 1, .null, 0, []),
  (49, .aload_n 0, 1, .null, 0, []),
  (50, .getfield 23, 3, .null, 0, []),
  (53, .iload_n 1, 1, .null, 0, []),
  (54, .invokevirtual 286, 3, .null, 0, []),
  (57, .ireturn, 1, .null, 0, []),
  (58, .aload_n 0, 1, .null, 0, []),
  (59, .getfield 23, 3, .null, 0, []),
  (62, .iload_n 1, 1, .null, 0, []),
  (63, .invokevirtual 289, 3, .null, 0, []),
  (66, .ireturn, 1, .null, 0, []),
  (67, .ldc 86, 2, .null, 0, []),
  (69, .ireturn, 1, .null, 0, [])]
theorem KB_chain : zCode gB_chain kB_chain := by unfold zCode; decide +kernel
def kB_quiet : List zR := [(0, .iload_n 1, 1, .null, 0, []),
  (1, .iconst 0, 1, .int 0, 0, []),
  (2, .bipush 60, 2, .int 60, 0, []),
  (4, .invokestatic 82, 3, .null, 0, []),
  (7, .ifCond .eq 13, 3, .null, 20, []),
  (10, .iload_n 2, 1, .null, 0, []),
  (11, .iconst 0, 1, .int 0, 0, []),
  (12, .bipush 100, 2, .int 100, 0, []),
  (14, .invokestatic 82, 3, .null, 0, []),
  (17, .ifCond .ne 6, 3, .null, 23, []),
  (20, .ldc 86, 2, .null, 0, []),
  (22, .ireturn, 1, .null, 0, []),
  (23, .ldc2_w 292, 3, .null, 0, []),
  (26, .lstore_n 3, 1, .null, 0, []),
  (27, .iload_n 1, 1, .null, 0, []),
  (28, .aload_n 0, 1, .null, 0, []),
  (29, .getfield 23, 3, .null, 0, []),
  (32, .getfield 129, 3, .null, 0, []),
  (35, .imul, 1, .null, 0, []),
  (36, .istore 5, 2, .null, 0, []),
  (38, .iconst 0, 1, .int 0, 0, []),
  (39, .istore 6, 2, .null, 0, []),
  (41, .iload 6, 2, .null, 0, []),
  (43, .iload 5, 2, .null, 0, []),
  (45, .if_icmp .ge 21, 3, .null, 66, []),
  (48, .lload_n 3, 1, .null, 0, []),
  (49, .bipush 100, 2, .int 100, 0, []),
  (51, .iload_n 2, 1, .null, 0, []),
  (52, .isub, 1, .null, 0, []),
  (53, .i2l, 1, .null, 0, []),
  (54, .lmul, 1, .null, 0, []),
  (55, .ldc2_w 294, 3, .null, 0, []),
  (58, .ldiv, 1, .null, 0, []),
  (59, .lstore_n 3, 1, .null, 0, []),
  (60, .iinc 6 1, 3, .int 1, 0, []),
  (63, .goto (-22), 3, .null, 41, []),
  (66, .lload_n 3, 1, .null, 0, []),
  (67, .l2i, 1, .null, 0, []),
  (68, .ireturn, 1, .null, 0, [])]
theorem KB_quiet : zCode gB_quiet kB_quiet := by unfold zCode; decide +kernel
def kB_see : List zR := [(0, .aload_n 0, 1, .null, 0, []),
  (1, .iload_n 1, 1, .null, 0, []),
  (2, .invokevirtual 151, 3, .null, 0, []),
  (5, .ifCond .ne 6, 3, .null, 11, []),
  (8, .ldc 155, 2, .null, 0, []),
  (10, .ireturn, 1, .null, 0, []),
  (11, .iload_n 2, 1, .null, 0, []),
  (12, .invokestatic 236, 3, .null, 0, []),
  (15, .ifCond .eq 10, 3, .null, 25, []),
  (18, .iload_n 3, 1, .null, 0, []),
  (19, .invokestatic 239, 3, .null, 0, []),
  (22, .ifCond .ne 6, 3, .null, 28, []),
  (25, .ldc 86, 2, .null, 0, []),
  (27, .ireturn, 1, .null, 0, []),
  (28, .aload_n 0, 1, .null, 0, []),
  (29, .getfield 61, 3, .null, 0, []),
  (32, .getfield 142, 3, .null, 0, []),
  (35, .bipush 6, 2, .int 6, 0, []),
  (37, .if_icmp .lt 6, 3, .null, 43, []),
  (40, .ldc 90, 2, .null, 0, []),
  (42, .ireturn, 1, .null, 0, []),
  (43, .aload_n 0, 1, .null, 0, []),
  (44, .getfield 61, 3, .null, 0, []),
  (47, .iload_n 1, 1, .null, 0, []),
  (48, .iload_n 2, 1, .null, 0, []),
  (49, .iload_n 3, 1, .null, 0, []),
  (50, .invokevirtual 296, 3, .null, 0, []),
  (53, .ireturn, 1, .null, 0, [])]
theorem KB_see : zCode gB_see kB_see := by unfold zCode; decide +kernel
def kB_alibi : List zR := [(0, .aload_n 0, 1, .null, 0, []),
  (1, .iload_n 1, 1, .null, 0, []),
  (2, .invokevirtual 151, 3, .null, 0, []),
  (5, .ifCond .ne 6, 3, .null, 11, []),
  (8, .ldc 155, 2, .null, 0, []),
  (10, .ireturn, 1, .null, 0, []),
  (11, .iconst 0, 1, .int 0, 0, []),
  (12, .istore_n 2, 1, .null, 0, []),
  (13, .iconst 0, 1, .int 0, 0, []),
  (14, .istore_n 3, 1, .null, 0, []),
  (15, .iload_n 3, 1, .null, 0, []),
  (16, .aload_n 0, 1, .null, 0, []),
  (17, .getfield 23, 3, .null, 0, []),
  (20, .getfield 129, 3, .null, 0, []),
  (23, .if_icmp .ge 48, 3, .null, 71, []),
  (26, .aload_n 0, 1, .null, 0, []),
  (27, .getfield 61, 3, .null, 0, []),
  (30, .iload_n 1, 1, .null, 0, []),
  (31, .aload_n 0, 1, .null, 0, []),
  (32, .getfield 23, 3, .null, 0, []),
  (35, .getfield 186, 3, .null, 0, []),
  (38, .iload_n 3, 1, .null, 0, []),
  (39, .invokestatic 160, 3, .null, 0, []),
  (42, .aload_n 0, 1, .null, 0, []),
  (43, .getfield 23, 3, .null, 0, []),
  (46, .getfield 183, 3, .null, 0, []),
  (49, .iload_n 3, 1, .null, 0, []),
  (50, .invokestatic 160, 3, .null, 0, []),
  (53, .invokevirtual 299, 3, .null, 0, []),
  (56, .ifCond .eq 9, 3, .null, 65, []),
  (59, .iload_n 2, 1, .null, 0, []),
  (60, .iconst 1, 1, .int 1, 0, []),
  (61, .iload_n 3, 1, .null, 0, []),
  (62, .ishl, 1, .null, 0, []),
  (63, .ior, 1, .null, 0, []),
  (64, .istore_n 2, 1, .null, 0, []),
  (65, .iinc 3 1, 3, .int 1, 0, []),
  (68, .goto (-53), 3, .null, 15, []),
  (71, .iload_n 2, 1, .null, 0, []),
  (72, .ireturn, 1, .null, 0, [])]
theorem KB_alibi : zCode gB_alibi kB_alibi := by unfold zCode; decide +kernel
def kB_write : List zR := [(0, .aload_n 0, 1, .null, 0, []),
  (1, .iload_n 1, 1, .null, 0, []),
  (2, .invokevirtual 151, 3, .null, 0, []),
  (5, .ifCond .eq 11, 3, .null, 16, []),
  (8, .aload_n 0, 1, .null, 0, []),
  (9, .iload_n 2, 1, .null, 0, []),
  (10, .invokevirtual 180, 3, .null, 0, []),
  (13, .ifCond .ne 6, 3, .null, 19, []),
  (16, .ldc 155, 2, .null, 0, []),
  (18, .ireturn, 1, .null, 0, []),
  (19, .aload_n 0, 1, .null, 0, []),
  (20, .getfield 61, 3, .null, 0, []),
  (23, .getfield 145, 3, .null, 0, []),
  (26, .bipush 20, 2, .int 20, 0, []),
  (28, .if_icmp .lt 6, 3, .null, 34, []),
  (31, .ldc 90, 2, .null, 0, []),
  (33, .ireturn, 1, .null, 0, []),
  (34, .aload_n 0, 1, .null, 0, []),
  (35, .getfield 61, 3, .null, 0, []),
  (38, .iload_n 1, 1, .null, 0, []),
  (39, .iload_n 2, 1, .null, 0, []),
  (40, .invokevirtual 302, 3, .null, 0, []),
  (43, .ireturn, 1, .null, 0, [])]
theorem KB_write : zCode gB_write kB_write := by unfold zCode; decide +kernel
def kB_judge : List zR := [(0, .iconst 0, 1, .int 0, 0, []),
  (1, .istore_n 1, 1, .null, 0, []),
  (2, .iload_n 1, 1, .null, 0, []),
  (3, .aload_n 0, 1, .null, 0, []),
  (4, .getfield 61, 3, .null, 0, []),
  (7, .getfield 145, 3, .null, 0, []),
  (10, .if_icmp .ge 46, 3, .null, 56, []),
  (13, .aload_n 0, 1, .null, 0, []),
  (14, .getfield 29, 3, .null, 0, []),
  (17, .aload_n 0, 1, .null, 0, []),
  (18, .getfield 61, 3, .null, 0, []),
  (21, .getfield 305, 3, .null, 0, []),
  (24, .iload_n 1, 1, .null, 0, []),
  (25, .invokestatic 160, 3, .null, 0, []),
  (28, .invokevirtual 201, 3, .null, 0, []),
  (31, .aload_n 0, 1, .null, 0, []),
  (32, .getfield 61, 3, .null, 0, []),
  (35, .getfield 308, 3, .null, 0, []),
  (38, .iload_n 1, 1, .null, 0, []),
  (39, .invokestatic 160, 3, .null, 0, []),
  (42, .invokestatic 227, 3, .null, 0, []),
  (45, .ifCond .ne 5, 3, .null, 50, []),
  (48, .iload_n 1, 1, .null, 0, []),
  (49, .ireturn, 1, .null, 0, []),
  (50, .iinc 1 1, 3, .int 1, 0, []),
  (53, .goto (-51), 3, .null, 2, []),
  (56, .iconst (-1), 1, .int (-1), 0, []),
  (57, .ireturn, 1, .null, 0, [])]
theorem KB_judge : zCode gB_judge kB_judge := by unfold zCode; decide +kernel
def kB_tear : List zR := [(0, .aload_n 0, 1, .null, 0, []),
  (1, .getfield 61, 3, .null, 0, []),
  (4, .getfield 142, 3, .null, 0, []),
  (7, .aload_n 0, 1, .null, 0, []),
  (8, .getfield 61, 3, .null, 0, []),
  (11, .getfield 145, 3, .null, 0, []),
  (14, .iadd, 1, .null, 0, []),
  (15, .istore_n 1, 1, .null, 0, []),
  (16, .aload_n 0, 1, .null, 0, []),
  (17, .getfield 61, 3, .null, 0, []),
  (20, .invokevirtual 110, 3, .null, 0, []),
  (23, .iload_n 1, 1, .null, 0, []),
  (24, .ireturn, 1, .null, 0, [])]
theorem KB_tear : zCode gB_tear kB_tear := by unfold zCode; decide +kernel
def kB_seed : List zR := [(0, .iload_n 1, 1, .null, 0, []),
  (1, .ifCond .ge 6, 3, .null, 7, []),
  (4, .ldc 86, 2, .null, 0, []),
  (6, .ireturn, 1, .null, 0, []),
  (7, .aload_n 0, 1, .null, 0, []),
  (8, .getfield 79, 3, .null, 0, []),
  (11, .istore_n 2, 1, .null, 0, []),
  (12, .aload_n 0, 1, .null, 0, []),
  (13, .iload_n 1, 1, .null, 0, []),
  (14, .putfield 79, 3, .null, 0, []),
  (17, .iload_n 2, 1, .null, 0, []),
  (18, .ireturn, 1, .null, 0, [])]
theorem KB_seed : zCode gB_seed kB_seed := by unfold zCode; decide +kernel
def kB_keep : List zR := [(0, .aload_n 0, 1, .null, 0, []),
  (1, .iload_n 1, 1, .null, 0, []),
  (2, .invokevirtual 311, 3, .null, 0, []),
  (5, .astore_n 2, 1, .null, 0, []),
  (6, .aload_n 2, 1, .null, 0, []),
  (7, .ifnonnull 6, 3, .null, 13, []),
  (10, .ldc 155, 2, .null, 0, []),
  (12, .ireturn, 1, .null, 0, []),
  (13, .aload_n 0, 1, .null, 0, []),
  (14, .getfield 29, 3, .null, 0, []),
  (17, .getfield 315, 3, .null, 0, []),
  (20, .aload_n 2, 1, .null, 0, []),
  (21, .getfield 318, 3, .null, 0, []),
  (24, .invokestatic 319, 3, .null, 0, []),
  (27, .aload_n 2, 1, .null, 0, []),
  (28, .aload_n 0, 1, .null, 0, []),
  (29, .getfield 79, 3, .null, 0, []),
  (32, .putfield 323, 3, .null, 0, []),
  (35, .aload_n 2, 1, .null, 0, []),
  (36, .iconst 1, 1, .int 1, 0, []),
  (37, .putfield 113, 3, .null, 0, []),
  (40, .aload_n 0, 1, .null, 0, []),
  (41, .getfield 54, 3, .null, 0, []),
  (44, .invokevirtual 107, 3, .null, 0, []),
  (47, .iconst 1, 1, .int 1, 0, []),
  (48, .ireturn, 1, .null, 0, [])]
theorem KB_keep : zCode gB_keep kB_keep := by unfold zCode; decide +kernel
def kB_goBack : List zR := [(0, .aload_n 0, 1, .null, 0, []),
  (1, .iload_n 1, 1, .null, 0, []),
  (2, .invokevirtual 311, 3, .null, 0, []),
  (5, .astore_n 2, 1, .null, 0, []),
  (6, .aload_n 2, 1, .null, 0, []),
  (7, .ifnonnull 6, 3, .null, 13, []),
  (10, .ldc 155, 2, .null, 0, []),
  (12, .ireturn, 1, .null, 0, []),
  (13, .aload_n 2, 1, .null, 0, []),
  (14, .getfield 113, 3, .null, 0, []),
  (17, .ifCond .ne 6, 3, .null, 23, []),
  (20, .ldc 218, 2, .null, 0, []),
  (22, .ireturn, 1, .null, 0, []),
  (23, .aload_n 2, 1, .null, 0, []),
  (24, .getfield 318, 3, .null, 0, []),
  (27, .aload_n 0, 1, .null, 0, []),
  (28, .getfield 29, 3, .null, 0, []),
  (31, .getfield 315, 3, .null, 0, []),
  (34, .invokestatic 319, 3, .null, 0, []),
  (37, .aload_n 0, 1, .null, 0, []),
  (38, .aload_n 2, 1, .null, 0, []),
  (39, .getfield 323, 3, .null, 0, []),
  (42, .putfield 79, 3, .null, 0, []),
  (45, .aload_n 0, 1, .null, 0, []),
  (46, .getfield 54, 3, .null, 0, []),
  (49, .invokevirtual 107, 3, .null, 0, []),
  (52, .iconst 1, 1, .int 1, 0, []),
  (53, .ireturn, 1, .null, 0, [])]
theorem KB_goBack : zCode gB_goBack kB_goBack := by unfold zCode; decide +kernel
def kB_isMan : List zR := [(0, .iload_n 1, 1, .null, 0, []),
  (1, .ifCond .lt 18, 3, .null, 19, []),
  (4, .iload_n 1, 1, .null, 0, []),
  (5, .aload_n 0, 1, .null, 0, []),
  (6, .getfield 23, 3, .null, 0, []),
  (9, .getfield 117, 3, .null, 0, []),
  (12, .if_icmp .ge 7, 3, .null, 19, []),
  (15, .iconst 1, 1, .int 1, 0, []),
  (16, .goto 4, 3, .null, 20, []),
  (19, .iconst 0, 1, .int 0, 0, []),
  (20, .ireturn, 1, .null, 0, [])]
theorem KB_isMan : zCode gB_isMan kB_isMan := by unfold zCode; decide +kernel
def kB_isMishap : List zR := [(0, .iload_n 1, 1, .null, 0, []),
  (1, .ifCond .lt 18, 3, .null, 19, []),
  (4, .iload_n 1, 1, .null, 0, []),
  (5, .aload_n 0, 1, .null, 0, []),
  (6, .getfield 23, 3, .null, 0, []),
  (9, .getfield 129, 3, .null, 0, []),
  (12, .if_icmp .ge 7, 3, .null, 19, []),
  (15, .iconst 1, 1, .int 1, 0, []),
  (16, .goto 4, 3, .null, 20, []),
  (19, .iconst 0, 1, .int 0, 0, []),
  (20, .ireturn, 1, .null, 0, [])]
theorem KB_isMishap : zCode gB_isMishap kB_isMishap := by unfold zCode; decide +kernel
def kB_imageOf : List zR := [(0, .iload_n 1, 1, .null, 0, []),
  (1, .ifCond .ne 8, 3, .null, 9, []),
  (4, .aload_n 0, 1, .null, 0, []),
  (5, .getfield 68, 3, .null, 0, []),
  (8, .areturn, 1, .null, 0, []),
  (9, .iload_n 1, 1, .null, 0, []),
  (10, .iconst 1, 1, .int 1, 0, []),
  (11, .if_icmp .ne 10, 3, .null, 21, []),
  (14, .aload_n 0, 1, .null, 0, []),
  (15, .getfield 72, 3, .null, 0, []),
  (18, .goto 4, 3, .null, 22, []),
  (21, .aconst_null, 1, .null, 0, []),
  (22, .areturn, 1, .null, 0, [])]
theorem KB_imageOf : zCode gB_imageOf kB_imageOf := by unfold zCode; decide +kernel
def kB_putBlame : List zR := [(0, .aload_n 0, 1, .null, 0, []),
  (1, .getfield 29, 3, .null, 0, []),
  (4, .iload_n 2, 1, .null, 0, []),
  (5, .aload_n 0, 1, .null, 0, []),
  (6, .getfield 29, 3, .null, 0, []),
  (9, .iload_n 2, 1, .null, 0, []),
  (10, .invokevirtual 201, 3, .null, 0, []),
  (13, .iconst 1, 1, .int 1, 0, []),
  (14, .iload_n 1, 1, .null, 0, []),
  (15, .ishl, 1, .null, 0, []),
  (16, .ior, 1, .null, 0, []),
  (17, .invokevirtual 230, 3, .null, 0, []),
  (20, .aload_n 0, 1, .null, 0, []),
  (21, .getfield 29, 3, .null, 0, []),
  (24, .iload_n 1, 1, .null, 0, []),
  (25, .iconst 1, 1, .int 1, 0, []),
  (26, .invokevirtual 233, 3, .null, 0, []),
  (29, .aload_n 0, 1, .null, 0, []),
  (30, .getfield 29, 3, .null, 0, []),
  (33, .aload_n 0, 1, .null, 0, []),
  (34, .getfield 23, 3, .null, 0, []),
  (37, .getfield 167, 3, .null, 0, []),
  (40, .iload_n 1, 1, .null, 0, []),
  (41, .invokestatic 160, 3, .null, 0, []),
  (44, .invokevirtual 324, 3, .null, 0, []),
  (47, .return_, 1, .null, 0, [])]
theorem KB_putBlame : zCode gB_putBlame kB_putBlame := by unfold zCode; decide +kernel
def kB_blameByDraws : List zR := [(0, .iconst 0, 1, .int 0, 0, []),
  (1, .istore_n 2, 1, .null, 0, []),
  (2, .iload_n 2, 1, .null, 0, []),
  (3, .bipush 7, 2, .int 7, 0, []),
  (5, .if_icmp .ge 51, 3, .null, 56, []),
  (8, .aload_n 0, 1, .null, 0, []),
  (9, .getfield 38, 3, .null, 0, []),
  (12, .iload_n 1, 1, .null, 0, []),
  (13, .invokevirtual 257, 3, .null, 0, []),
  (16, .istore_n 3, 1, .null, 0, []),
  (17, .iload_n 3, 1, .null, 0, []),
  (18, .ifCond .ne 4, 3, .null, 22, []),
  (21, .return_, 1, .null, 0, []),
  (22, .iload_n 3, 1, .null, 0, []),
  (23, .aload_n 0, 1, .null, 0, []),
  (24, .iload_n 3, 1, .null, 0, []),
  (25, .invokestatic 327, 3, .null, 0, []),
  (28, .invokevirtual 332, 3, .null, 0, []),
  (31, .invokestatic 335, 3, .null, 0, []),
  (34, .istore 4, 2, .null, 0, []),
  (36, .iload 4, 2, .null, 0, []),
  (38, .iconst (-1), 1, .int (-1), 0, []),
  (39, .if_icmp .ne 4, 3, .null, 43, []),
  (42, .return_, 1, .null, 0, []),
  (43, .aload_n 0, 1, .null, 0, []),
  (44, .iload 4, 2, .null, 0, []),
  (46, .iload_n 1, 1, .null, 0, []),
  (47, .invokevirtual 223, 3, .null, 0, []),
  (50, .iinc 2 1, 3, .int 1, 0, []),
  (53, .goto (-51), 3, .null, 2, []),
  (56, .return_, 1, .null, 0, [])]
theorem KB_blameByDraws : zCode gB_blameByDraws kB_blameByDraws := by unfold zCode; decide +kernel
def kB_draw : List zR := [(0, .aload_n 0, 1, .null, 0, []),
  (1, .aload_n 0, 1, .null, 0, []),
  (2, .getfield 79, 3, .null, 0, []),
  (5, .ldc_w 338, 3, .null, 0, []),
  (8, .imul, 1, .null, 0, []),
  (9, .sipush 12345, 3, .int 12345, 0, []),
  (12, .iadd, 1, .null, 0, []),
  (13, .ldc_w 339, 3, .null, 0, []),
  (16, .iand, 1, .null, 0, []),
  (17, .putfield 79, 3, .null, 0, []),
  (20, .iload_n 1, 1, .null, 0, []),
  (21, .ifCond .le 16, 3, .null, 37, []),
  (24, .aload_n 0, 1, .null, 0, []),
  (25, .getfield 79, 3, .null, 0, []),
  (28, .ldc_w 340, 3, .null, 0, []),
  (31, .idiv, 1, .null, 0, []),
  (32, .iload_n 1, 1, .null, 0, []),
  (33, .irem, 1, .null, 0, []),
  (34, .goto 4, 3, .null, 38, []),
  (37, .iconst 0, 1, .int 0, 0, []),
  (38, .ireturn, 1, .null, 0, [])]
theorem KB_draw : zCode gB_draw kB_draw := by unfold zCode; decide +kernel
def kB_endDay : List zR := [(0, .aload_n 0, 1, .null, 0, []),
  (1, .getfield 23, 3, .null, 0, []),
  (4, .getfield 126, 3, .null, 0, []),
  (7, .aload_n 0, 1, .null, 0, []),
  (8, .getfield 38, 3, .null, 0, []),
  (11, .invokevirtual 139, 3, .null, 0, []),
  (14, .imul, 1, .null, 0, []),
  (15, .istore_n 1, 1, .null, 0, []),
  (16, .aload_n 0, 1, .null, 0, []),
  (17, .getfield 29, 3, .null, 0, []),
  (20, .iload_n 1, 1, .null, 0, []),
  (21, .invokevirtual 324, 3, .null, 0, []),
  (24, .iconst 0, 1, .int 0, 0, []),
  (25, .istore_n 2, 1, .null, 0, []),
  (26, .iload_n 2, 1, .null, 0, []),
  (27, .aload_n 0, 1, .null, 0, []),
  (28, .getfield 23, 3, .null, 0, []),
  (31, .getfield 117, 3, .null, 0, []),
  (34, .if_icmp .ge 29, 3, .null, 63, []),
  (37, .aload_n 0, 1, .null, 0, []),
  (38, .getfield 38, 3, .null, 0, []),
  (41, .iload_n 2, 1, .null, 0, []),
  (42, .invokevirtual 173, 3, .null, 0, []),
  (45, .ifCond .ne 12, 3, .null, 57, []),
  (48, .aload_n 0, 1, .null, 0, []),
  (49, .getfield 29, 3, .null, 0, []),
  (52, .iload_n 2, 1, .null, 0, []),
  (53, .iconst (-1), 1, .int (-1), 0, []),
  (54, .invokevirtual 233, 3, .null, 0, []),
  (57, .iinc 2 1, 3, .int 1, 0, []),
  (60, .goto (-34), 3, .null, 26, []),
  (63, .iconst 0, 1, .int 0, 0, []),
  (64, .istore_n 2, 1, .null, 0, []),
  (65, .iload_n 2, 1, .null, 0, []),
  (66, .aload_n 0, 1, .null, 0, []),
  (67, .getfield 23, 3, .null, 0, []),
  (70, .getfield 129, 3, .null, 0, []),
  (73, .if_icmp .ge 18, 3, .null, 91, []),
  (76, .aload_n 0, 1, .null, 0, []),
  (77, .getfield 29, 3, .null, 0, []),
  (80, .iload_n 2, 1, .null, 0, []),
  (81, .iconst 0, 1, .int 0, 0, []),
  (82, .invokevirtual 230, 3, .null, 0, []),
  (85, .iinc 2 1, 3, .int 1, 0, []),
  (88, .goto (-23), 3, .null, 65, []),
  (91, .aload_n 0, 1, .null, 0, []),
  (92, .getfield 29, 3, .null, 0, []),
  (95, .aload_n 0, 1, .null, 0, []),
  (96, .getfield 23, 3, .null, 0, []),
  (99, .invokevirtual 341, 3, .null, 0, []),
  (102, .aload_n 0, 1, .null, 0, []),
  (103, .getfield 29, 3, .null, 0, []),
  (106, .invokevirtual 344, 3, .null, 0, []),
  (109, .iload_n 1, 1, .null, 0, []),
  (110, .ireturn, 1, .null, 0, [])]
theorem KB_endDay : zCode gB_endDay kB_endDay := by unfold zCode; decide +kernel
def kB_isHour : List zR := [(0, .iload_n 0, 1, .null, 0, []),
  (1, .ifCond .lt 13, 3, .null, 14, []),
  (4, .iload_n 0, 1, .null, 0, []),
  (5, .bipush 6, 2, .int 6, 0, []),
  (7, .if_icmp .ge 7, 3, .null, 14, []),
  (10, .iconst 1, 1, .int 1, 0, []),
  (11, .goto 4, 3, .null, 15, []),
  (14, .iconst 0, 1, .int 0, 0, []),
  (15, .ireturn, 1, .null, 0, [])]
theorem KB_isHour : zCode gB_isHour kB_isHour := by unfold zCode; decide +kernel
def kB_isPlace : List zR := [(0, .iload_n 0, 1, .null, 0, []),
  (1, .ifCond .lt 13, 3, .null, 14, []),
  (4, .iload_n 0, 1, .null, 0, []),
  (5, .bipush 6, 2, .int 6, 0, []),
  (7, .if_icmp .ge 7, 3, .null, 14, []),
  (10, .iconst 1, 1, .int 1, 0, []),
  (11, .goto 4, 3, .null, 15, []),
  (14, .iconst 0, 1, .int 0, 0, []),
  (15, .ireturn, 1, .null, 0, [])]
theorem KB_isPlace : zCode gB_isPlace kB_isPlace := by unfold zCode; decide +kernel
def kB_isWithin : List zR := [(0, .iload_n 0, 1, .null, 0, []),
  (1, .iload_n 1, 1, .null, 0, []),
  (2, .if_icmp .lt 12, 3, .null, 14, []),
  (5, .iload_n 0, 1, .null, 0, []),
  (6, .iload_n 2, 1, .null, 0, []),
  (7, .if_icmp .gt 7, 3, .null, 14, []),
  (10, .iconst 1, 1, .int 1, 0, []),
  (11, .goto 4, 3, .null, 15, []),
  (14, .iconst 0, 1, .int 0, 0, []),
  (15, .ireturn, 1, .null, 0, [])]
theorem KB_isWithin : zCode gB_isWithin kB_isWithin := by unfold zCode; decide +kernel
def kB_isIn : List zR := [(0, .iload_n 1, 1, .null, 0, []),
  (1, .ifCond .lt 22, 3, .null, 23, []),
  (4, .iload_n 1, 1, .null, 0, []),
  (5, .bipush 30, 2, .int 30, 0, []),
  (7, .if_icmp .gt 16, 3, .null, 23, []),
  (10, .iload_n 0, 1, .null, 0, []),
  (11, .iload_n 1, 1, .null, 0, []),
  (12, .ishr, 1, .null, 0, []),
  (13, .iconst 1, 1, .int 1, 0, []),
  (14, .iand, 1, .null, 0, []),
  (15, .iconst 1, 1, .int 1, 0, []),
  (16, .if_icmp .ne 7, 3, .null, 23, []),
  (19, .iconst 1, 1, .int 1, 0, []),
  (20, .goto 4, 3, .null, 24, []),
  (23, .iconst 0, 1, .int 0, 0, []),
  (24, .ireturn, 1, .null, 0, [])]
theorem KB_isIn : zCode gB_isIn kB_isIn := by unfold zCode; decide +kernel
def kB_memberOf : List zR := [(0, .iconst 0, 1, .int 0, 0, []),
  (1, .istore_n 2, 1, .null, 0, []),
  (2, .iconst 0, 1, .int 0, 0, []),
  (3, .istore_n 3, 1, .null, 0, []),
  (4, .iload_n 3, 1, .null, 0, []),
  (5, .bipush 7, 2, .int 7, 0, []),
  (7, .if_icmp .ge 27, 3, .null, 34, []),
  (10, .iload_n 0, 1, .null, 0, []),
  (11, .iload_n 3, 1, .null, 0, []),
  (12, .invokestatic 227, 3, .null, 0, []),
  (15, .ifCond .eq 13, 3, .null, 28, []),
  (18, .iload_n 2, 1, .null, 0, []),
  (19, .iload_n 1, 1, .null, 0, []),
  (20, .if_icmp .ne 5, 3, .null, 25, []),
  (23, .iload_n 3, 1, .null, 0, []),
  (24, .ireturn, 1, .null, 0, []),
  (25, .iinc 2 1, 3, .int 1, 0, []),
  (28, .iinc 3 1, 3, .int 1, 0, []),
  (31, .goto (-27), 3, .null, 4, []),
  (34, .iconst (-1), 1, .int (-1), 0, []),
  (35, .ireturn, 1, .null, 0, [])]
theorem KB_memberOf : zCode gB_memberOf kB_memberOf := by unfold zCode; decide +kernel
def kB_at : List zR := [(0, .aload_n 0, 1, .null, 0, []),
  (1, .ifnull 19, 3, .null, 20, []),
  (4, .iload_n 1, 1, .null, 0, []),
  (5, .ifCond .lt 15, 3, .null, 20, []),
  (8, .iload_n 1, 1, .null, 0, []),
  (9, .aload_n 0, 1, .null, 0, []),
  (10, .arraylength, 1, .null, 0, []),
  (11, .if_icmp .ge 9, 3, .null, 20, []),
  (14, .aload_n 0, 1, .null, 0, []),
  (15, .iload_n 1, 1, .null, 0, []),
  (16, .iaload, 1, .null, 0, []),
  (17, .goto 4, 3, .null, 21, []),
  (20, .iconst 0, 1, .int 0, 0, []),
  (21, .ireturn, 1, .null, 0, [])]
theorem KB_at : zCode gB_at kB_at := by unfold zCode; decide +kernel
def kB_put : List zR := [(0, .aload_n 0, 1, .null, 0, []),
  (1, .ifnull 17, 3, .null, 18, []),
  (4, .iload_n 1, 1, .null, 0, []),
  (5, .ifCond .lt 13, 3, .null, 18, []),
  (8, .iload_n 1, 1, .null, 0, []),
  (9, .aload_n 0, 1, .null, 0, []),
  (10, .arraylength, 1, .null, 0, []),
  (11, .if_icmp .ge 7, 3, .null, 18, []),
  (14, .aload_n 0, 1, .null, 0, []),
  (15, .iload_n 1, 1, .null, 0, []),
  (16, .iload_n 2, 1, .null, 0, []),
  (17, .iastore, 1, .null, 0, []),
  (18, .return_, 1, .null, 0, [])]
theorem KB_put : zCode gB_put kB_put := by unfold zCode; decide +kernel
def kB_copyRow : List zR := [(0, .aload_n 0, 1, .null, 0, []),
  (1, .ifnull 7, 3, .null, 8, []),
  (4, .aload_n 1, 1, .null, 0, []),
  (5, .ifnonnull 4, 3, .null, 9, []),
  (8, .return_, 1, .null, 0, []),
  (9, .iconst 0, 1, .int 0, 0, []),
  (10, .istore_n 2, 1, .null, 0, []),
  (11, .iload_n 2, 1, .null, 0, []),
  (12, .aload_n 0, 1, .null, 0, []),
  (13, .arraylength, 1, .null, 0, []),
  (14, .if_icmp .ge 21, 3, .null, 35, []),
  (17, .iload_n 2, 1, .null, 0, []),
  (18, .aload_n 1, 1, .null, 0, []),
  (19, .arraylength, 1, .null, 0, []),
  (20, .if_icmp .ge 15, 3, .null, 35, []),
  (23, .aload_n 1, 1, .null, 0, []),
  (24, .iload_n 2, 1, .null, 0, []),
  (25, .aload_n 0, 1, .null, 0, []),
  (26, .iload_n 2, 1, .null, 0, []),
  (27, .iaload, 1, .null, 0, []),
  (28, .iastore, 1, .null, 0, []),
  (29, .iinc 2 1, 3, .int 1, 0, []),
  (32, .goto (-21), 3, .null, 11, []),
  (35, .return_, 1, .null, 0, [])]
theorem KB_copyRow : zCode gB_copyRow kB_copyRow := by unfold zCode; decide +kernel
def kM_init : List zR := [(0, .aload_n 0, 1, .null, 0, []),
  (1, .invokespecial 1, 3, .null, 0, []),
  (4, .aload_n 0, 1, .null, 0, []),
  (5, .sipush 230, 3, .int 230, 0, []),
  (8, .newarray .int, 2, .null, 0, []),
  (10, .putfield 7, 3, .null, 0, []),
  (13, .aload_n 0, 1, .null, 0, []),
  (14, .iconst (-1), 1, .int (-1), 0, []),
  (15, .putfield 13, 3, .null, 0, []),
  (18, .aload_n 0, 1, .null, 0, []),
  (19, .bipush 21, 2, .int 21, 0, []),
  (21, .newarray .int, 2, .null, 0, []),
  (23, .putfield 17, 3, .null, 0, []),
  (26, .aload_n 0, 1, .null, 0, []),
  (27, .bipush 42, 2, .int 42, 0, []),
  (29, .newarray .int, 2, .null, 0, []),
  (31, .putfield 20, 3, .null, 0, []),
  (34, .aload_n 0, 1, .null, 0, []),
  (35, .bipush 24, 2, .int 24, 0, []),
  (37, .newarray .int, 2, .null, 0, []),
  (39, .putfield 23, 3, .null, 0, []),
  (42, .aload_n 0, 1, .null, 0, []),
  (43, .bipush 21, 2, .int 21, 0, []),
  (45, .newarray .int, 2, .null, 0, []),
  (47, .putfield 26, 3, .null, 0, []),
  (50, .aload_n 0, 1, .null, 0, []),
  (51, .bipush 42, 2, .int 42, 0, []),
  (53, .newarray .int, 2, .null, 0, []),
  (55, .putfield 29, 3, .null, 0, []),
  (58, .aload_n 0, 1, .null, 0, []),
  (59, .bipush 24, 2, .int 24, 0, []),
  (61, .newarray .int, 2, .null, 0, []),
  (63, .putfield 32, 3, .null, 0, []),
  (66, .aload_n 0, 1, .null, 0, []),
  (67, .bipush 55, 2, .int 55, 0, []),
  (69, .newarray .int, 2, .null, 0, []),
  (71, .putfield 35, 3, .null, 0, []),
  (74, .aload_n 0, 1, .null, 0, []),
  (75, .sipush 1650, 3, .int 1650, 0, []),
  (78, .newarray .int, 2, .null, 0, []),
  (80, .putfield 38, 3, .null, 0, []),
  (83, .aload_n 0, 1, .null, 0, []),
  (84, .bipush 110, 2, .int 110, 0, []),
  (86, .newarray .int, 2, .null, 0, []),
  (88, .putfield 41, 3, .null, 0, []),
  (91, .aload_n 0, 1, .null, 0, []),
  (92, .iconst 2, 1, .int 2, 0, []),
  (93, .newarray .int, 2, .null, 0, []),
  (95, .putfield 44, 3, .null, 0, []),
  (98, .aload_n 0, 1, .null, 0, []),
  (99, .iconst 2, 1, .int 2, 0, []),
  (100, .newarray .boolean, 2, .null, 0, []),
  (102, .putfield 47, 3, .null, 0, []),
  (105, .aload_n 0, 1, .null, 0, []),
  (106, .bipush 18, 2, .int 18, 0, []),
  (108, .newarray .int, 2, .null, 0, []),
  (110, .putfield 51, 3, .null, 0, []),
  (113, .aload_n 0, 1, .null, 0, []),
  (114, .bipush 40, 2, .int 40, 0, []),
  (116, .newarray .int, 2, .null, 0, []),
  (118, .putfield 54, 3, .null, 0, []),
  (121, .aload_n 0, 1, .null, 0, []),
  (122, .bipush 92, 2, .int 92, 0, []),
  (124, .newarray .int, 2, .null, 0, []),
  (126, .putfield 57, 3, .null, 0, []),
  (129, .aload_n 0, 1, .null, 0, []),
  (130, .iconst 4, 1, .int 4, 0, []),
  (131, .newarray .int, 2, .null, 0, []),
  (133, .putfield 60, 3, .null, 0, []),
  (136, .aload_n 0, 1, .null, 0, []),
  (137, .iconst 4, 1, .int 4, 0, []),
  (138, .newarray .int, 2, .null, 0, []),
  (140, .putfield 63, 3, .null, 0, []),
  (143, .aload_n 0, 1, .null, 0, []),
  (144, .iconst 4, 1, .int 4, 0, []),
  (145, .newarray .int, 2, .null, 0, []),
  (147, .putfield 66, 3, .null, 0, []),
  (150, .return_, 1, .null, 0, [])]
theorem KM_init : zCode gM_init kM_init := by unfold zCode; decide +kernel
def kM_in : List zR := [(0, .iload_n 0, 1, .null, 0, []),
  (1, .iload_n 1, 1, .null, 0, []),
  (2, .if_icmp .lt 12, 3, .null, 14, []),
  (5, .iload_n 0, 1, .null, 0, []),
  (6, .iload_n 2, 1, .null, 0, []),
  (7, .if_icmp .gt 7, 3, .null, 14, []),
  (10, .iconst 1, 1, .int 1, 0, []),
  (11, .goto 4, 3, .null, 15, []),
  (14, .iconst 0, 1, .int 0, 0, []),
  (15, .ireturn, 1, .null, 0, [])]
theorem KM_in : zCode gM_in kM_in := by unfold zCode; decide +kernel
def kM_has : List zR := [(0, .iload_n 0, 1, .null, 0, []),
  (1, .iload_n 1, 1, .null, 0, []),
  (2, .ishr, 1, .null, 0, []),
  (3, .iconst 1, 1, .int 1, 0, []),
  (4, .iand, 1, .null, 0, []),
  (5, .iconst 1, 1, .int 1, 0, []),
  (6, .if_icmp .ne 7, 3, .null, 13, []),
  (9, .iconst 1, 1, .int 1, 0, []),
  (10, .goto 4, 3, .null, 14, []),
  (13, .iconst 0, 1, .int 0, 0, []),
  (14, .ireturn, 1, .null, 0, [])]
theorem KM_has : zCode gM_has kM_has := by unfold zCode; decide +kernel
def kM_ones : List zR := [(0, .iconst 0, 1, .int 0, 0, []),
  (1, .istore_n 1, 1, .null, 0, []),
  (2, .iconst 0, 1, .int 0, 0, []),
  (3, .istore_n 2, 1, .null, 0, []),
  (4, .iload_n 2, 1, .null, 0, []),
  (5, .bipush 7, 2, .int 7, 0, []),
  (7, .if_icmp .ge 17, 3, .null, 24, []),
  (10, .iload_n 1, 1, .null, 0, []),
  (11, .iload_n 0, 1, .null, 0, []),
  (12, .iload_n 2, 1, .null, 0, []),
  (13, .ishr, 1, .null, 0, []),
  (14, .iconst 1, 1, .int 1, 0, []),
  (15, .iand, 1, .null, 0, []),
  (16, .iadd, 1, .null, 0, []),
  (17, .istore_n 1, 1, .null, 0, []),
  (18, .iinc 2 1, 3, .int 1, 0, []),
  (21, .goto (-17), 3, .null, 4, []),
  (24, .iload_n 1, 1, .null, 0, []),
  (25, .ireturn, 1, .null, 0, [])]
theorem KM_ones : zCode gM_ones kM_ones := by unfold zCode; decide +kernel
def kM_off : List zR := [(0, .iload_n 0, 1, .null, 0, []),
  (1, .iload_n 1, 1, .null, 0, []),
  (2, .if_icmp .le 9, 3, .null, 11, []),
  (5, .iload_n 0, 1, .null, 0, []),
  (6, .iload_n 1, 1, .null, 0, []),
  (7, .isub, 1, .null, 0, []),
  (8, .goto 6, 3, .null, 14, []),
  (11, .iload_n 1, 1, .null, 0, []),
  (12, .iload_n 0, 1, .null, 0, []),
  (13, .isub, 1, .null, 0, []),
  (14, .ireturn, 1, .null, 0, [])]
theorem KM_off : zCode gM_off kM_off := by unfold zCode; decide +kernel
def kM_feed : List zR := [(0, .iload_n 1, 1, .null, 0, []),
  (1, .iconst 0, 1, .int 0, 0, []),
  (2, .sipush 255, 3, .int 255, 0, []),
  (5, .invokestatic 69, 3, .null, 0, []),
  (8, .ifCond .ne 6, 3, .null, 14, []),
  (11, .ldc 73, 2, .null, 0, []),
  (13, .ireturn, 1, .null, 0, []),
  (14, .aload_n 0, 1, .null, 0, []),
  (15, .getfield 74, 3, .null, 0, []),
  (18, .sipush 230, 3, .int 230, 0, []),
  (21, .if_icmp .ne 6, 3, .null, 27, []),
  (24, .ldc 77, 2, .null, 0, []),
  (26, .ireturn, 1, .null, 0, []),
  (27, .aload_n 0, 1, .null, 0, []),
  (28, .getfield 7, 3, .null, 0, []),
  (31, .aload_n 0, 1, .null, 0, []),
  (32, .getfield 74, 3, .null, 0, []),
  (35, .iload_n 1, 1, .null, 0, []),
  (36, .iastore, 1, .null, 0, []),
  (37, .aload_n 0, 1, .null, 0, []),
  (38, .dup, 1, .null, 0, []),
  (39, .getfield 74, 3, .null, 0, []),
  (42, .iconst 1, 1, .int 1, 0, []),
  (43, .iadd, 1, .null, 0, []),
  (44, .putfield 74, 3, .null, 0, []),
  (47, .aload_n 0, 1, .null, 0, []),
  (48, .getfield 74, 3, .null, 0, []),
  (51, .ireturn, 1, .null, 0, [])]
theorem KM_feed : zCode gM_feed kM_feed := by unfold zCode; decide +kernel
def kM_look : List zR := [(0, .aload_n 0, 1, .null, 0, []),
  (1, .getfield 78, 3, .null, 0, []),
  (4, .aload_n 0, 1, .null, 0, []),
  (5, .getfield 74, 3, .null, 0, []),
  (8, .if_icmp .ge 15, 3, .null, 23, []),
  (11, .aload_n 0, 1, .null, 0, []),
  (12, .getfield 7, 3, .null, 0, []),
  (15, .aload_n 0, 1, .null, 0, []),
  (16, .getfield 78, 3, .null, 0, []),
  (19, .iaload, 1, .null, 0, []),
  (20, .goto 4, 3, .null, 24, []),
  (23, .iconst (-1), 1, .int (-1), 0, []),
  (24, .ireturn, 1, .null, 0, [])]
theorem KM_look : zCode gM_look kM_look := by unfold zCode; decide +kernel
def kM_skips : List zR := [(0, .aload_n 0, 1, .null, 0, []),
  (1, .invokevirtual 81, 3, .null, 0, []),
  (4, .bipush 32, 2, .int 32, 0, []),
  (6, .if_icmp .ne 16, 3, .null, 22, []),
  (9, .aload_n 0, 1, .null, 0, []),
  (10, .dup, 1, .null, 0, []),
  (11, .getfield 78, 3, .null, 0, []),
  (14, .iconst 1, 1, .int 1, 0, []),
  (15, .iadd, 1, .null, 0, []),
  (16, .putfield 78, 3, .null, 0, []),
  (19, .goto (-19), 3, .null, 0, []),
  (22, .return_, 1, .null, 0, [])]
theorem KM_skips : zCode gM_skips kM_skips := by unfold zCode; decide +kernel
def kM_fails : List zR := [(0, .aload_n 0, 1, .null, 0, []),
  (1, .aload_n 0, 1, .null, 0, []),
  (2, .getfield 85, 3, .null, 0, []),
  (5, .ifCond .ne 7, 3, .null, 12, []),
  (8, .iload_n 1, 1, .null, 0, []),
  (9, .goto 7, 3, .null, 16, []),
  (12, .aload_n 0, 1, .null, 0, []),
  (13, .getfield 85, 3, .null, 0, []),
  (16, .putfield 85, 3, .null, 0, []),
  (19, .return_, 1, .null, 0, [])]
theorem KM_fails : zCode gM_fails kM_fails := by unfold zCode; decide +kernel
def kM_word : List zR := [(0, .aload_n 0, 1, .null, 0, []),
  (1, .getfield 85, 3, .null, 0, []),
  (4, .ifCond .ne 33, 3, .null, 37, []),
  (7, .aload_n 0, 1, .null, 0, []),
  (8, .invokevirtual 88, 3, .null, 0, []),
  (11, .aload_n 0, 1, .null, 0, []),
  (12, .invokevirtual 81, 3, .null, 0, []),
  (15, .iload_n 1, 1, .null, 0, []),
  (16, .if_icmp .ne 16, 3, .null, 32, []),
  (19, .aload_n 0, 1, .null, 0, []),
  (20, .dup, 1, .null, 0, []),
  (21, .getfield 78, 3, .null, 0, []),
  (24, .iconst 1, 1, .int 1, 0, []),
  (25, .iadd, 1, .null, 0, []),
  (26, .putfield 78, 3, .null, 0, []),
  (29, .goto 8, 3, .null, 37, []),
  (32, .aload_n 0, 1, .null, 0, []),
  (33, .iconst 1, 1, .int 1, 0, []),
  (34, .invokevirtual 91, 3, .null, 0, []),
  (37, .return_, 1, .null, 0, [])]
theorem KM_word : zCode gM_word kM_word := by unfold zCode; decide +kernel
def kM_number : List zR := [(0, .aload_n 0, 1, .null, 0, []),
  (1, .getfield 85, 3, .null, 0, []),
  (4, .ifCond .eq 5, 3, .null, 9, []),
  (7, .iconst 0, 1, .int 0, 0, []),
  (8, .ireturn, 1, .null, 0, []),
  (9, .aload_n 0, 1, .null, 0, []),
  (10, .invokevirtual 88, 3, .null, 0, []),
  (13, .aload_n 0, 1, .null, 0, []),
  (14, .invokevirtual 81, 3, .null, 0, []),
  (17, .bipush 48, 2, .int 48, 0, []),
  (19, .bipush 57, 2, .int 57, 0, []),
  (21, .invokestatic 69, 3, .null, 0, []),
  (24, .ifCond .ne 10, 3, .null, 34, []),
  (27, .aload_n 0, 1, .null, 0, []),
  (28, .iconst 1, 1, .int 1, 0, []),
  (29, .invokevirtual 91, 3, .null, 0, []),
  (32, .iconst 0, 1, .int 0, 0, []),
  (33, .ireturn, 1, .null, 0, []),
  (34, .aload_n 0, 1, .null, 0, []),
  (35, .getfield 78, 3, .null, 0, []),
  (38, .istore_n 3, 1, .null, 0, []),
  (39, .iconst 0, 1, .int 0, 0, []),
  (40, .istore 4, 2, .null, 0, []),
  (42, .aload_n 0, 1, .null, 0, []),
  (43, .invokevirtual 81, 3, .null, 0, []),
  (46, .bipush 48, 2, .int 48, 0, []),
  (48, .bipush 57, 2, .int 57, 0, []),
  (50, .invokestatic 69, 3, .null, 0, []),
  (53, .ifCond .eq 46, 3, .null, 99, []),
  (56, .aload_n 0, 1, .null, 0, []),
  (57, .getfield 78, 3, .null, 0, []),
  (60, .iload_n 3, 1, .null, 0, []),
  (61, .isub, 1, .null, 0, []),
  (62, .iconst 3, 1, .int 3, 0, []),
  (63, .if_icmp .ge 19, 3, .null, 82, []),
  (66, .bipush 10, 2, .int 10, 0, []),
  (68, .iload 4, 2, .null, 0, []),
  (70, .imul, 1, .null, 0, []),
  (71, .aload_n 0, 1, .null, 0, []),
  (72, .invokevirtual 81, 3, .null, 0, []),
  (75, .iadd, 1, .null, 0, []),
  (76, .bipush 48, 2, .int 48, 0, []),
  (78, .isub, 1, .null, 0, []),
  (79, .goto 5, 3, .null, 84, []),
  (82, .iload 4, 2, .null, 0, []),
  (84, .istore 4, 2, .null, 0, []),
  (86, .aload_n 0, 1, .null, 0, []),
  (87, .dup, 1, .null, 0, []),
  (88, .getfield 78, 3, .null, 0, []),
  (91, .iconst 1, 1, .int 1, 0, []),
  (92, .iadd, 1, .null, 0, []),
  (93, .putfield 78, 3, .null, 0, []),
  (96, .goto (-54), 3, .null, 42, []),
  (99, .aload_n 0, 1, .null, 0, []),
  (100, .getfield 78, 3, .null, 0, []),
  (103, .iload_n 3, 1, .null, 0, []),
  (104, .isub, 1, .null, 0, []),
  (105, .iconst 3, 1, .int 3, 0, []),
  (106, .if_icmp .gt 13, 3, .null, 119, []),
  (109, .iload 4, 2, .null, 0, []),
  (111, .iload_n 1, 1, .null, 0, []),
  (112, .iload_n 2, 1, .null, 0, []),
  (113, .invokestatic 69, 3, .null, 0, []),
  (116, .ifCond .ne 13, 3, .null, 129, []),
  (119, .aload_n 0, 1, .null, 0, []),
  (120, .iload_n 3, 1, .null, 0, []),
  (121, .putfield 78, 3, .null, 0, []),
  (124, .aload_n 0, 1, .null, 0, []),
  (125, .iconst 2, 1, .int 2, 0, []),
  (126, .invokevirtual 91, 3, .null, 0, []),
  (129, .iload 4, 2, .null, 0, []),
  (131, .ireturn, 1, .null, 0, [])]
theorem KM_number : zCode gM_number kM_number := by unfold zCode; decide +kernel
def kM_readsMan : List zR := [(0, .aload_n 0, 1, .null, 0, []),
  (1, .getfield 95, 3, .null, 0, []),
  (4, .bipush 7, 2, .int 7, 0, []),
  (6, .if_icmp .ne 9, 3, .null, 15, []),
  (9, .aload_n 0, 1, .null, 0, []),
  (10, .iconst 3, 1, .int 3, 0, []),
  (11, .invokevirtual 91, 3, .null, 0, []),
  (14, .return_, 1, .null, 0, []),
  (15, .aload_n 0, 1, .null, 0, []),
  (16, .dup, 1, .null, 0, []),
  (17, .getfield 78, 3, .null, 0, []),
  (20, .iconst 1, 1, .int 1, 0, []),
  (21, .iadd, 1, .null, 0, []),
  (22, .putfield 78, 3, .null, 0, []),
  (25, .iconst 3, 1, .int 3, 0, []),
  (26, .aload_n 0, 1, .null, 0, []),
  (27, .getfield 95, 3, .null, 0, []),
  (30, .imul, 1, .null, 0, []),
  (31, .istore_n 1, 1, .null, 0, []),
  (32, .aload_n 0, 1, .null, 0, []),
  (33, .getfield 26, 3, .null, 0, []),
  (36, .iload_n 1, 1, .null, 0, []),
  (37, .aload_n 0, 1, .null, 0, []),
  (38, .iconst 0, 1, .int 0, 0, []),
  (39, .bipush 15, 2, .int 15, 0, []),
  (41, .invokevirtual 98, 3, .null, 0, []),
  (44, .iastore, 1, .null, 0, []),
  (45, .aload_n 0, 1, .null, 0, []),
  (46, .getfield 26, 3, .null, 0, []),
  (49, .iload_n 1, 1, .null, 0, []),
  (50, .iconst 1, 1, .int 1, 0, []),
  (51, .iadd, 1, .null, 0, []),
  (52, .aload_n 0, 1, .null, 0, []),
  (53, .iconst 0, 1, .int 0, 0, []),
  (54, .bipush 63, 2, .int 63, 0, []),
  (56, .invokevirtual 98, 3, .null, 0, []),
  (59, .iastore, 1, .null, 0, []),
  (60, .aload_n 0, 1, .null, 0, []),
  (61, .getfield 26, 3, .null, 0, []),
  (64, .iload_n 1, 1, .null, 0, []),
  (65, .iconst 2, 1, .int 2, 0, []),
  (66, .iadd, 1, .null, 0, []),
  (67, .aload_n 0, 1, .null, 0, []),
  (68, .iconst 1, 1, .int 1, 0, []),
  (69, .bipush 99, 2, .int 99, 0, []),
  (71, .invokevirtual 98, 3, .null, 0, []),
  (74, .iastore, 1, .null, 0, []),
  (75, .aload_n 0, 1, .null, 0, []),
  (76, .getfield 85, 3, .null, 0, []),
  (79, .ifCond .ne 7, 3, .null, 86, []),
  (82, .aload_n 0, 1, .null, 0, []),
  (83, .invokevirtual 88, 3, .null, 0, []),
  (86, .iconst 0, 1, .int 0, 0, []),
  (87, .istore_n 2, 1, .null, 0, []),
  (88, .iload_n 2, 1, .null, 0, []),
  (89, .bipush 6, 2, .int 6, 0, []),
  (91, .if_icmp .ge 100, 3, .null, 191, []),
  (94, .aload_n 0, 1, .null, 0, []),
  (95, .invokevirtual 81, 3, .null, 0, []),
  (98, .istore_n 3, 1, .null, 0, []),
  (99, .iload_n 3, 1, .null, 0, []),
  (100, .bipush 97, 2, .int 97, 0, []),
  (102, .bipush 102, 2, .int 102, 0, []),
  (104, .invokestatic 69, 3, .null, 0, []),
  (107, .ifCond .ne 9, 3, .null, 116, []),
  (110, .iload_n 3, 1, .null, 0, []),
  (111, .bipush 45, 2, .int 45, 0, []),
  (113, .if_icmp .ne 7, 3, .null, 120, []),
  (116, .iconst 1, 1, .int 1, 0, []),
  (117, .goto 4, 3, .null, 121, []),
  (120, .iconst 0, 1, .int 0, 0, []),
  (121, .istore 4, 2, .null, 0, []),
  (123, .aload_n 0, 1, .null, 0, []),
  (124, .getfield 85, 3, .null, 0, []),
  (127, .ifCond .ne 13, 3, .null, 140, []),
  (130, .iload 4, 2, .null, 0, []),
  (132, .ifCond .ne 8, 3, .null, 140, []),
  (135, .aload_n 0, 1, .null, 0, []),
  (136, .iconst 1, 1, .int 1, 0, []),
  (137, .invokevirtual 91, 3, .null, 0, []),
  (140, .aload_n 0, 1, .null, 0, []),
  (141, .getfield 85, 3, .null, 0, []),
  (144, .ifCond .ne 41, 3, .null, 185, []),
  (147, .aload_n 0, 1, .null, 0, []),
  (148, .getfield 29, 3, .null, 0, []),
  (151, .bipush 6, 2, .int 6, 0, []),
  (153, .aload_n 0, 1, .null, 0, []),
  (154, .getfield 95, 3, .null, 0, []),
  (157, .imul, 1, .null, 0, []),
  (158, .iload_n 2, 1, .null, 0, []),
  (159, .iadd, 1, .null, 0, []),
  (160, .iload_n 3, 1, .null, 0, []),
  (161, .bipush 45, 2, .int 45, 0, []),
  (163, .if_icmp .ne 7, 3, .null, 170, []),
  (166, .iconst (-1), 1, .int (-1), 0, []),
  (167, .goto 7, 3, .null, 174, []),
  (170, .iload_n 3, 1, .null, 0, []),
  (171, .bipush 97, 2, .int 97, 0, []),
  (173, .isub, 1, .null, 0, []),
  (174, .iastore, 1, .null, 0, []),
  (175, .aload_n 0, 1, .null, 0, []),
  (176, .dup, 1, .null, 0, []),
  (177, .getfield 78, 3, .null, 0, []),
  (180, .iconst 1, 1, .int 1, 0, []),
  (181, .iadd, 1, .null, 0, []),
  (182, .putfield 78, 3, .null, 0, []),
  (185, .iinc 2 1, 3, .int 1, 0, []),
  (188, .goto (-100), 3, .null, 88, []),
  (191, .aload_n 0, 1, .null, 0, []),
  (192, .bipush 59, 2, .int 59, 0, []),
  (194, .invokevirtual 102, 3, .null, 0, []),
  (197, .aload_n 0, 1, .null, 0, []),
  (198, .dup, 1, .null, 0, []),
  (199, .getfield 95, 3, .null, 0, []),
  (202, .iconst 1, 1, .int 1, 0, []),
  (203, .iadd, 1, .null, 0, []),
  (204, .putfield 95, 3, .null, 0, []),
  (207, .return_, 1, .null, 0, [])]
theorem KM_readsMan : zCode gM_readsMan kM_readsMan := by unfold zCode; decide +kernel
def kM_readsMishap : List zR := [(0, .aload_n 0, 1, .null, 0, []),
  (1, .getfield 105, 3, .null, 0, []),
  (4, .iconst 4, 1, .int 4, 0, []),
  (5, .if_icmp .ne 9, 3, .null, 14, []),
  (8, .aload_n 0, 1, .null, 0, []),
  (9, .iconst 3, 1, .int 3, 0, []),
  (10, .invokevirtual 91, 3, .null, 0, []),
  (13, .return_, 1, .null, 0, []),
  (14, .aload_n 0, 1, .null, 0, []),
  (15, .dup, 1, .null, 0, []),
  (16, .getfield 78, 3, .null, 0, []),
  (19, .iconst 1, 1, .int 1, 0, []),
  (20, .iadd, 1, .null, 0, []),
  (21, .putfield 78, 3, .null, 0, []),
  (24, .bipush 6, 2, .int 6, 0, []),
  (26, .aload_n 0, 1, .null, 0, []),
  (27, .getfield 105, 3, .null, 0, []),
  (30, .imul, 1, .null, 0, []),
  (31, .istore_n 1, 1, .null, 0, []),
  (32, .aload_n 0, 1, .null, 0, []),
  (33, .getfield 32, 3, .null, 0, []),
  (36, .iload_n 1, 1, .null, 0, []),
  (37, .aload_n 0, 1, .null, 0, []),
  (38, .iconst 0, 1, .int 0, 0, []),
  (39, .iconst 5, 1, .int 5, 0, []),
  (40, .invokevirtual 98, 3, .null, 0, []),
  (43, .iastore, 1, .null, 0, []),
  (44, .aload_n 0, 1, .null, 0, []),
  (45, .getfield 32, 3, .null, 0, []),
  (48, .iload_n 1, 1, .null, 0, []),
  (49, .iconst 1, 1, .int 1, 0, []),
  (50, .iadd, 1, .null, 0, []),
  (51, .aload_n 0, 1, .null, 0, []),
  (52, .iconst 0, 1, .int 0, 0, []),
  (53, .iconst 5, 1, .int 5, 0, []),
  (54, .invokevirtual 98, 3, .null, 0, []),
  (57, .iastore, 1, .null, 0, []),
  (58, .aload_n 0, 1, .null, 0, []),
  (59, .getfield 32, 3, .null, 0, []),
  (62, .iload_n 1, 1, .null, 0, []),
  (63, .iconst 2, 1, .int 2, 0, []),
  (64, .iadd, 1, .null, 0, []),
  (65, .aload_n 0, 1, .null, 0, []),
  (66, .iconst 0, 1, .int 0, 0, []),
  (67, .bipush 15, 2, .int 15, 0, []),
  (69, .invokevirtual 98, 3, .null, 0, []),
  (72, .iastore, 1, .null, 0, []),
  (73, .aload_n 0, 1, .null, 0, []),
  (74, .getfield 32, 3, .null, 0, []),
  (77, .iload_n 1, 1, .null, 0, []),
  (78, .iconst 3, 1, .int 3, 0, []),
  (79, .iadd, 1, .null, 0, []),
  (80, .aload_n 0, 1, .null, 0, []),
  (81, .iconst 0, 1, .int 0, 0, []),
  (82, .iconst 5, 1, .int 5, 0, []),
  (83, .invokevirtual 98, 3, .null, 0, []),
  (86, .iastore, 1, .null, 0, []),
  (87, .aload_n 0, 1, .null, 0, []),
  (88, .getfield 32, 3, .null, 0, []),
  (91, .iload_n 1, 1, .null, 0, []),
  (92, .iconst 4, 1, .int 4, 0, []),
  (93, .iadd, 1, .null, 0, []),
  (94, .aload_n 0, 1, .null, 0, []),
  (95, .iconst 1, 1, .int 1, 0, []),
  (96, .iconst 2, 1, .int 2, 0, []),
  (97, .invokevirtual 98, 3, .null, 0, []),
  (100, .iastore, 1, .null, 0, []),
  (101, .aload_n 0, 1, .null, 0, []),
  (102, .getfield 85, 3, .null, 0, []),
  (105, .ifCond .ne 7, 3, .null, 112, []),
  (108, .aload_n 0, 1, .null, 0, []),
  (109, .invokevirtual 88, 3, .null, 0, []),
  (112, .aload_n 0, 1, .null, 0, []),
  (113, .getfield 78, 3, .null, 0, []),
  (116, .istore_n 2, 1, .null, 0, []),
  (117, .aload_n 0, 1, .null, 0, []),
  (118, .iconst 0, 1, .int 0, 0, []),
  (119, .bipush 9, 2, .int 9, 0, []),
  (121, .invokevirtual 98, 3, .null, 0, []),
  (124, .istore_n 3, 1, .null, 0, []),
  (125, .aload_n 0, 1, .null, 0, []),
  (126, .getfield 85, 3, .null, 0, []),
  (129, .ifCond .ne 27, 3, .null, 156, []),
  (132, .iload_n 3, 1, .null, 0, []),
  (133, .bipush 9, 2, .int 9, 0, []),
  (135, .if_icmp .eq 21, 3, .null, 156, []),
  (138, .iload_n 3, 1, .null, 0, []),
  (139, .aload_n 0, 1, .null, 0, []),
  (140, .getfield 105, 3, .null, 0, []),
  (143, .if_icmp .lt 13, 3, .null, 156, []),
  (146, .aload_n 0, 1, .null, 0, []),
  (147, .iload_n 2, 1, .null, 0, []),
  (148, .putfield 78, 3, .null, 0, []),
  (151, .aload_n 0, 1, .null, 0, []),
  (152, .iconst 2, 1, .int 2, 0, []),
  (153, .invokevirtual 91, 3, .null, 0, []),
  (156, .aload_n 0, 1, .null, 0, []),
  (157, .getfield 32, 3, .null, 0, []),
  (160, .iload_n 1, 1, .null, 0, []),
  (161, .iconst 5, 1, .int 5, 0, []),
  (162, .iadd, 1, .null, 0, []),
  (163, .iload_n 3, 1, .null, 0, []),
  (164, .bipush 9, 2, .int 9, 0, []),
  (166, .if_icmp .ne 7, 3, .null, 173, []),
  (169, .iconst (-1), 1, .int (-1), 0, []),
  (170, .goto 4, 3, .null, 174, []),
  (173, .iload_n 3, 1, .null, 0, []),
  (174, .iastore, 1, .null, 0, []),
  (175, .aload_n 0, 1, .null, 0, []),
  (176, .bipush 59, 2, .int 59, 0, []),
  (178, .invokevirtual 102, 3, .null, 0, []),
  (181, .aload_n 0, 1, .null, 0, []),
  (182, .dup, 1, .null, 0, []),
  (183, .getfield 105, 3, .null, 0, []),
  (186, .iconst 1, 1, .int 1, 0, []),
  (187, .iadd, 1, .null, 0, []),
  (188, .putfield 105, 3, .null, 0, []),
  (191, .return_, 1, .null, 0, [])]
theorem KM_readsMishap : zCode gM_readsMishap kM_readsMishap := by unfold zCode; decide +kernel
def kM_reads : List zR := [(0, .aload_n 0, 1, .null, 0, []),
  (1, .iconst 0, 1, .int 0, 0, []),
  (2, .putfield 95, 3, .null, 0, []),
  (5, .aload_n 0, 1, .null, 0, []),
  (6, .iconst 0, 1, .int 0, 0, []),
  (7, .putfield 105, 3, .null, 0, []),
  (10, .aload_n 0, 1, .null, 0, []),
  (11, .bipush 97, 2, .int 97, 0, []),
  (13, .invokevirtual 102, 3, .null, 0, []),
  (16, .aload_n 0, 1, .null, 0, []),
  (17, .aload_n 0, 1, .null, 0, []),
  (18, .iconst 0, 1, .int 0, 0, []),
  (19, .bipush 6, 2, .int 6, 0, []),
  (21, .invokevirtual 98, 3, .null, 0, []),
  (24, .putfield 108, 3, .null, 0, []),
  (27, .aload_n 0, 1, .null, 0, []),
  (28, .aload_n 0, 1, .null, 0, []),
  (29, .iconst 1, 1, .int 1, 0, []),
  (30, .sipush 500, 3, .int 500, 0, []),
  (33, .invokevirtual 98, 3, .null, 0, []),
  (36, .putfield 111, 3, .null, 0, []),
  (39, .aload_n 0, 1, .null, 0, []),
  (40, .bipush 59, 2, .int 59, 0, []),
  (42, .invokevirtual 102, 3, .null, 0, []),
  (45, .aload_n 0, 1, .null, 0, []),
  (46, .invokevirtual 114, 3, .null, 0, []),
  (49, .aload_n 0, 1, .null, 0, []),
  (50, .getfield 85, 3, .null, 0, []),
  (53, .ifCond .ne 68, 3, .null, 121, []),
  (56, .aload_n 0, 1, .null, 0, []),
  (57, .invokevirtual 81, 3, .null, 0, []),
  (60, .iconst (-1), 1, .int (-1), 0, []),
  (61, .if_icmp .eq 60, 3, .null, 121, []),
  (64, .aload_n 0, 1, .null, 0, []),
  (65, .invokevirtual 81, 3, .null, 0, []),
  (68, .bipush 109, 2, .int 109, 0, []),
  (70, .if_icmp .ne 10, 3, .null, 80, []),
  (73, .aload_n 0, 1, .null, 0, []),
  (74, .invokevirtual 117, 3, .null, 0, []),
  (77, .goto 37, 3, .null, 114, []),
  (80, .aload_n 0, 1, .null, 0, []),
  (81, .invokevirtual 81, 3, .null, 0, []),
  (84, .bipush 120, 2, .int 120, 0, []),
  (86, .if_icmp .ne 10, 3, .null, 96, []),
  (89, .aload_n 0, 1, .null, 0, []),
  (90, .invokevirtual 120, 3, .null, 0, []),
  (93, .goto 21, 3, .null, 114, []),
  (96, .aload_n 0, 1, .null, 0, []),
  (97, .aload_n 0, 1, .null, 0, []),
  (98, .invokevirtual 81, 3, .null, 0, []),
  (101, .bipush 97, 2, .int 97, 0, []),
  (103, .if_icmp .ne 7, 3, .null, 110, []),
  (106, .iconst 3, 1, .int 3, 0, []),
  (107, .goto 4, 3, .null, 111, []),
  (110, .iconst 1, 1, .int 1, 0, []),
  (111, .invokevirtual 91, 3, .null, 0, []),
  (114, .aload_n 0, 1, .null, 0, []),
  (115, .invokevirtual 114, 3, .null, 0, []),
  (118, .goto (-69), 3, .null, 49, []),
  (121, .return_, 1, .null, 0, [])]
theorem KM_reads : zCode gM_reads kM_reads := by unfold zCode; decide +kernel
def kM_skipsIfWell : List zR := [(0, .aload_n 0, 1, .null, 0, []),
  (1, .getfield 85, 3, .null, 0, []),
  (4, .ifCond .ne 7, 3, .null, 11, []),
  (7, .aload_n 0, 1, .null, 0, []),
  (8, .invokevirtual 88, 3, .null, 0, []),
  (11, .return_, 1, .null, 0, [])]
theorem KM_skipsIfWell : zCode gM_skipsIfWell kM_skipsIfWell := by unfold zCode; decide +kernel
def kM_takes : List zR := [(0, .aload_n 0, 1, .null, 0, []),
  (1, .aload_n 0, 1, .null, 0, []),
  (2, .getfield 108, 3, .null, 0, []),
  (5, .putfield 123, 3, .null, 0, []),
  (8, .aload_n 0, 1, .null, 0, []),
  (9, .aload_n 0, 1, .null, 0, []),
  (10, .getfield 111, 3, .null, 0, []),
  (13, .putfield 126, 3, .null, 0, []),
  (16, .aload_n 0, 1, .null, 0, []),
  (17, .aload_n 0, 1, .null, 0, []),
  (18, .getfield 95, 3, .null, 0, []),
  (21, .putfield 129, 3, .null, 0, []),
  (24, .aload_n 0, 1, .null, 0, []),
  (25, .aload_n 0, 1, .null, 0, []),
  (26, .getfield 105, 3, .null, 0, []),
  (29, .putfield 132, 3, .null, 0, []),
  (32, .iconst 0, 1, .int 0, 0, []),
  (33, .istore_n 1, 1, .null, 0, []),
  (34, .iload_n 1, 1, .null, 0, []),
  (35, .bipush 21, 2, .int 21, 0, []),
  (37, .if_icmp .ge 21, 3, .null, 58, []),
  (40, .aload_n 0, 1, .null, 0, []),
  (41, .getfield 17, 3, .null, 0, []),
  (44, .iload_n 1, 1, .null, 0, []),
  (45, .aload_n 0, 1, .null, 0, []),
  (46, .getfield 26, 3, .null, 0, []),
  (49, .iload_n 1, 1, .null, 0, []),
  (50, .iaload, 1, .null, 0, []),
  (51, .iastore, 1, .null, 0, []),
  (52, .iinc 1 1, 3, .int 1, 0, []),
  (55, .goto (-21), 3, .null, 34, []),
  (58, .iconst 0, 1, .int 0, 0, []),
  (59, .istore_n 1, 1, .null, 0, []),
  (60, .iload_n 1, 1, .null, 0, []),
  (61, .bipush 24, 2, .int 24, 0, []),
  (63, .if_icmp .ge 21, 3, .null, 84, []),
  (66, .aload_n 0, 1, .null, 0, []),
  (67, .getfield 23, 3, .null, 0, []),
  (70, .iload_n 1, 1, .null, 0, []),
  (71, .aload_n 0, 1, .null, 0, []),
  (72, .getfield 32, 3, .null, 0, []),
  (75, .iload_n 1, 1, .null, 0, []),
  (76, .iaload, 1, .null, 0, []),
  (77, .iastore, 1, .null, 0, []),
  (78, .iinc 1 1, 3, .int 1, 0, []),
  (81, .goto (-21), 3, .null, 60, []),
  (84, .iconst 0, 1, .int 0, 0, []),
  (85, .istore_n 1, 1, .null, 0, []),
  (86, .iload_n 1, 1, .null, 0, []),
  (87, .bipush 42, 2, .int 42, 0, []),
  (89, .if_icmp .ge 21, 3, .null, 110, []),
  (92, .aload_n 0, 1, .null, 0, []),
  (93, .getfield 20, 3, .null, 0, []),
  (96, .iload_n 1, 1, .null, 0, []),
  (97, .aload_n 0, 1, .null, 0, []),
  (98, .getfield 29, 3, .null, 0, []),
  (101, .iload_n 1, 1, .null, 0, []),
  (102, .iaload, 1, .null, 0, []),
  (103, .iastore, 1, .null, 0, []),
  (104, .iinc 1 1, 3, .int 1, 0, []),
  (107, .goto (-21), 3, .null, 86, []),
  (110, .return_, 1, .null, 0, [])]
theorem KM_takes : zCode gM_takes kM_takes := by unfold zCode; decide +kernel
def kM_town : List zR := [(0, .aload_n 0, 1, .null, 0, []),
  (1, .iconst 0, 1, .int 0, 0, []),
  (2, .putfield 78, 3, .null, 0, []),
  (5, .aload_n 0, 1, .null, 0, []),
  (6, .iconst 0, 1, .int 0, 0, []),
  (7, .putfield 85, 3, .null, 0, []),
  (10, .aload_n 0, 1, .null, 0, []),
  (11, .invokevirtual 88, 3, .null, 0, []),
  (14, .aload_n 0, 1, .null, 0, []),
  (15, .invokevirtual 81, 3, .null, 0, []),
  (18, .iconst (-1), 1, .int (-1), 0, []),
  (19, .if_icmp .ne 7, 3, .null, 26, []),
  (22, .iconst 1, 1, .int 1, 0, []),
  (23, .goto 4, 3, .null, 27, []),
  (26, .iconst 0, 1, .int 0, 0, []),
  (27, .istore_n 1, 1, .null, 0, []),
  (28, .iload_n 1, 1, .null, 0, []),
  (29, .ifCond .eq 26, 3, .null, 55, []),
  (32, .aload_n 0, 1, .null, 0, []),
  (33, .iconst 0, 1, .int 0, 0, []),
  (34, .putfield 108, 3, .null, 0, []),
  (37, .aload_n 0, 1, .null, 0, []),
  (38, .iconst 0, 1, .int 0, 0, []),
  (39, .putfield 111, 3, .null, 0, []),
  (42, .aload_n 0, 1, .null, 0, []),
  (43, .iconst 0, 1, .int 0, 0, []),
  (44, .putfield 95, 3, .null, 0, []),
  (47, .aload_n 0, 1, .null, 0, []),
  (48, .iconst 0, 1, .int 0, 0, []),
  (49, .putfield 105, 3, .null, 0, []),
  (52, .goto 7, 3, .null, 59, []),
  (55, .aload_n 0, 1, .null, 0, []),
  (56, .invokevirtual 135, 3, .null, 0, []),
  (59, .aload_n 0, 1, .null, 0, []),
  (60, .iconst 0, 1, .int 0, 0, []),
  (61, .putfield 74, 3, .null, 0, []),
  (64, .aload_n 0, 1, .null, 0, []),
  (65, .aload_n 0, 1, .null, 0, []),
  (66, .getfield 85, 3, .null, 0, []),
  (69, .ifCond .ne 7, 3, .null, 76, []),
  (72, .iconst (-1), 1, .int (-1), 0, []),
  (73, .goto 7, 3, .null, 80, []),
  (76, .aload_n 0, 1, .null, 0, []),
  (77, .getfield 78, 3, .null, 0, []),
  (80, .putfield 13, 3, .null, 0, []),
  (83, .aload_n 0, 1, .null, 0, []),
  (84, .getfield 85, 3, .null, 0, []),
  (87, .ifCond .eq 11, 3, .null, 98, []),
  (90, .bipush (-10), 2, .int (-10), 0, []),
  (92, .aload_n 0, 1, .null, 0, []),
  (93, .getfield 85, 3, .null, 0, []),
  (96, .isub, 1, .null, 0, []),
  (97, .ireturn, 1, .null, 0, []),
  (98, .aload_n 0, 1, .null, 0, []),
  (99, .iload_n 1, 1, .null, 0, []),
  (100, .ifCond .ne 7, 3, .null, 107, []),
  (103, .iconst 1, 1, .int 1, 0, []),
  (104, .goto 4, 3, .null, 108, []),
  (107, .iconst 0, 1, .int 0, 0, []),
  (108, .putfield 138, 3, .null, 0, []),
  (111, .aload_n 0, 1, .null, 0, []),
  (112, .invokevirtual 142, 3, .null, 0, []),
  (115, .iconst 0, 1, .int 0, 0, []),
  (116, .istore_n 2, 1, .null, 0, []),
  (117, .iload_n 2, 1, .null, 0, []),
  (118, .bipush 55, 2, .int 55, 0, []),
  (120, .if_icmp .ge 34, 3, .null, 154, []),
  (123, .aload_n 0, 1, .null, 0, []),
  (124, .getfield 35, 3, .null, 0, []),
  (127, .iload_n 2, 1, .null, 0, []),
  (128, .iload_n 2, 1, .null, 0, []),
  (129, .bipush 13, 2, .int 13, 0, []),
  (131, .if_icmp .lt 15, 3, .null, 146, []),
  (134, .aload_n 0, 1, .null, 0, []),
  (135, .getfield 20, 3, .null, 0, []),
  (138, .iload_n 2, 1, .null, 0, []),
  (139, .bipush 13, 2, .int 13, 0, []),
  (141, .isub, 1, .null, 0, []),
  (142, .iaload, 1, .null, 0, []),
  (143, .goto 4, 3, .null, 147, []),
  (146, .iconst 0, 1, .int 0, 0, []),
  (147, .iastore, 1, .null, 0, []),
  (148, .iinc 2 1, 3, .int 1, 0, []),
  (151, .goto (-34), 3, .null, 117, []),
  (154, .aload_n 0, 1, .null, 0, []),
  (155, .iconst 0, 1, .int 0, 0, []),
  (156, .putfield 145, 3, .null, 0, []),
  (159, .aload_n 0, 1, .null, 0, []),
  (160, .iconst 0, 1, .int 0, 0, []),
  (161, .putfield 148, 3, .null, 0, []),
  (164, .aload_n 0, 1, .null, 0, []),
  (165, .iconst 0, 1, .int 0, 0, []),
  (166, .putfield 151, 3, .null, 0, []),
  (169, .aload_n 0, 1, .null, 0, []),
  (170, .getfield 47, 3, .null, 0, []),
  (173, .iconst 0, 1, .int 0, 0, []),
  (174, .iconst 0, 1, .int 0, 0, []),
  (175, .bastore, 1, .null, 0, []),
  (176, .aload_n 0, 1, .null, 0, []),
  (177, .getfield 47, 3, .null, 0, []),
  (180, .iconst 1, 1, .int 1, 0, []),
  (181, .iconst 0, 1, .int 0, 0, []),
  (182, .bastore, 1, .null, 0, []),
  (183, .aload_n 0, 1, .null, 0, []),
  (184, .getfield 129, 3, .null, 0, []),
  (187, .ireturn, 1, .null, 0, [])]
theorem KM_town : zCode gM_town kM_town := by unfold zCode; decide +kernel
def kM_fault : List zR := [(0, .aload_n 0, 1, .null, 0, []),
  (1, .getfield 13, 3, .null, 0, []),
  (4, .ireturn, 1, .null, 0, [])]
theorem KM_fault : zCode gM_fault kM_fault := by unfold zCode; decide +kernel
def kM_isMan : List zR := [(0, .iload_n 1, 1, .null, 0, []),
  (1, .iconst 0, 1, .int 0, 0, []),
  (2, .aload_n 0, 1, .null, 0, []),
  (3, .getfield 129, 3, .null, 0, []),
  (6, .iconst 1, 1, .int 1, 0, []),
  (7, .isub, 1, .null, 0, []),
  (8, .invokestatic 69, 3, .null, 0, []),
  (11, .ireturn, 1, .null, 0, [])]
theorem KM_isMan : zCode gM_isMan kM_isMan := by unfold zCode; decide +kernel
def kM_isMishap : List zR := [(0, .iload_n 1, 1, .null, 0, []),
  (1, .iconst 0, 1, .int 0, 0, []),
  (2, .aload_n 0, 1, .null, 0, []),
  (3, .getfield 132, 3, .null, 0, []),
  (6, .iconst 1, 1, .int 1, 0, []),
  (7, .isub, 1, .null, 0, []),
  (8, .invokestatic 69, 3, .null, 0, []),
  (11, .ireturn, 1, .null, 0, [])]
theorem KM_isMishap : zCode gM_isMishap kM_isMishap := by unfold zCode; decide +kernel
def kM_blamedFor : List zR := [(0, .aload_n 0, 1, .null, 0, []),
  (1, .getfield 35, 3, .null, 0, []),
  (4, .bipush 7, 2, .int 7, 0, []),
  (6, .iload_n 1, 1, .null, 0, []),
  (7, .iadd, 1, .null, 0, []),
  (8, .iaload, 1, .null, 0, []),
  (9, .ireturn, 1, .null, 0, [])]
theorem KM_blamedFor : zCode gM_blamedFor kM_blamedFor := by unfold zCode; decide +kernel
def kM_free : List zR := [(0, .aload_n 0, 1, .null, 0, []),
  (1, .getfield 23, 3, .null, 0, []),
  (4, .bipush 6, 2, .int 6, 0, []),
  (6, .iload_n 1, 1, .null, 0, []),
  (7, .imul, 1, .null, 0, []),
  (8, .iconst 4, 1, .int 4, 0, []),
  (9, .iadd, 1, .null, 0, []),
  (10, .iaload, 1, .null, 0, []),
  (11, .aload_n 0, 1, .null, 0, []),
  (12, .iload_n 1, 1, .null, 0, []),
  (13, .invokevirtual 154, 3, .null, 0, []),
  (16, .invokestatic 158, 3, .null, 0, []),
  (19, .isub, 1, .null, 0, []),
  (20, .ireturn, 1, .null, 0, [])]
theorem KM_free : zCode gM_free kM_free := by unfold zCode; decide +kernel
def kM_allFree : List zR := [(0, .iconst 0, 1, .int 0, 0, []),
  (1, .istore_n 1, 1, .null, 0, []),
  (2, .iconst 0, 1, .int 0, 0, []),
  (3, .istore_n 2, 1, .null, 0, []),
  (4, .iload_n 2, 1, .null, 0, []),
  (5, .aload_n 0, 1, .null, 0, []),
  (6, .getfield 132, 3, .null, 0, []),
  (9, .if_icmp .ge 17, 3, .null, 26, []),
  (12, .iload_n 1, 1, .null, 0, []),
  (13, .aload_n 0, 1, .null, 0, []),
  (14, .iload_n 2, 1, .null, 0, []),
  (15, .invokevirtual 161, 3, .null, 0, []),
  (18, .iadd, 1, .null, 0, []),
  (19, .istore_n 1, 1, .null, 0, []),
  (20, .iinc 2 1, 3, .int 1, 0, []),
  (23, .goto (-19), 3, .null, 4, []),
  (26, .iload_n 1, 1, .null, 0, []),
  (27, .ireturn, 1, .null, 0, [])]
theorem KM_allFree : zCode gM_allFree kM_allFree := by unfold zCode; decide +kernel
def kM_told : List zR := [(0, .iload_n 1, 1, .null, 0, []),
  (1, .tableswitch 137 0 11 #[63, 76, 81, 86, 91, 96, 101, 109, 117, 122, 127, 132], 63, .null, 138, [64, 77, 82, 87, 92, 97, 102, 110, 118, 123, 128, 133]),
  (64, .aload_n 0, 1, .null, 0, []),
  (65, .getfield 138, 3, .null, 0, []),
  (68, .ifCond .eq 7, 3, .null, 75, []),
  (71, .iconst 1, 1, .int 1, 0, []),
  (72, .goto 4, 3, .null, 76, []),
  (75, .iconst 0, 1, .int 0, 0, []),
  (76, .ireturn, 1, .null, 0, []),
  (77, .aload_n 0, 1, .null, 0, []),
  (78, .getfield 123, 3, .null, 0, []),
  (81, .ireturn, 1, .null, 0, []),
  (82, .aload_n 0, 1, .null, 0, []),
  (83, .getfield 126, 3, .null, 0, []),
  (86, .ireturn, 1, .null, 0, []),
  (87, .aload_n 0, 1, .null, 0, []),
  (88, .getfield 129, 3, .null, 0, []),
  (91, .ireturn, 1, .null, 0, []),
  (92, .aload_n 0, 1, .null, 0, []),
  (93, .getfield 132, 3, .null, 0, []),
  (96, .ireturn, 1, .null, 0, []),
  (97, .aload_n 0, 1, .null, 0, []),
  (98, .getfield 74, 3, .null, 0, []),
  (101, .ireturn, 1, .null, 0, []),
  (102, .aload_n 0, 1, .null, 0, []),
  (103, .getfield 35, 3, .null, 0, []),
  (106, .bipush 12, 2, .int 12, 0, []),
  (108, .iaload, 1, .null, 0, []),
  (109, .ireturn, 1, .null, 0, []),
  (110, .aload_n 0, 1, .null, 0, []),
  (111, .getfield 35, 3, .null, 0, []),
  (114, .bipush 11, 2, .int 11, 0, []),
  (116, .iaload, 1, .null, 0, []),
  (117, .ireturn, 1, .null, 0, []),
  (118, .aload_n 0, 1, .null, 0, []),
  (119, .invokevirtual 164, 3, .null, 0, []),
  (122, .ireturn, 1, .null, 0, []),
  (123, .aload_n 0, 1, .null, 0, []),
  (124, .getfield 148, 3, .null, 0, []),
  (127, .ireturn, 1, .null, 0, []),
  (128, .aload_n 0, 1, .null, 0, []),
  (129, .getfield 151, 3, .null, 0, []),
  (132, .ireturn, 1, .null, 0, []),
  (133, .aload_n 0, 1, .null, 0, []),
  (134, .getfield 145, 3, .null, 0, []),
  (137, .ireturn, 1, .null, 0, []),
  (138, .ldc 73, 2, .null, 0, []),
  (140, .ireturn, 1, .null, 0, [])]
theorem KM_told : zCode gM_told kM_told := by unfold zCode; decide +kernel
def kM_blamesOf : List zR := [(0, .iconst 0, 1, .int 0, 0, []),
  (1, .istore_n 2, 1, .null, 0, []),
  (2, .iconst 0, 1, .int 0, 0, []),
  (3, .istore_n 3, 1, .null, 0, []),
  (4, .iload_n 3, 1, .null, 0, []),
  (5, .aload_n 0, 1, .null, 0, []),
  (6, .getfield 132, 3, .null, 0, []),
  (9, .if_icmp .ge 31, 3, .null, 40, []),
  (12, .iload_n 2, 1, .null, 0, []),
  (13, .aload_n 0, 1, .null, 0, []),
  (14, .iload_n 3, 1, .null, 0, []),
  (15, .invokevirtual 154, 3, .null, 0, []),
  (18, .iload_n 1, 1, .null, 0, []),
  (19, .invokestatic 167, 3, .null, 0, []),
  (22, .ifCond .eq 9, 3, .null, 31, []),
  (25, .iconst 1, 1, .int 1, 0, []),
  (26, .iload_n 3, 1, .null, 0, []),
  (27, .ishl, 1, .null, 0, []),
  (28, .goto 4, 3, .null, 32, []),
  (31, .iconst 0, 1, .int 0, 0, []),
  (32, .ior, 1, .null, 0, []),
  (33, .istore_n 2, 1, .null, 0, []),
  (34, .iinc 3 1, 3, .int 1, 0, []),
  (37, .goto (-33), 3, .null, 4, []),
  (40, .iload_n 2, 1, .null, 0, []),
  (41, .ireturn, 1, .null, 0, [])]
theorem KM_blamesOf : zCode gM_blamesOf kM_blamesOf := by unfold zCode; decide +kernel
def kM_man : List zR := [(0, .aload_n 0, 1, .null, 0, []),
  (1, .iload_n 1, 1, .null, 0, []),
  (2, .invokevirtual 171, 3, .null, 0, []),
  (5, .ifCond .ne 6, 3, .null, 11, []),
  (8, .ldc 175, 2, .null, 0, []),
  (10, .ireturn, 1, .null, 0, []),
  (11, .iload_n 2, 1, .null, 0, []),
  (12, .iconst 0, 1, .int 0, 0, []),
  (13, .bipush 10, 2, .int 10, 0, []),
  (15, .invokestatic 69, 3, .null, 0, []),
  (18, .ifCond .ne 6, 3, .null, 24, []),
  (21, .ldc 73, 2, .null, 0, []),
  (23, .ireturn, 1, .null, 0, []),
  (24, .iload_n 2, 1, .null, 0, []),
  (25, .iconst 3, 1, .int 3, 0, []),
  (26, .if_icmp .ge 16, 3, .null, 42, []),
  (29, .aload_n 0, 1, .null, 0, []),
  (30, .getfield 17, 3, .null, 0, []),
  (33, .iconst 3, 1, .int 3, 0, []),
  (34, .iload_n 1, 1, .null, 0, []),
  (35, .imul, 1, .null, 0, []),
  (36, .iload_n 2, 1, .null, 0, []),
  (37, .iadd, 1, .null, 0, []),
  (38, .iaload, 1, .null, 0, []),
  (39, .goto 48, 3, .null, 87, []),
  (42, .iload_n 2, 1, .null, 0, []),
  (43, .iconst 3, 1, .int 3, 0, []),
  (44, .if_icmp .ne 14, 3, .null, 58, []),
  (47, .aload_n 0, 1, .null, 0, []),
  (48, .getfield 35, 3, .null, 0, []),
  (51, .iconst 0, 1, .int 0, 0, []),
  (52, .iload_n 1, 1, .null, 0, []),
  (53, .iadd, 1, .null, 0, []),
  (54, .iaload, 1, .null, 0, []),
  (55, .goto 32, 3, .null, 87, []),
  (58, .iload_n 2, 1, .null, 0, []),
  (59, .iconst 4, 1, .int 4, 0, []),
  (60, .if_icmp .ne 11, 3, .null, 71, []),
  (63, .aload_n 0, 1, .null, 0, []),
  (64, .iload_n 1, 1, .null, 0, []),
  (65, .invokevirtual 176, 3, .null, 0, []),
  (68, .goto 19, 3, .null, 87, []),
  (71, .aload_n 0, 1, .null, 0, []),
  (72, .getfield 35, 3, .null, 0, []),
  (75, .bipush 13, 2, .int 13, 0, []),
  (77, .bipush 6, 2, .int 6, 0, []),
  (79, .iload_n 1, 1, .null, 0, []),
  (80, .imul, 1, .null, 0, []),
  (81, .iadd, 1, .null, 0, []),
  (82, .iload_n 2, 1, .null, 0, []),
  (83, .iadd, 1, .null, 0, []),
  (84, .iconst 5, 1, .int 5, 0, []),
  (85, .isub, 1, .null, 0, []),
  (86, .iaload, 1, .null, 0, []),
  (87, .ireturn, 1, .null, 0, [])]
theorem KM_man : zCode gM_man kM_man := by unfold zCode; decide +kernel
def kM_mishap : List zR := [(0, .aload_n 0, 1, .null, 0, []),
  (1, .iload_n 1, 1, .null, 0, []),
  (2, .invokevirtual 179, 3, .null, 0, []),
  (5, .ifCond .ne 6, 3, .null, 11, []),
  (8, .ldc 175, 2, .null, 0, []),
  (10, .ireturn, 1, .null, 0, []),
  (11, .iload_n 2, 1, .null, 0, []),
  (12, .iconst 0, 1, .int 0, 0, []),
  (13, .bipush 6, 2, .int 6, 0, []),
  (15, .invokestatic 69, 3, .null, 0, []),
  (18, .ifCond .ne 6, 3, .null, 24, []),
  (21, .ldc 73, 2, .null, 0, []),
  (23, .ireturn, 1, .null, 0, []),
  (24, .iload_n 2, 1, .null, 0, []),
  (25, .bipush 6, 2, .int 6, 0, []),
  (27, .if_icmp .ge 17, 3, .null, 44, []),
  (30, .aload_n 0, 1, .null, 0, []),
  (31, .getfield 23, 3, .null, 0, []),
  (34, .bipush 6, 2, .int 6, 0, []),
  (36, .iload_n 1, 1, .null, 0, []),
  (37, .imul, 1, .null, 0, []),
  (38, .iload_n 2, 1, .null, 0, []),
  (39, .iadd, 1, .null, 0, []),
  (40, .iaload, 1, .null, 0, []),
  (41, .goto 8, 3, .null, 49, []),
  (44, .aload_n 0, 1, .null, 0, []),
  (45, .iload_n 1, 1, .null, 0, []),
  (46, .invokevirtual 154, 3, .null, 0, []),
  (49, .ireturn, 1, .null, 0, [])]
theorem KM_mishap : zCode gM_mishap kM_mishap := by unfold zCode; decide +kernel
def kM_whereIs : List zR := [(0, .aload_n 0, 1, .null, 0, []),
  (1, .getfield 35, 3, .null, 0, []),
  (4, .bipush 13, 2, .int 13, 0, []),
  (6, .bipush 6, 2, .int 6, 0, []),
  (8, .iload_n 1, 1, .null, 0, []),
  (9, .imul, 1, .null, 0, []),
  (10, .iadd, 1, .null, 0, []),
  (11, .aload_n 0, 1, .null, 0, []),
  (12, .getfield 23, 3, .null, 0, []),
  (15, .bipush 6, 2, .int 6, 0, []),
  (17, .iload_n 2, 1, .null, 0, []),
  (18, .imul, 1, .null, 0, []),
  (19, .iconst 1, 1, .int 1, 0, []),
  (20, .iadd, 1, .null, 0, []),
  (21, .iaload, 1, .null, 0, []),
  (22, .iadd, 1, .null, 0, []),
  (23, .iaload, 1, .null, 0, []),
  (24, .ireturn, 1, .null, 0, [])]
theorem KM_whereIs : zCode gM_whereIs kM_whereIs := by unfold zCode; decide +kernel
def kM_isNear : List zR := [(0, .aload_n 0, 1, .null, 0, []),
  (1, .iload_n 1, 1, .null, 0, []),
  (2, .iload_n 2, 1, .null, 0, []),
  (3, .invokevirtual 182, 3, .null, 0, []),
  (6, .iconst (-1), 1, .int (-1), 0, []),
  (7, .if_icmp .eq 29, 3, .null, 36, []),
  (10, .aload_n 0, 1, .null, 0, []),
  (11, .iload_n 1, 1, .null, 0, []),
  (12, .iload_n 2, 1, .null, 0, []),
  (13, .invokevirtual 182, 3, .null, 0, []),
  (16, .aload_n 0, 1, .null, 0, []),
  (17, .getfield 23, 3, .null, 0, []),
  (20, .bipush 6, 2, .int 6, 0, []),
  (22, .iload_n 2, 1, .null, 0, []),
  (23, .imul, 1, .null, 0, []),
  (24, .iaload, 1, .null, 0, []),
  (25, .invokestatic 185, 3, .null, 0, []),
  (28, .iconst 2, 1, .int 2, 0, []),
  (29, .if_icmp .ge 7, 3, .null, 36, []),
  (32, .iconst 1, 1, .int 1, 0, []),
  (33, .goto 4, 3, .null, 37, []),
  (36, .iconst 0, 1, .int 0, 0, []),
  (37, .ireturn, 1, .null, 0, [])]
theorem KM_isNear : zCode gM_isNear kM_isNear := by unfold zCode; decide +kernel
def kM_can : List zR := [(0, .aload_n 0, 1, .null, 0, []),
  (1, .getfield 23, 3, .null, 0, []),
  (4, .bipush 6, 2, .int 6, 0, []),
  (6, .iload_n 2, 1, .null, 0, []),
  (7, .imul, 1, .null, 0, []),
  (8, .iconst 2, 1, .int 2, 0, []),
  (9, .iadd, 1, .null, 0, []),
  (10, .iaload, 1, .null, 0, []),
  (11, .aload_n 0, 1, .null, 0, []),
  (12, .getfield 17, 3, .null, 0, []),
  (15, .iconst 3, 1, .int 3, 0, []),
  (16, .iload_n 1, 1, .null, 0, []),
  (17, .imul, 1, .null, 0, []),
  (18, .iaload, 1, .null, 0, []),
  (19, .iconst (-1), 1, .int (-1), 0, []),
  (20, .ixor, 1, .null, 0, []),
  (21, .iand, 1, .null, 0, []),
  (22, .ifCond .ne 7, 3, .null, 29, []),
  (25, .iconst 1, 1, .int 1, 0, []),
  (26, .goto 4, 3, .null, 30, []),
  (29, .iconst 0, 1, .int 0, 0, []),
  (30, .ireturn, 1, .null, 0, [])]
theorem KM_can : zCode gM_can kM_can := by unfold zCode; decide +kernel
def kM_beliefAt : List zR := [(0, .aload_n 0, 1, .null, 0, []),
  (1, .getfield 17, 3, .null, 0, []),
  (4, .iconst 3, 1, .int 3, 0, []),
  (5, .iload_n 1, 1, .null, 0, []),
  (6, .imul, 1, .null, 0, []),
  (7, .iconst 1, 1, .int 1, 0, []),
  (8, .iadd, 1, .null, 0, []),
  (9, .iaload, 1, .null, 0, []),
  (10, .aload_n 0, 1, .null, 0, []),
  (11, .getfield 23, 3, .null, 0, []),
  (14, .bipush 6, 2, .int 6, 0, []),
  (16, .iload_n 2, 1, .null, 0, []),
  (17, .imul, 1, .null, 0, []),
  (18, .iconst 3, 1, .int 3, 0, []),
  (19, .iadd, 1, .null, 0, []),
  (20, .iaload, 1, .null, 0, []),
  (21, .invokestatic 167, 3, .null, 0, []),
  (24, .ifCond .eq 7, 3, .null, 31, []),
  (27, .iconst 2, 1, .int 2, 0, []),
  (28, .goto 4, 3, .null, 32, []),
  (31, .iconst 0, 1, .int 0, 0, []),
  (32, .istore 5, 2, .null, 0, []),
  (34, .iconst 1, 1, .int 1, 0, []),
  (35, .iload 5, 2, .null, 0, []),
  (37, .iadd, 1, .null, 0, []),
  (38, .iload_n 3, 1, .null, 0, []),
  (39, .aload_n 0, 1, .null, 0, []),
  (40, .getfield 23, 3, .null, 0, []),
  (43, .bipush 6, 2, .int 6, 0, []),
  (45, .iload_n 2, 1, .null, 0, []),
  (46, .imul, 1, .null, 0, []),
  (47, .iaload, 1, .null, 0, []),
  (48, .if_icmp .ne 7, 3, .null, 55, []),
  (51, .iconst 2, 1, .int 2, 0, []),
  (52, .goto 4, 3, .null, 56, []),
  (55, .iconst 0, 1, .int 0, 0, []),
  (56, .iadd, 1, .null, 0, []),
  (57, .iload 4, 2, .null, 0, []),
  (59, .isub, 1, .null, 0, []),
  (60, .ireturn, 1, .null, 0, [])]
theorem KM_beliefAt : zCode gM_beliefAt kM_beliefAt := by unfold zCode; decide +kernel
def kM_fits : List zR := [(0, .aload_n 0, 1, .null, 0, []),
  (1, .iload_n 1, 1, .null, 0, []),
  (2, .iload_n 2, 1, .null, 0, []),
  (3, .invokevirtual 188, 3, .null, 0, []),
  (6, .ifCond .eq 36, 3, .null, 42, []),
  (9, .aload_n 0, 1, .null, 0, []),
  (10, .iload_n 1, 1, .null, 0, []),
  (11, .iload_n 2, 1, .null, 0, []),
  (12, .invokevirtual 191, 3, .null, 0, []),
  (15, .ifCond .eq 27, 3, .null, 42, []),
  (18, .aload_n 0, 1, .null, 0, []),
  (19, .iload_n 1, 1, .null, 0, []),
  (20, .iload_n 2, 1, .null, 0, []),
  (21, .aload_n 0, 1, .null, 0, []),
  (22, .iload_n 1, 1, .null, 0, []),
  (23, .iload_n 2, 1, .null, 0, []),
  (24, .invokevirtual 182, 3, .null, 0, []),
  (27, .iload_n 3, 1, .null, 0, []),
  (28, .invokevirtual 194, 3, .null, 0, []),
  (31, .aload_n 0, 1, .null, 0, []),
  (32, .getfield 123, 3, .null, 0, []),
  (35, .if_icmp .lt 7, 3, .null, 42, []),
  (38, .iconst 1, 1, .int 1, 0, []),
  (39, .goto 4, 3, .null, 43, []),
  (42, .iconst 0, 1, .int 0, 0, []),
  (43, .ireturn, 1, .null, 0, [])]
theorem KM_fits : zCode gM_fits kM_fits := by unfold zCode; decide +kernel
def kM_belief : List zR := [(0, .aload_n 0, 1, .null, 0, []),
  (1, .iload_n 1, 1, .null, 0, []),
  (2, .invokevirtual 171, 3, .null, 0, []),
  (5, .ifCond .eq 11, 3, .null, 16, []),
  (8, .aload_n 0, 1, .null, 0, []),
  (9, .iload_n 2, 1, .null, 0, []),
  (10, .invokevirtual 179, 3, .null, 0, []),
  (13, .ifCond .ne 6, 3, .null, 19, []),
  (16, .ldc 175, 2, .null, 0, []),
  (18, .ireturn, 1, .null, 0, []),
  (19, .aload_n 0, 1, .null, 0, []),
  (20, .iload_n 1, 1, .null, 0, []),
  (21, .iload_n 2, 1, .null, 0, []),
  (22, .invokevirtual 188, 3, .null, 0, []),
  (25, .ifCond .eq 38, 3, .null, 63, []),
  (28, .aload_n 0, 1, .null, 0, []),
  (29, .iload_n 1, 1, .null, 0, []),
  (30, .iload_n 2, 1, .null, 0, []),
  (31, .invokevirtual 191, 3, .null, 0, []),
  (34, .ifCond .eq 29, 3, .null, 63, []),
  (37, .bipush 10, 2, .int 10, 0, []),
  (39, .aload_n 0, 1, .null, 0, []),
  (40, .iload_n 1, 1, .null, 0, []),
  (41, .iload_n 2, 1, .null, 0, []),
  (42, .aload_n 0, 1, .null, 0, []),
  (43, .iload_n 1, 1, .null, 0, []),
  (44, .iload_n 2, 1, .null, 0, []),
  (45, .invokevirtual 182, 3, .null, 0, []),
  (48, .aload_n 0, 1, .null, 0, []),
  (49, .getfield 35, 3, .null, 0, []),
  (52, .iconst 0, 1, .int 0, 0, []),
  (53, .iload_n 1, 1, .null, 0, []),
  (54, .iadd, 1, .null, 0, []),
  (55, .iaload, 1, .null, 0, []),
  (56, .invokevirtual 194, 3, .null, 0, []),
  (59, .iadd, 1, .null, 0, []),
  (60, .goto 4, 3, .null, 64, []),
  (63, .iconst 0, 1, .int 0, 0, []),
  (64, .ireturn, 1, .null, 0, [])]
theorem KM_belief : zCode gM_belief kM_belief := by unfold zCode; decide +kernel
def kM_areFar : List zR := [(0, .aload_n 0, 1, .null, 0, []),
  (1, .getfield 23, 3, .null, 0, []),
  (4, .bipush 6, 2, .int 6, 0, []),
  (6, .iload_n 1, 1, .null, 0, []),
  (7, .imul, 1, .null, 0, []),
  (8, .iaload, 1, .null, 0, []),
  (9, .aload_n 0, 1, .null, 0, []),
  (10, .getfield 23, 3, .null, 0, []),
  (13, .bipush 6, 2, .int 6, 0, []),
  (15, .iload_n 2, 1, .null, 0, []),
  (16, .imul, 1, .null, 0, []),
  (17, .iaload, 1, .null, 0, []),
  (18, .invokestatic 185, 3, .null, 0, []),
  (21, .aload_n 0, 1, .null, 0, []),
  (22, .getfield 23, 3, .null, 0, []),
  (25, .bipush 6, 2, .int 6, 0, []),
  (27, .iload_n 1, 1, .null, 0, []),
  (28, .imul, 1, .null, 0, []),
  (29, .iconst 1, 1, .int 1, 0, []),
  (30, .iadd, 1, .null, 0, []),
  (31, .iaload, 1, .null, 0, []),
  (32, .aload_n 0, 1, .null, 0, []),
  (33, .getfield 23, 3, .null, 0, []),
  (36, .bipush 6, 2, .int 6, 0, []),
  (38, .iload_n 2, 1, .null, 0, []),
  (39, .imul, 1, .null, 0, []),
  (40, .iconst 1, 1, .int 1, 0, []),
  (41, .iadd, 1, .null, 0, []),
  (42, .iaload, 1, .null, 0, []),
  (43, .invokestatic 185, 3, .null, 0, []),
  (46, .if_icmp .le 7, 3, .null, 53, []),
  (49, .iconst 1, 1, .int 1, 0, []),
  (50, .goto 4, 3, .null, 54, []),
  (53, .iconst 0, 1, .int 0, 0, []),
  (54, .ireturn, 1, .null, 0, [])]
theorem KM_areFar : zCode gM_areFar kM_areFar := by unfold zCode; decide +kernel
def kM_mayBe : List zR := [(0, .aload_n 0, 1, .null, 0, []),
  (1, .iload_n 2, 1, .null, 0, []),
  (2, .invokevirtual 161, 3, .null, 0, []),
  (5, .ifCond .le 36, 3, .null, 41, []),
  (8, .aload_n 0, 1, .null, 0, []),
  (9, .iload_n 2, 1, .null, 0, []),
  (10, .invokevirtual 154, 3, .null, 0, []),
  (13, .iload_n 1, 1, .null, 0, []),
  (14, .invokestatic 167, 3, .null, 0, []),
  (17, .ifCond .ne 24, 3, .null, 41, []),
  (20, .aload_n 0, 1, .null, 0, []),
  (21, .iload_n 1, 1, .null, 0, []),
  (22, .iload_n 2, 1, .null, 0, []),
  (23, .aload_n 0, 1, .null, 0, []),
  (24, .getfield 35, 3, .null, 0, []),
  (27, .iconst 0, 1, .int 0, 0, []),
  (28, .iload_n 1, 1, .null, 0, []),
  (29, .iadd, 1, .null, 0, []),
  (30, .iaload, 1, .null, 0, []),
  (31, .invokevirtual 198, 3, .null, 0, []),
  (34, .ifCond .eq 7, 3, .null, 41, []),
  (37, .iconst 1, 1, .int 1, 0, []),
  (38, .goto 4, 3, .null, 42, []),
  (41, .iconst 0, 1, .int 0, 0, []),
  (42, .istore_n 3, 1, .null, 0, []),
  (43, .iconst 0, 1, .int 0, 0, []),
  (44, .istore 4, 2, .null, 0, []),
  (46, .iload 4, 2, .null, 0, []),
  (48, .aload_n 0, 1, .null, 0, []),
  (49, .getfield 132, 3, .null, 0, []),
  (52, .if_icmp .ge 42, 3, .null, 94, []),
  (55, .iload_n 3, 1, .null, 0, []),
  (56, .ifCond .eq 30, 3, .null, 86, []),
  (59, .aload_n 0, 1, .null, 0, []),
  (60, .iload 4, 2, .null, 0, []),
  (62, .invokevirtual 154, 3, .null, 0, []),
  (65, .iload_n 1, 1, .null, 0, []),
  (66, .invokestatic 167, 3, .null, 0, []),
  (69, .ifCond .eq 13, 3, .null, 82, []),
  (72, .aload_n 0, 1, .null, 0, []),
  (73, .iload_n 2, 1, .null, 0, []),
  (74, .iload 4, 2, .null, 0, []),
  (76, .invokevirtual 201, 3, .null, 0, []),
  (79, .ifCond .ne 7, 3, .null, 86, []),
  (82, .iconst 1, 1, .int 1, 0, []),
  (83, .goto 4, 3, .null, 87, []),
  (86, .iconst 0, 1, .int 0, 0, []),
  (87, .istore_n 3, 1, .null, 0, []),
  (88, .iinc 4 1, 3, .int 1, 0, []),
  (91, .goto (-45), 3, .null, 46, []),
  (94, .iload_n 3, 1, .null, 0, []),
  (95, .ireturn, 1, .null, 0, [])]
theorem KM_mayBe : zCode gM_mayBe kM_mayBe := by unfold zCode; decide +kernel
def kM_mayFor : List zR := [(0, .iconst 0, 1, .int 0, 0, []),
  (1, .istore_n 2, 1, .null, 0, []),
  (2, .iconst 0, 1, .int 0, 0, []),
  (3, .istore_n 3, 1, .null, 0, []),
  (4, .iload_n 3, 1, .null, 0, []),
  (5, .aload_n 0, 1, .null, 0, []),
  (6, .getfield 129, 3, .null, 0, []),
  (9, .if_icmp .ge 28, 3, .null, 37, []),
  (12, .iload_n 2, 1, .null, 0, []),
  (13, .aload_n 0, 1, .null, 0, []),
  (14, .iload_n 3, 1, .null, 0, []),
  (15, .iload_n 1, 1, .null, 0, []),
  (16, .invokevirtual 204, 3, .null, 0, []),
  (19, .ifCond .eq 9, 3, .null, 28, []),
  (22, .iconst 1, 1, .int 1, 0, []),
  (23, .iload_n 3, 1, .null, 0, []),
  (24, .ishl, 1, .null, 0, []),
  (25, .goto 4, 3, .null, 29, []),
  (28, .iconst 0, 1, .int 0, 0, []),
  (29, .ior, 1, .null, 0, []),
  (30, .istore_n 2, 1, .null, 0, []),
  (31, .iinc 3 1, 3, .int 1, 0, []),
  (34, .goto (-30), 3, .null, 4, []),
  (37, .iload_n 2, 1, .null, 0, []),
  (38, .ireturn, 1, .null, 0, [])]
theorem KM_mayFor : zCode gM_mayFor kM_mayFor := by unfold zCode; decide +kernel
def kM_copies : List zR := [(0, .iconst 0, 1, .int 0, 0, []),
  (1, .istore 4, 2, .null, 0, []),
  (3, .iload 4, 2, .null, 0, []),
  (5, .bipush 55, 2, .int 55, 0, []),
  (7, .if_icmp .ge 21, 3, .null, 28, []),
  (10, .aload_n 2, 1, .null, 0, []),
  (11, .iload_n 3, 1, .null, 0, []),
  (12, .iload 4, 2, .null, 0, []),
  (14, .iadd, 1, .null, 0, []),
  (15, .aload_n 0, 1, .null, 0, []),
  (16, .iload_n 1, 1, .null, 0, []),
  (17, .iload 4, 2, .null, 0, []),
  (19, .iadd, 1, .null, 0, []),
  (20, .iaload, 1, .null, 0, []),
  (21, .iastore, 1, .null, 0, []),
  (22, .iinc 4 1, 3, .int 1, 0, []),
  (25, .goto (-22), 3, .null, 3, []),
  (28, .return_, 1, .null, 0, [])]
theorem KM_copies : zCode gM_copies kM_copies := by unfold zCode; decide +kernel
def kM_notes : List zR := [(0, .aload_n 0, 1, .null, 0, []),
  (1, .getfield 145, 3, .null, 0, []),
  (4, .bipush 30, 2, .int 30, 0, []),
  (6, .if_icmp .ne 43, 3, .null, 49, []),
  (9, .iconst 0, 1, .int 0, 0, []),
  (10, .istore_n 1, 1, .null, 0, []),
  (11, .iload_n 1, 1, .null, 0, []),
  (12, .sipush 1595, 3, .int 1595, 0, []),
  (15, .if_icmp .ge 24, 3, .null, 39, []),
  (18, .aload_n 0, 1, .null, 0, []),
  (19, .getfield 38, 3, .null, 0, []),
  (22, .iload_n 1, 1, .null, 0, []),
  (23, .aload_n 0, 1, .null, 0, []),
  (24, .getfield 38, 3, .null, 0, []),
  (27, .iload_n 1, 1, .null, 0, []),
  (28, .bipush 55, 2, .int 55, 0, []),
  (30, .iadd, 1, .null, 0, []),
  (31, .iaload, 1, .null, 0, []),
  (32, .iastore, 1, .null, 0, []),
  (33, .iinc 1 1, 3, .int 1, 0, []),
  (36, .goto (-25), 3, .null, 11, []),
  (39, .aload_n 0, 1, .null, 0, []),
  (40, .dup, 1, .null, 0, []),
  (41, .getfield 145, 3, .null, 0, []),
  (44, .iconst 1, 1, .int 1, 0, []),
  (45, .isub, 1, .null, 0, []),
  (46, .putfield 145, 3, .null, 0, []),
  (49, .aload_n 0, 1, .null, 0, []),
  (50, .getfield 35, 3, .null, 0, []),
  (53, .iconst 0, 1, .int 0, 0, []),
  (54, .aload_n 0, 1, .null, 0, []),
  (55, .getfield 38, 3, .null, 0, []),
  (58, .bipush 55, 2, .int 55, 0, []),
  (60, .aload_n 0, 1, .null, 0, []),
  (61, .getfield 145, 3, .null, 0, []),
  (64, .imul, 1, .null, 0, []),
  (65, .invokestatic 207, 3, .null, 0, []),
  (68, .aload_n 0, 1, .null, 0, []),
  (69, .dup, 1, .null, 0, []),
  (70, .getfield 145, 3, .null, 0, []),
  (73, .iconst 1, 1, .int 1, 0, []),
  (74, .iadd, 1, .null, 0, []),
  (75, .putfield 145, 3, .null, 0, []),
  (78, .return_, 1, .null, 0, [])]
theorem KM_notes : zCode gM_notes kM_notes := by unfold zCode; decide +kernel
def kM_blames : List zR := [(0, .aload_n 0, 1, .null, 0, []),
  (1, .getfield 35, 3, .null, 0, []),
  (4, .bipush 7, 2, .int 7, 0, []),
  (6, .iload_n 2, 1, .null, 0, []),
  (7, .iadd, 1, .null, 0, []),
  (8, .dup2, 1, .null, 0, []),
  (9, .iaload, 1, .null, 0, []),
  (10, .iconst 1, 1, .int 1, 0, []),
  (11, .iload_n 1, 1, .null, 0, []),
  (12, .ishl, 1, .null, 0, []),
  (13, .ior, 1, .null, 0, []),
  (14, .iastore, 1, .null, 0, []),
  (15, .aload_n 0, 1, .null, 0, []),
  (16, .getfield 35, 3, .null, 0, []),
  (19, .iconst 0, 1, .int 0, 0, []),
  (20, .iload_n 1, 1, .null, 0, []),
  (21, .iadd, 1, .null, 0, []),
  (22, .dup2, 1, .null, 0, []),
  (23, .iaload, 1, .null, 0, []),
  (24, .aload_n 0, 1, .null, 0, []),
  (25, .getfield 35, 3, .null, 0, []),
  (28, .iconst 0, 1, .int 0, 0, []),
  (29, .iload_n 1, 1, .null, 0, []),
  (30, .iadd, 1, .null, 0, []),
  (31, .iaload, 1, .null, 0, []),
  (32, .bipush 9, 2, .int 9, 0, []),
  (34, .if_icmp .ge 7, 3, .null, 41, []),
  (37, .iconst 1, 1, .int 1, 0, []),
  (38, .goto 4, 3, .null, 42, []),
  (41, .iconst 0, 1, .int 0, 0, []),
  (42, .iadd, 1, .null, 0, []),
  (43, .iastore, 1, .null, 0, []),
  (44, .aload_n 0, 1, .null, 0, []),
  (45, .getfield 35, 3, .null, 0, []),
  (48, .bipush 11, 2, .int 11, 0, []),
  (50, .dup2, 1, .null, 0, []),
  (51, .iaload, 1, .null, 0, []),
  (52, .aload_n 0, 1, .null, 0, []),
  (53, .getfield 17, 3, .null, 0, []),
  (56, .iconst 3, 1, .int 3, 0, []),
  (57, .iload_n 1, 1, .null, 0, []),
  (58, .imul, 1, .null, 0, []),
  (59, .iconst 2, 1, .int 2, 0, []),
  (60, .iadd, 1, .null, 0, []),
  (61, .iaload, 1, .null, 0, []),
  (62, .iadd, 1, .null, 0, []),
  (63, .iastore, 1, .null, 0, []),
  (64, .return_, 1, .null, 0, [])]
theorem KM_blames : zCode gM_blames kM_blames := by unfold zCode; decide +kernel
def kM_blame : List zR := [(0, .aload_n 0, 1, .null, 0, []),
  (1, .iload_n 1, 1, .null, 0, []),
  (2, .invokevirtual 171, 3, .null, 0, []),
  (5, .ifCond .eq 11, 3, .null, 16, []),
  (8, .aload_n 0, 1, .null, 0, []),
  (9, .iload_n 2, 1, .null, 0, []),
  (10, .invokevirtual 179, 3, .null, 0, []),
  (13, .ifCond .ne 6, 3, .null, 19, []),
  (16, .ldc 175, 2, .null, 0, []),
  (18, .ireturn, 1, .null, 0, []),
  (19, .aload_n 0, 1, .null, 0, []),
  (20, .iload_n 1, 1, .null, 0, []),
  (21, .iload_n 2, 1, .null, 0, []),
  (22, .invokevirtual 204, 3, .null, 0, []),
  (25, .ifCond .ne 6, 3, .null, 31, []),
  (28, .ldc 211, 2, .null, 0, []),
  (30, .ireturn, 1, .null, 0, []),
  (31, .aload_n 0, 1, .null, 0, []),
  (32, .invokevirtual 212, 3, .null, 0, []),
  (35, .aload_n 0, 1, .null, 0, []),
  (36, .iload_n 1, 1, .null, 0, []),
  (37, .iload_n 2, 1, .null, 0, []),
  (38, .invokevirtual 215, 3, .null, 0, []),
  (41, .aload_n 0, 1, .null, 0, []),
  (42, .getfield 17, 3, .null, 0, []),
  (45, .iconst 3, 1, .int 3, 0, []),
  (46, .iload_n 1, 1, .null, 0, []),
  (47, .imul, 1, .null, 0, []),
  (48, .iconst 2, 1, .int 2, 0, []),
  (49, .iadd, 1, .null, 0, []),
  (50, .iaload, 1, .null, 0, []),
  (51, .ireturn, 1, .null, 0, [])]
theorem KM_blame : zCode gM_blame kM_blame := by unfold zCode; decide +kernel
def kM_clear : List zR := [(0, .aload_n 0, 1, .null, 0, []),
  (1, .iload_n 1, 1, .null, 0, []),
  (2, .invokevirtual 171, 3, .null, 0, []),
  (5, .ifCond .eq 11, 3, .null, 16, []),
  (8, .aload_n 0, 1, .null, 0, []),
  (9, .iload_n 2, 1, .null, 0, []),
  (10, .invokevirtual 179, 3, .null, 0, []),
  (13, .ifCond .ne 6, 3, .null, 19, []),
  (16, .ldc 175, 2, .null, 0, []),
  (18, .ireturn, 1, .null, 0, []),
  (19, .aload_n 0, 1, .null, 0, []),
  (20, .iload_n 2, 1, .null, 0, []),
  (21, .invokevirtual 154, 3, .null, 0, []),
  (24, .iload_n 1, 1, .null, 0, []),
  (25, .invokestatic 167, 3, .null, 0, []),
  (28, .ifCond .ne 6, 3, .null, 34, []),
  (31, .ldc 211, 2, .null, 0, []),
  (33, .ireturn, 1, .null, 0, []),
  (34, .aload_n 0, 1, .null, 0, []),
  (35, .invokevirtual 212, 3, .null, 0, []),
  (38, .aload_n 0, 1, .null, 0, []),
  (39, .getfield 35, 3, .null, 0, []),
  (42, .bipush 7, 2, .int 7, 0, []),
  (44, .iload_n 2, 1, .null, 0, []),
  (45, .iadd, 1, .null, 0, []),
  (46, .dup2, 1, .null, 0, []),
  (47, .iaload, 1, .null, 0, []),
  (48, .iconst 1, 1, .int 1, 0, []),
  (49, .iload_n 1, 1, .null, 0, []),
  (50, .ishl, 1, .null, 0, []),
  (51, .iconst (-1), 1, .int (-1), 0, []),
  (52, .ixor, 1, .null, 0, []),
  (53, .iand, 1, .null, 0, []),
  (54, .iastore, 1, .null, 0, []),
  (55, .aload_n 0, 1, .null, 0, []),
  (56, .getfield 35, 3, .null, 0, []),
  (59, .iconst 0, 1, .int 0, 0, []),
  (60, .iload_n 1, 1, .null, 0, []),
  (61, .iadd, 1, .null, 0, []),
  (62, .dup2, 1, .null, 0, []),
  (63, .iaload, 1, .null, 0, []),
  (64, .aload_n 0, 1, .null, 0, []),
  (65, .getfield 35, 3, .null, 0, []),
  (68, .iconst 0, 1, .int 0, 0, []),
  (69, .iload_n 1, 1, .null, 0, []),
  (70, .iadd, 1, .null, 0, []),
  (71, .iaload, 1, .null, 0, []),
  (72, .ifCond .le 7, 3, .null, 79, []),
  (75, .iconst 1, 1, .int 1, 0, []),
  (76, .goto 4, 3, .null, 80, []),
  (79, .iconst 0, 1, .int 0, 0, []),
  (80, .isub, 1, .null, 0, []),
  (81, .iastore, 1, .null, 0, []),
  (82, .aload_n 0, 1, .null, 0, []),
  (83, .getfield 35, 3, .null, 0, []),
  (86, .iconst 0, 1, .int 0, 0, []),
  (87, .iload_n 1, 1, .null, 0, []),
  (88, .iadd, 1, .null, 0, []),
  (89, .iaload, 1, .null, 0, []),
  (90, .ireturn, 1, .null, 0, [])]
theorem KM_clear : zCode gM_clear kM_clear := by unfold zCode; decide +kernel
def kM_walk : List zR := [(0, .aload_n 0, 1, .null, 0, []),
  (1, .iload_n 1, 1, .null, 0, []),
  (2, .invokevirtual 171, 3, .null, 0, []),
  (5, .ifCond .ne 6, 3, .null, 11, []),
  (8, .ldc 175, 2, .null, 0, []),
  (10, .ireturn, 1, .null, 0, []),
  (11, .iload_n 2, 1, .null, 0, []),
  (12, .iconst 0, 1, .int 0, 0, []),
  (13, .iconst 5, 1, .int 5, 0, []),
  (14, .invokestatic 69, 3, .null, 0, []),
  (17, .ifCond .eq 12, 3, .null, 29, []),
  (20, .iload_n 3, 1, .null, 0, []),
  (21, .iconst 0, 1, .int 0, 0, []),
  (22, .iconst 5, 1, .int 5, 0, []),
  (23, .invokestatic 69, 3, .null, 0, []),
  (26, .ifCond .ne 6, 3, .null, 32, []),
  (29, .ldc 73, 2, .null, 0, []),
  (31, .ireturn, 1, .null, 0, []),
  (32, .aload_n 0, 1, .null, 0, []),
  (33, .invokevirtual 212, 3, .null, 0, []),
  (36, .bipush 13, 2, .int 13, 0, []),
  (38, .bipush 6, 2, .int 6, 0, []),
  (40, .iload_n 1, 1, .null, 0, []),
  (41, .imul, 1, .null, 0, []),
  (42, .iadd, 1, .null, 0, []),
  (43, .iload_n 2, 1, .null, 0, []),
  (44, .iadd, 1, .null, 0, []),
  (45, .istore 4, 2, .null, 0, []),
  (47, .aload_n 0, 1, .null, 0, []),
  (48, .getfield 35, 3, .null, 0, []),
  (51, .iload 4, 2, .null, 0, []),
  (53, .iaload, 1, .null, 0, []),
  (54, .istore 5, 2, .null, 0, []),
  (56, .aload_n 0, 1, .null, 0, []),
  (57, .getfield 35, 3, .null, 0, []),
  (60, .iload 4, 2, .null, 0, []),
  (62, .iload_n 3, 1, .null, 0, []),
  (63, .iastore, 1, .null, 0, []),
  (64, .iload 5, 2, .null, 0, []),
  (66, .ireturn, 1, .null, 0, [])]
theorem KM_walk : zCode gM_walk kM_walk := by unfold zCode; decide +kernel
def kM_sets : List zR := [(0, .aload_n 0, 1, .null, 0, []),
  (1, .getfield 126, 3, .null, 0, []),
  (4, .aload_n 0, 1, .null, 0, []),
  (5, .invokevirtual 164, 3, .null, 0, []),
  (8, .imul, 1, .null, 0, []),
  (9, .istore_n 1, 1, .null, 0, []),
  (10, .iconst 0, 1, .int 0, 0, []),
  (11, .istore_n 2, 1, .null, 0, []),
  (12, .iload_n 2, 1, .null, 0, []),
  (13, .aload_n 0, 1, .null, 0, []),
  (14, .getfield 129, 3, .null, 0, []),
  (17, .if_icmp .ge 44, 3, .null, 61, []),
  (20, .aload_n 0, 1, .null, 0, []),
  (21, .getfield 35, 3, .null, 0, []),
  (24, .iconst 0, 1, .int 0, 0, []),
  (25, .iload_n 2, 1, .null, 0, []),
  (26, .iadd, 1, .null, 0, []),
  (27, .dup2, 1, .null, 0, []),
  (28, .iaload, 1, .null, 0, []),
  (29, .aload_n 0, 1, .null, 0, []),
  (30, .iload_n 2, 1, .null, 0, []),
  (31, .invokevirtual 176, 3, .null, 0, []),
  (34, .ifCond .ne 18, 3, .null, 52, []),
  (37, .aload_n 0, 1, .null, 0, []),
  (38, .getfield 35, 3, .null, 0, []),
  (41, .iconst 0, 1, .int 0, 0, []),
  (42, .iload_n 2, 1, .null, 0, []),
  (43, .iadd, 1, .null, 0, []),
  (44, .iaload, 1, .null, 0, []),
  (45, .ifCond .le 7, 3, .null, 52, []),
  (48, .iconst 1, 1, .int 1, 0, []),
  (49, .goto 4, 3, .null, 53, []),
  (52, .iconst 0, 1, .int 0, 0, []),
  (53, .isub, 1, .null, 0, []),
  (54, .iastore, 1, .null, 0, []),
  (55, .iinc 2 1, 3, .int 1, 0, []),
  (58, .goto (-46), 3, .null, 12, []),
  (61, .iconst 0, 1, .int 0, 0, []),
  (62, .istore_n 2, 1, .null, 0, []),
  (63, .iload_n 2, 1, .null, 0, []),
  (64, .iconst 4, 1, .int 4, 0, []),
  (65, .if_icmp .ge 19, 3, .null, 84, []),
  (68, .aload_n 0, 1, .null, 0, []),
  (69, .getfield 35, 3, .null, 0, []),
  (72, .bipush 7, 2, .int 7, 0, []),
  (74, .iload_n 2, 1, .null, 0, []),
  (75, .iadd, 1, .null, 0, []),
  (76, .iconst 0, 1, .int 0, 0, []),
  (77, .iastore, 1, .null, 0, []),
  (78, .iinc 2 1, 3, .int 1, 0, []),
  (81, .goto (-18), 3, .null, 63, []),
  (84, .iconst 0, 1, .int 0, 0, []),
  (85, .istore_n 2, 1, .null, 0, []),
  (86, .iload_n 2, 1, .null, 0, []),
  (87, .bipush 42, 2, .int 42, 0, []),
  (89, .if_icmp .ge 24, 3, .null, 113, []),
  (92, .aload_n 0, 1, .null, 0, []),
  (93, .getfield 35, 3, .null, 0, []),
  (96, .bipush 13, 2, .int 13, 0, []),
  (98, .iload_n 2, 1, .null, 0, []),
  (99, .iadd, 1, .null, 0, []),
  (100, .aload_n 0, 1, .null, 0, []),
  (101, .getfield 20, 3, .null, 0, []),
  (104, .iload_n 2, 1, .null, 0, []),
  (105, .iaload, 1, .null, 0, []),
  (106, .iastore, 1, .null, 0, []),
  (107, .iinc 2 1, 3, .int 1, 0, []),
  (110, .goto (-24), 3, .null, 86, []),
  (113, .aload_n 0, 1, .null, 0, []),
  (114, .getfield 35, 3, .null, 0, []),
  (117, .bipush 11, 2, .int 11, 0, []),
  (119, .dup2, 1, .null, 0, []),
  (120, .iaload, 1, .null, 0, []),
  (121, .iload_n 1, 1, .null, 0, []),
  (122, .iadd, 1, .null, 0, []),
  (123, .iastore, 1, .null, 0, []),
  (124, .aload_n 0, 1, .null, 0, []),
  (125, .getfield 35, 3, .null, 0, []),
  (128, .bipush 12, 2, .int 12, 0, []),
  (130, .dup2, 1, .null, 0, []),
  (131, .iaload, 1, .null, 0, []),
  (132, .iconst 1, 1, .int 1, 0, []),
  (133, .iadd, 1, .null, 0, []),
  (134, .iastore, 1, .null, 0, []),
  (135, .iload_n 1, 1, .null, 0, []),
  (136, .ireturn, 1, .null, 0, [])]
theorem KM_sets : zCode gM_sets kM_sets := by unfold zCode; decide +kernel
def kM_sunset : List zR := [(0, .aload_n 0, 1, .null, 0, []),
  (1, .getfield 138, 3, .null, 0, []),
  (4, .ifCond .ne 6, 3, .null, 10, []),
  (7, .ldc 211, 2, .null, 0, []),
  (9, .ireturn, 1, .null, 0, []),
  (10, .aload_n 0, 1, .null, 0, []),
  (11, .getfield 35, 3, .null, 0, []),
  (14, .bipush 12, 2, .int 12, 0, []),
  (16, .iaload, 1, .null, 0, []),
  (17, .sipush 9000, 3, .int 9000, 0, []),
  (20, .if_icmp .le 6, 3, .null, 26, []),
  (23, .ldc 77, 2, .null, 0, []),
  (25, .ireturn, 1, .null, 0, []),
  (26, .aload_n 0, 1, .null, 0, []),
  (27, .invokevirtual 212, 3, .null, 0, []),
  (30, .aload_n 0, 1, .null, 0, []),
  (31, .invokevirtual 219, 3, .null, 0, []),
  (34, .ireturn, 1, .null, 0, [])]
theorem KM_sunset : zCode gM_sunset kM_sunset := by unfold zCode; decide +kernel
def kM_draw : List zR := [(0, .aload_n 0, 1, .null, 0, []),
  (1, .aload_n 0, 1, .null, 0, []),
  (2, .getfield 222, 3, .null, 0, []),
  (5, .i2l, 1, .null, 0, []),
  (6, .ldc2_w 225, 3, .null, 0, []),
  (9, .lmul, 1, .null, 0, []),
  (10, .ldc2_w 227, 3, .null, 0, []),
  (13, .ladd, 1, .null, 0, []),
  (14, .ldc2_w 229, 3, .null, 0, []),
  (17, .land, 1, .null, 0, []),
  (18, .l2i, 1, .null, 0, []),
  (19, .putfield 222, 3, .null, 0, []),
  (22, .aload_n 0, 1, .null, 0, []),
  (23, .getfield 222, 3, .null, 0, []),
  (26, .ldc 231, 2, .null, 0, []),
  (28, .idiv, 1, .null, 0, []),
  (29, .iload_n 1, 1, .null, 0, []),
  (30, .irem, 1, .null, 0, []),
  (31, .ireturn, 1, .null, 0, [])]
theorem KM_draw : zCode gM_draw kM_draw := by unfold zCode; decide +kernel
def kM_member : List zR := [(0, .iconst 0, 1, .int 0, 0, []),
  (1, .istore_n 2, 1, .null, 0, []),
  (2, .iconst 0, 1, .int 0, 0, []),
  (3, .istore_n 3, 1, .null, 0, []),
  (4, .iload_n 3, 1, .null, 0, []),
  (5, .bipush 7, 2, .int 7, 0, []),
  (7, .if_icmp .ge 27, 3, .null, 34, []),
  (10, .iload_n 0, 1, .null, 0, []),
  (11, .iload_n 3, 1, .null, 0, []),
  (12, .invokestatic 167, 3, .null, 0, []),
  (15, .ifCond .eq 13, 3, .null, 28, []),
  (18, .iload_n 2, 1, .null, 0, []),
  (19, .iload_n 1, 1, .null, 0, []),
  (20, .if_icmp .ne 5, 3, .null, 25, []),
  (23, .iload_n 3, 1, .null, 0, []),
  (24, .ireturn, 1, .null, 0, []),
  (25, .iinc 2 1, 3, .int 1, 0, []),
  (28, .iinc 3 1, 3, .int 1, 0, []),
  (31, .goto (-27), 3, .null, 4, []),
  (34, .iconst 0, 1, .int 0, 0, []),
  (35, .ireturn, 1, .null, 0, [])]
theorem KM_member : zCode gM_member kM_member := by unfold zCode; decide +kernel
def kM_drift : List zR := [(0, .iload_n 1, 1, .null, 0, []),
  (1, .iconst 1, 1, .int 1, 0, []),
  (2, .bipush 20, 2, .int 20, 0, []),
  (4, .invokestatic 69, 3, .null, 0, []),
  (7, .ifCond .ne 6, 3, .null, 13, []),
  (10, .ldc 73, 2, .null, 0, []),
  (12, .ireturn, 1, .null, 0, []),
  (13, .aload_n 0, 1, .null, 0, []),
  (14, .getfield 138, 3, .null, 0, []),
  (17, .ifCond .ne 6, 3, .null, 23, []),
  (20, .ldc 211, 2, .null, 0, []),
  (22, .ireturn, 1, .null, 0, []),
  (23, .aload_n 0, 1, .null, 0, []),
  (24, .getfield 35, 3, .null, 0, []),
  (27, .bipush 12, 2, .int 12, 0, []),
  (29, .iaload, 1, .null, 0, []),
  (30, .sipush 9000, 3, .int 9000, 0, []),
  (33, .if_icmp .le 6, 3, .null, 39, []),
  (36, .ldc 77, 2, .null, 0, []),
  (38, .ireturn, 1, .null, 0, []),
  (39, .iconst 0, 1, .int 0, 0, []),
  (40, .istore_n 2, 1, .null, 0, []),
  (41, .iload_n 2, 1, .null, 0, []),
  (42, .iload_n 1, 1, .null, 0, []),
  (43, .if_icmp .ge 75, 3, .null, 118, []),
  (46, .aload_n 0, 1, .null, 0, []),
  (47, .invokevirtual 212, 3, .null, 0, []),
  (50, .iconst 0, 1, .int 0, 0, []),
  (51, .istore_n 3, 1, .null, 0, []),
  (52, .iload_n 3, 1, .null, 0, []),
  (53, .aload_n 0, 1, .null, 0, []),
  (54, .getfield 132, 3, .null, 0, []),
  (57, .if_icmp .ge 50, 3, .null, 107, []),
  (60, .aload_n 0, 1, .null, 0, []),
  (61, .iload_n 3, 1, .null, 0, []),
  (62, .invokevirtual 232, 3, .null, 0, []),
  (65, .istore 4, 2, .null, 0, []),
  (67, .iload 4, 2, .null, 0, []),
  (69, .ifCond .eq 32, 3, .null, 101, []),
  (72, .aload_n 0, 1, .null, 0, []),
  (73, .iload 4, 2, .null, 0, []),
  (75, .aload_n 0, 1, .null, 0, []),
  (76, .iload 4, 2, .null, 0, []),
  (78, .invokestatic 158, 3, .null, 0, []),
  (81, .invokevirtual 235, 3, .null, 0, []),
  (84, .invokestatic 238, 3, .null, 0, []),
  (87, .iload_n 3, 1, .null, 0, []),
  (88, .invokevirtual 215, 3, .null, 0, []),
  (91, .aload_n 0, 1, .null, 0, []),
  (92, .iload_n 3, 1, .null, 0, []),
  (93, .invokevirtual 232, 3, .null, 0, []),
  (96, .istore 4, 2, .null, 0, []),
  (98, .goto (-31), 3, .null, 67, []),
  (101, .iinc 3 1, 3, .int 1, 0, []),
  (104, .goto (-52), 3, .null, 52, []),
  (107, .aload_n 0, 1, .null, 0, []),
  (108, .invokevirtual 219, 3, .null, 0, []),
  (111, .pop, 1, .null, 0, []),
  (112, .iinc 2 1, 3, .int 1, 0, []),
  (115, .goto (-74), 3, .null, 41, []),
  (118, .aload_n 0, 1, .null, 0, []),
  (119, .getfield 35, 3, .null, 0, []),
  (122, .bipush 11, 2, .int 11, 0, []),
  (124, .iaload, 1, .null, 0, []),
  (125, .ireturn, 1, .null, 0, [])]
theorem KM_drift : zCode gM_drift kM_drift := by unfold zCode; decide +kernel
def kM_undo : List zR := [(0, .iload_n 1, 1, .null, 0, []),
  (1, .iconst 1, 1, .int 1, 0, []),
  (2, .bipush 30, 2, .int 30, 0, []),
  (4, .invokestatic 69, 3, .null, 0, []),
  (7, .ifCond .ne 6, 3, .null, 13, []),
  (10, .ldc 73, 2, .null, 0, []),
  (12, .ireturn, 1, .null, 0, []),
  (13, .aload_n 0, 1, .null, 0, []),
  (14, .getfield 145, 3, .null, 0, []),
  (17, .iload_n 1, 1, .null, 0, []),
  (18, .if_icmp .ge 6, 3, .null, 24, []),
  (21, .ldc 211, 2, .null, 0, []),
  (23, .ireturn, 1, .null, 0, []),
  (24, .aload_n 0, 1, .null, 0, []),
  (25, .dup, 1, .null, 0, []),
  (26, .getfield 145, 3, .null, 0, []),
  (29, .iload_n 1, 1, .null, 0, []),
  (30, .isub, 1, .null, 0, []),
  (31, .putfield 145, 3, .null, 0, []),
  (34, .aload_n 0, 1, .null, 0, []),
  (35, .getfield 38, 3, .null, 0, []),
  (38, .bipush 55, 2, .int 55, 0, []),
  (40, .aload_n 0, 1, .null, 0, []),
  (41, .getfield 145, 3, .null, 0, []),
  (44, .imul, 1, .null, 0, []),
  (45, .aload_n 0, 1, .null, 0, []),
  (46, .getfield 35, 3, .null, 0, []),
  (49, .iconst 0, 1, .int 0, 0, []),
  (50, .invokestatic 207, 3, .null, 0, []),
  (53, .aload_n 0, 1, .null, 0, []),
  (54, .getfield 35, 3, .null, 0, []),
  (57, .bipush 12, 2, .int 12, 0, []),
  (59, .iaload, 1, .null, 0, []),
  (60, .ireturn, 1, .null, 0, [])]
theorem KM_undo : zCode gM_undo kM_undo := by unfold zCode; decide +kernel
def kM_may : List zR := [(0, .aload_n 0, 1, .null, 0, []),
  (1, .iload_n 1, 1, .null, 0, []),
  (2, .invokevirtual 179, 3, .null, 0, []),
  (5, .ifCond .eq 11, 3, .null, 16, []),
  (8, .aload_n 0, 1, .null, 0, []),
  (9, .iload_n 1, 1, .null, 0, []),
  (10, .invokevirtual 232, 3, .null, 0, []),
  (13, .goto 5, 3, .null, 18, []),
  (16, .ldc 175, 2, .null, 0, []),
  (18, .ireturn, 1, .null, 0, [])]
theorem KM_may : zCode gM_may kM_may := by unfold zCode; decide +kernel
def kM_orphans : List zR := [(0, .iconst 0, 1, .int 0, 0, []),
  (1, .istore_n 1, 1, .null, 0, []),
  (2, .iconst 0, 1, .int 0, 0, []),
  (3, .istore_n 2, 1, .null, 0, []),
  (4, .iload_n 2, 1, .null, 0, []),
  (5, .aload_n 0, 1, .null, 0, []),
  (6, .getfield 132, 3, .null, 0, []),
  (9, .if_icmp .ge 35, 3, .null, 44, []),
  (12, .iload_n 1, 1, .null, 0, []),
  (13, .aload_n 0, 1, .null, 0, []),
  (14, .iload_n 2, 1, .null, 0, []),
  (15, .invokevirtual 161, 3, .null, 0, []),
  (18, .ifCond .le 17, 3, .null, 35, []),
  (21, .aload_n 0, 1, .null, 0, []),
  (22, .iload_n 2, 1, .null, 0, []),
  (23, .invokevirtual 232, 3, .null, 0, []),
  (26, .ifCond .ne 9, 3, .null, 35, []),
  (29, .iconst 1, 1, .int 1, 0, []),
  (30, .iload_n 2, 1, .null, 0, []),
  (31, .ishl, 1, .null, 0, []),
  (32, .goto 4, 3, .null, 36, []),
  (35, .iconst 0, 1, .int 0, 0, []),
  (36, .ior, 1, .null, 0, []),
  (37, .istore_n 1, 1, .null, 0, []),
  (38, .iinc 2 1, 3, .int 1, 0, []),
  (41, .goto (-37), 3, .null, 4, []),
  (44, .iload_n 1, 1, .null, 0, []),
  (45, .ireturn, 1, .null, 0, [])]
theorem KM_orphans : zCode gM_orphans kM_orphans := by unfold zCode; decide +kernel
def kM_canBe : List zR := [(0, .iconst 1, 1, .int 1, 0, []),
  (1, .istore_n 1, 1, .null, 0, []),
  (2, .iconst 0, 1, .int 0, 0, []),
  (3, .istore_n 2, 1, .null, 0, []),
  (4, .iload_n 2, 1, .null, 0, []),
  (5, .aload_n 0, 1, .null, 0, []),
  (6, .getfield 129, 3, .null, 0, []),
  (9, .if_icmp .ge 169, 3, .null, 178, []),
  (12, .aload_n 0, 1, .null, 0, []),
  (13, .getfield 35, 3, .null, 0, []),
  (16, .iconst 0, 1, .int 0, 0, []),
  (17, .iload_n 2, 1, .null, 0, []),
  (18, .iadd, 1, .null, 0, []),
  (19, .iaload, 1, .null, 0, []),
  (20, .aload_n 0, 1, .null, 0, []),
  (21, .iload_n 2, 1, .null, 0, []),
  (22, .invokevirtual 176, 3, .null, 0, []),
  (25, .invokestatic 158, 3, .null, 0, []),
  (28, .isub, 1, .null, 0, []),
  (29, .istore_n 3, 1, .null, 0, []),
  (30, .iload_n 3, 1, .null, 0, []),
  (31, .ifCond .le 7, 3, .null, 38, []),
  (34, .iload_n 3, 1, .null, 0, []),
  (35, .goto 4, 3, .null, 39, []),
  (38, .iconst 0, 1, .int 0, 0, []),
  (39, .istore_n 3, 1, .null, 0, []),
  (40, .iconst 0, 1, .int 0, 0, []),
  (41, .istore 4, 2, .null, 0, []),
  (43, .iload 4, 2, .null, 0, []),
  (45, .aload_n 0, 1, .null, 0, []),
  (46, .getfield 132, 3, .null, 0, []),
  (49, .if_icmp .ge 123, 3, .null, 172, []),
  (52, .iload_n 1, 1, .null, 0, []),
  (53, .ifCond .eq 119, 3, .null, 172, []),
  (56, .aload_n 0, 1, .null, 0, []),
  (57, .getfield 57, 3, .null, 0, []),
  (60, .bipush 23, 2, .int 23, 0, []),
  (62, .iload 4, 2, .null, 0, []),
  (64, .imul, 1, .null, 0, []),
  (65, .aload_n 0, 1, .null, 0, []),
  (66, .getfield 63, 3, .null, 0, []),
  (69, .iload 4, 2, .null, 0, []),
  (71, .iaload, 1, .null, 0, []),
  (72, .iadd, 1, .null, 0, []),
  (73, .iaload, 1, .null, 0, []),
  (74, .iload_n 2, 1, .null, 0, []),
  (75, .invokestatic 167, 3, .null, 0, []),
  (78, .ifCond .eq 88, 3, .null, 166, []),
  (81, .aload_n 0, 1, .null, 0, []),
  (82, .iload_n 2, 1, .null, 0, []),
  (83, .iload 4, 2, .null, 0, []),
  (85, .iload_n 3, 1, .null, 0, []),
  (86, .invokevirtual 198, 3, .null, 0, []),
  (89, .istore_n 1, 1, .null, 0, []),
  (90, .iconst 0, 1, .int 0, 0, []),
  (91, .istore 5, 2, .null, 0, []),
  (93, .iload 5, 2, .null, 0, []),
  (95, .iload 4, 2, .null, 0, []),
  (97, .if_icmp .ge 55, 3, .null, 152, []),
  (100, .iload_n 1, 1, .null, 0, []),
  (101, .ifCond .eq 43, 3, .null, 144, []),
  (104, .aload_n 0, 1, .null, 0, []),
  (105, .getfield 57, 3, .null, 0, []),
  (108, .bipush 23, 2, .int 23, 0, []),
  (110, .iload 5, 2, .null, 0, []),
  (112, .imul, 1, .null, 0, []),
  (113, .aload_n 0, 1, .null, 0, []),
  (114, .getfield 63, 3, .null, 0, []),
  (117, .iload 5, 2, .null, 0, []),
  (119, .iaload, 1, .null, 0, []),
  (120, .iadd, 1, .null, 0, []),
  (121, .iaload, 1, .null, 0, []),
  (122, .iload_n 2, 1, .null, 0, []),
  (123, .invokestatic 167, 3, .null, 0, []),
  (126, .ifCond .eq 14, 3, .null, 140, []),
  (129, .aload_n 0, 1, .null, 0, []),
  (130, .iload 4, 2, .null, 0, []),
  (132, .iload 5, 2, .null, 0, []),
  (134, .invokevirtual 201, 3, .null, 0, []),
  (137, .ifCond .ne 7, 3, .null, 144, []),
  (140, .iconst 1, 1, .int 1, 0, []),
  (141, .goto 4, 3, .null, 145, []),
  (144, .iconst 0, 1, .int 0, 0, []),
  (145, .istore_n 1, 1, .null, 0, []),
  (146, .iinc 5 1, 3, .int 1, 0, []),
  (149, .goto (-56), 3, .null, 93, []),
  (152, .iload_n 3, 1, .null, 0, []),
  (153, .iload_n 3, 1, .null, 0, []),
  (154, .bipush 9, 2, .int 9, 0, []),
  (156, .if_icmp .ge 7, 3, .null, 163, []),
  (159, .iconst 1, 1, .int 1, 0, []),
  (160, .goto 4, 3, .null, 164, []),
  (163, .iconst 0, 1, .int 0, 0, []),
  (164, .iadd, 1, .null, 0, []),
  (165, .istore_n 3, 1, .null, 0, []),
  (166, .iinc 4 1, 3, .int 1, 0, []),
  (169, .goto (-126), 3, .null, 43, []),
  (172, .iinc 2 1, 3, .int 1, 0, []),
  (175, .goto (-171), 3, .null, 4, []),
  (178, .iload_n 1, 1, .null, 0, []),
  (179, .ireturn, 1, .null, 0, [])]
theorem KM_canBe : zCode gM_canBe kM_canBe := by unfold zCode; decide +kernel
def kM_costs : List zR := [(0, .iconst 0, 1, .int 0, 0, []),
  (1, .istore_n 1, 1, .null, 0, []),
  (2, .iconst 0, 1, .int 0, 0, []),
  (3, .istore_n 2, 1, .null, 0, []),
  (4, .iload_n 2, 1, .null, 0, []),
  (5, .aload_n 0, 1, .null, 0, []),
  (6, .getfield 132, 3, .null, 0, []),
  (9, .if_icmp .ge 98, 3, .null, 107, []),
  (12, .aload_n 0, 1, .null, 0, []),
  (13, .getfield 57, 3, .null, 0, []),
  (16, .bipush 23, 2, .int 23, 0, []),
  (18, .iload_n 2, 1, .null, 0, []),
  (19, .imul, 1, .null, 0, []),
  (20, .aload_n 0, 1, .null, 0, []),
  (21, .getfield 63, 3, .null, 0, []),
  (24, .iload_n 2, 1, .null, 0, []),
  (25, .iaload, 1, .null, 0, []),
  (26, .iadd, 1, .null, 0, []),
  (27, .iaload, 1, .null, 0, []),
  (28, .istore_n 3, 1, .null, 0, []),
  (29, .iload_n 1, 1, .null, 0, []),
  (30, .iload_n 3, 1, .null, 0, []),
  (31, .ifCond .ne 22, 3, .null, 53, []),
  (34, .aload_n 0, 1, .null, 0, []),
  (35, .getfield 126, 3, .null, 0, []),
  (38, .aload_n 0, 1, .null, 0, []),
  (39, .getfield 23, 3, .null, 0, []),
  (42, .bipush 6, 2, .int 6, 0, []),
  (44, .iload_n 2, 1, .null, 0, []),
  (45, .imul, 1, .null, 0, []),
  (46, .iconst 4, 1, .int 4, 0, []),
  (47, .iadd, 1, .null, 0, []),
  (48, .iaload, 1, .null, 0, []),
  (49, .imul, 1, .null, 0, []),
  (50, .goto 4, 3, .null, 54, []),
  (53, .iconst 0, 1, .int 0, 0, []),
  (54, .iadd, 1, .null, 0, []),
  (55, .istore_n 1, 1, .null, 0, []),
  (56, .iconst 0, 1, .int 0, 0, []),
  (57, .istore 4, 2, .null, 0, []),
  (59, .iload 4, 2, .null, 0, []),
  (61, .aload_n 0, 1, .null, 0, []),
  (62, .getfield 129, 3, .null, 0, []),
  (65, .if_icmp .ge 36, 3, .null, 101, []),
  (68, .iload_n 1, 1, .null, 0, []),
  (69, .iload_n 3, 1, .null, 0, []),
  (70, .iload 4, 2, .null, 0, []),
  (72, .invokestatic 167, 3, .null, 0, []),
  (75, .ifCond .eq 17, 3, .null, 92, []),
  (78, .aload_n 0, 1, .null, 0, []),
  (79, .getfield 17, 3, .null, 0, []),
  (82, .iconst 3, 1, .int 3, 0, []),
  (83, .iload 4, 2, .null, 0, []),
  (85, .imul, 1, .null, 0, []),
  (86, .iconst 2, 1, .int 2, 0, []),
  (87, .iadd, 1, .null, 0, []),
  (88, .iaload, 1, .null, 0, []),
  (89, .goto 4, 3, .null, 93, []),
  (92, .iconst 0, 1, .int 0, 0, []),
  (93, .iadd, 1, .null, 0, []),
  (94, .istore_n 1, 1, .null, 0, []),
  (95, .iinc 4 1, 3, .int 1, 0, []),
  (98, .goto (-39), 3, .null, 59, []),
  (101, .iinc 2 1, 3, .int 1, 0, []),
  (104, .goto (-100), 3, .null, 4, []),
  (107, .iload_n 1, 1, .null, 0, []),
  (108, .ireturn, 1, .null, 0, [])]
theorem KM_costs : zCode gM_costs kM_costs := by unfold zCode; decide +kernel
def kM_counts : List zR := [(0, .aload_n 0, 1, .null, 0, []),
  (1, .getfield 132, 3, .null, 0, []),
  (4, .iconst 1, 1, .int 1, 0, []),
  (5, .isub, 1, .null, 0, []),
  (6, .istore_n 1, 1, .null, 0, []),
  (7, .iload_n 1, 1, .null, 0, []),
  (8, .ifCond .lt 43, 3, .null, 51, []),
  (11, .aload_n 0, 1, .null, 0, []),
  (12, .getfield 63, 3, .null, 0, []),
  (15, .iload_n 1, 1, .null, 0, []),
  (16, .dup2, 1, .null, 0, []),
  (17, .iaload, 1, .null, 0, []),
  (18, .iconst 1, 1, .int 1, 0, []),
  (19, .iadd, 1, .null, 0, []),
  (20, .iastore, 1, .null, 0, []),
  (21, .aload_n 0, 1, .null, 0, []),
  (22, .getfield 63, 3, .null, 0, []),
  (25, .iload_n 1, 1, .null, 0, []),
  (26, .iaload, 1, .null, 0, []),
  (27, .aload_n 0, 1, .null, 0, []),
  (28, .getfield 60, 3, .null, 0, []),
  (31, .iload_n 1, 1, .null, 0, []),
  (32, .iaload, 1, .null, 0, []),
  (33, .if_icmp .ge 5, 3, .null, 38, []),
  (36, .iconst 1, 1, .int 1, 0, []),
  (37, .ireturn, 1, .null, 0, []),
  (38, .aload_n 0, 1, .null, 0, []),
  (39, .getfield 63, 3, .null, 0, []),
  (42, .iload_n 1, 1, .null, 0, []),
  (43, .iconst 0, 1, .int 0, 0, []),
  (44, .iastore, 1, .null, 0, []),
  (45, .iinc 1 (-1), 3, .int (-1), 0, []),
  (48, .goto (-41), 3, .null, 7, []),
  (51, .iconst 0, 1, .int 0, 0, []),
  (52, .ireturn, 1, .null, 0, [])]
theorem KM_counts : zCode gM_counts kM_counts := by unfold zCode; decide +kernel
def kM_shares : List zR := [(0, .iconst 0, 1, .int 0, 0, []),
  (1, .istore_n 1, 1, .null, 0, []),
  (2, .iload_n 1, 1, .null, 0, []),
  (3, .aload_n 0, 1, .null, 0, []),
  (4, .getfield 132, 3, .null, 0, []),
  (7, .if_icmp .ge 90, 3, .null, 97, []),
  (10, .aload_n 0, 1, .null, 0, []),
  (11, .getfield 60, 3, .null, 0, []),
  (14, .iload_n 1, 1, .null, 0, []),
  (15, .iconst 0, 1, .int 0, 0, []),
  (16, .iastore, 1, .null, 0, []),
  (17, .aload_n 0, 1, .null, 0, []),
  (18, .getfield 63, 3, .null, 0, []),
  (21, .iload_n 1, 1, .null, 0, []),
  (22, .iconst 0, 1, .int 0, 0, []),
  (23, .iastore, 1, .null, 0, []),
  (24, .iconst 0, 1, .int 0, 0, []),
  (25, .istore_n 2, 1, .null, 0, []),
  (26, .iload_n 2, 1, .null, 0, []),
  (27, .iconst 1, 1, .int 1, 0, []),
  (28, .aload_n 0, 1, .null, 0, []),
  (29, .getfield 129, 3, .null, 0, []),
  (32, .ishl, 1, .null, 0, []),
  (33, .if_icmp .ge 58, 3, .null, 91, []),
  (36, .iload_n 2, 1, .null, 0, []),
  (37, .ifCond .eq 21, 3, .null, 58, []),
  (40, .iload_n 2, 1, .null, 0, []),
  (41, .invokestatic 158, 3, .null, 0, []),
  (44, .aload_n 0, 1, .null, 0, []),
  (45, .getfield 23, 3, .null, 0, []),
  (48, .bipush 6, 2, .int 6, 0, []),
  (50, .iload_n 1, 1, .null, 0, []),
  (51, .imul, 1, .null, 0, []),
  (52, .iconst 4, 1, .int 4, 0, []),
  (53, .iadd, 1, .null, 0, []),
  (54, .iaload, 1, .null, 0, []),
  (55, .if_icmp .ne 30, 3, .null, 85, []),
  (58, .aload_n 0, 1, .null, 0, []),
  (59, .getfield 57, 3, .null, 0, []),
  (62, .bipush 23, 2, .int 23, 0, []),
  (64, .iload_n 1, 1, .null, 0, []),
  (65, .imul, 1, .null, 0, []),
  (66, .aload_n 0, 1, .null, 0, []),
  (67, .getfield 60, 3, .null, 0, []),
  (70, .iload_n 1, 1, .null, 0, []),
  (71, .iaload, 1, .null, 0, []),
  (72, .iadd, 1, .null, 0, []),
  (73, .iload_n 2, 1, .null, 0, []),
  (74, .iastore, 1, .null, 0, []),
  (75, .aload_n 0, 1, .null, 0, []),
  (76, .getfield 60, 3, .null, 0, []),
  (79, .iload_n 1, 1, .null, 0, []),
  (80, .dup2, 1, .null, 0, []),
  (81, .iaload, 1, .null, 0, []),
  (82, .iconst 1, 1, .int 1, 0, []),
  (83, .iadd, 1, .null, 0, []),
  (84, .iastore, 1, .null, 0, []),
  (85, .iinc 2 1, 3, .int 1, 0, []),
  (88, .goto (-62), 3, .null, 26, []),
  (91, .iinc 1 1, 3, .int 1, 0, []),
  (94, .goto (-92), 3, .null, 2, []),
  (97, .aload_n 0, 1, .null, 0, []),
  (98, .iconst (-1), 1, .int (-1), 0, []),
  (99, .putfield 241, 3, .null, 0, []),
  (102, .iconst 1, 1, .int 1, 0, []),
  (103, .istore_n 1, 1, .null, 0, []),
  (104, .iload_n 1, 1, .null, 0, []),
  (105, .ifCond .eq 82, 3, .null, 187, []),
  (108, .aload_n 0, 1, .null, 0, []),
  (109, .invokevirtual 244, 3, .null, 0, []),
  (112, .istore_n 2, 1, .null, 0, []),
  (113, .aload_n 0, 1, .null, 0, []),
  (114, .getfield 241, 3, .null, 0, []),
  (117, .iconst (-1), 1, .int (-1), 0, []),
  (118, .if_icmp .eq 11, 3, .null, 129, []),
  (121, .iload_n 2, 1, .null, 0, []),
  (122, .aload_n 0, 1, .null, 0, []),
  (123, .getfield 241, 3, .null, 0, []),
  (126, .if_icmp .ge 53, 3, .null, 179, []),
  (129, .aload_n 0, 1, .null, 0, []),
  (130, .invokevirtual 247, 3, .null, 0, []),
  (133, .ifCond .eq 46, 3, .null, 179, []),
  (136, .aload_n 0, 1, .null, 0, []),
  (137, .iload_n 2, 1, .null, 0, []),
  (138, .putfield 241, 3, .null, 0, []),
  (141, .iconst 0, 1, .int 0, 0, []),
  (142, .istore_n 3, 1, .null, 0, []),
  (143, .iload_n 3, 1, .null, 0, []),
  (144, .aload_n 0, 1, .null, 0, []),
  (145, .getfield 132, 3, .null, 0, []),
  (148, .if_icmp .ge 31, 3, .null, 179, []),
  (151, .aload_n 0, 1, .null, 0, []),
  (152, .getfield 66, 3, .null, 0, []),
  (155, .iload_n 3, 1, .null, 0, []),
  (156, .aload_n 0, 1, .null, 0, []),
  (157, .getfield 57, 3, .null, 0, []),
  (160, .bipush 23, 2, .int 23, 0, []),
  (162, .iload_n 3, 1, .null, 0, []),
  (163, .imul, 1, .null, 0, []),
  (164, .aload_n 0, 1, .null, 0, []),
  (165, .getfield 63, 3, .null, 0, []),
  (168, .iload_n 3, 1, .null, 0, []),
  (169, .iaload, 1, .null, 0, []),
  (170, .iadd, 1, .null, 0, []),
  (171, .iaload, 1, .null, 0, []),
  (172, .iastore, 1, .null, 0, []),
  (173, .iinc 3 1, 3, .int 1, 0, []),
  (176, .goto (-33), 3, .null, 143, []),
  (179, .aload_n 0, 1, .null, 0, []),
  (180, .invokevirtual 251, 3, .null, 0, []),
  (183, .istore_n 1, 1, .null, 0, []),
  (184, .goto (-80), 3, .null, 104, []),
  (187, .return_, 1, .null, 0, [])]
theorem KM_shares : zCode gM_shares kM_shares := by unfold zCode; decide +kernel
def kM_shared : List zR := [(0, .iload_n 1, 1, .null, 0, []),
  (1, .iconst (-1), 1, .int (-1), 0, []),
  (2, .if_icmp .eq 14, 3, .null, 16, []),
  (5, .aload_n 0, 1, .null, 0, []),
  (6, .iload_n 1, 1, .null, 0, []),
  (7, .invokevirtual 179, 3, .null, 0, []),
  (10, .ifCond .ne 6, 3, .null, 16, []),
  (13, .ldc 175, 2, .null, 0, []),
  (15, .ireturn, 1, .null, 0, []),
  (16, .aload_n 0, 1, .null, 0, []),
  (17, .invokevirtual 254, 3, .null, 0, []),
  (20, .iload_n 1, 1, .null, 0, []),
  (21, .iconst (-1), 1, .int (-1), 0, []),
  (22, .if_icmp .ne 10, 3, .null, 32, []),
  (25, .aload_n 0, 1, .null, 0, []),
  (26, .getfield 241, 3, .null, 0, []),
  (29, .goto 9, 3, .null, 38, []),
  (32, .aload_n 0, 1, .null, 0, []),
  (33, .getfield 66, 3, .null, 0, []),
  (36, .iload_n 1, 1, .null, 0, []),
  (37, .iaload, 1, .null, 0, []),
  (38, .ireturn, 1, .null, 0, [])]
theorem KM_shared : zCode gM_shared kM_shared := by unfold zCode; decide +kernel
def kM_cheapest : List zR := [(0, .aload_n 0, 1, .null, 0, []),
  (1, .iload_n 1, 1, .null, 0, []),
  (2, .invokevirtual 179, 3, .null, 0, []),
  (5, .ifCond .ne 6, 3, .null, 11, []),
  (8, .ldc 175, 2, .null, 0, []),
  (10, .ireturn, 1, .null, 0, []),
  (11, .aload_n 0, 1, .null, 0, []),
  (12, .iload_n 1, 1, .null, 0, []),
  (13, .invokevirtual 232, 3, .null, 0, []),
  (16, .istore_n 2, 1, .null, 0, []),
  (17, .iconst (-1), 1, .int (-1), 0, []),
  (18, .istore_n 3, 1, .null, 0, []),
  (19, .iconst 0, 1, .int 0, 0, []),
  (20, .istore 4, 2, .null, 0, []),
  (22, .iconst 1, 1, .int 1, 0, []),
  (23, .istore 5, 2, .null, 0, []),
  (25, .iload 5, 2, .null, 0, []),
  (27, .iconst 1, 1, .int 1, 0, []),
  (28, .aload_n 0, 1, .null, 0, []),
  (29, .getfield 129, 3, .null, 0, []),
  (32, .ishl, 1, .null, 0, []),
  (33, .if_icmp .ge 127, 3, .null, 160, []),
  (36, .iconst 0, 1, .int 0, 0, []),
  (37, .istore 6, 2, .null, 0, []),
  (39, .iconst 0, 1, .int 0, 0, []),
  (40, .istore 7, 2, .null, 0, []),
  (42, .iload 7, 2, .null, 0, []),
  (44, .aload_n 0, 1, .null, 0, []),
  (45, .getfield 129, 3, .null, 0, []),
  (48, .if_icmp .ge 39, 3, .null, 87, []),
  (51, .iload 6, 2, .null, 0, []),
  (53, .iload 5, 2, .null, 0, []),
  (55, .iload 7, 2, .null, 0, []),
  (57, .invokestatic 167, 3, .null, 0, []),
  (60, .ifCond .eq 17, 3, .null, 77, []),
  (63, .aload_n 0, 1, .null, 0, []),
  (64, .getfield 17, 3, .null, 0, []),
  (67, .iconst 3, 1, .int 3, 0, []),
  (68, .iload 7, 2, .null, 0, []),
  (70, .imul, 1, .null, 0, []),
  (71, .iconst 2, 1, .int 2, 0, []),
  (72, .iadd, 1, .null, 0, []),
  (73, .iaload, 1, .null, 0, []),
  (74, .goto 4, 3, .null, 78, []),
  (77, .iconst 0, 1, .int 0, 0, []),
  (78, .iadd, 1, .null, 0, []),
  (79, .istore 6, 2, .null, 0, []),
  (81, .iinc 7 1, 3, .int 1, 0, []),
  (84, .goto (-42), 3, .null, 42, []),
  (87, .iload 5, 2, .null, 0, []),
  (89, .iload_n 2, 1, .null, 0, []),
  (90, .iconst (-1), 1, .int (-1), 0, []),
  (91, .ixor, 1, .null, 0, []),
  (92, .iand, 1, .null, 0, []),
  (93, .ifCond .ne 32, 3, .null, 125, []),
  (96, .iload 5, 2, .null, 0, []),
  (98, .invokestatic 158, 3, .null, 0, []),
  (101, .aload_n 0, 1, .null, 0, []),
  (102, .iload_n 1, 1, .null, 0, []),
  (103, .invokevirtual 161, 3, .null, 0, []),
  (106, .if_icmp .ne 19, 3, .null, 125, []),
  (109, .iload_n 3, 1, .null, 0, []),
  (110, .iconst (-1), 1, .int (-1), 0, []),
  (111, .if_icmp .eq 10, 3, .null, 121, []),
  (114, .iload 6, 2, .null, 0, []),
  (116, .iload 4, 2, .null, 0, []),
  (118, .if_icmp .ge 7, 3, .null, 125, []),
  (121, .iconst 1, 1, .int 1, 0, []),
  (122, .goto 4, 3, .null, 126, []),
  (125, .iconst 0, 1, .int 0, 0, []),
  (126, .istore 7, 2, .null, 0, []),
  (128, .iload 7, 2, .null, 0, []),
  (130, .ifCond .eq 8, 3, .null, 138, []),
  (133, .iload 5, 2, .null, 0, []),
  (135, .goto 4, 3, .null, 139, []),
  (138, .iload_n 3, 1, .null, 0, []),
  (139, .istore_n 3, 1, .null, 0, []),
  (140, .iload 7, 2, .null, 0, []),
  (142, .ifCond .eq 8, 3, .null, 150, []),
  (145, .iload 6, 2, .null, 0, []),
  (147, .goto 5, 3, .null, 152, []),
  (150, .iload 4, 2, .null, 0, []),
  (152, .istore 4, 2, .null, 0, []),
  (154, .iinc 5 1, 3, .int 1, 0, []),
  (157, .goto (-132), 3, .null, 25, []),
  (160, .iload_n 3, 1, .null, 0, []),
  (161, .ireturn, 1, .null, 0, [])]
theorem KM_cheapest : zCode gM_cheapest kM_cheapest := by unfold zCode; decide +kernel
def kM_culprits : List zR := [(0, .aload_n 0, 1, .null, 0, []),
  (1, .iload_n 1, 1, .null, 0, []),
  (2, .invokevirtual 179, 3, .null, 0, []),
  (5, .ifCond .ne 6, 3, .null, 11, []),
  (8, .ldc 175, 2, .null, 0, []),
  (10, .ireturn, 1, .null, 0, []),
  (11, .iconst 0, 1, .int 0, 0, []),
  (12, .istore_n 2, 1, .null, 0, []),
  (13, .iconst 0, 1, .int 0, 0, []),
  (14, .istore_n 3, 1, .null, 0, []),
  (15, .iload_n 3, 1, .null, 0, []),
  (16, .aload_n 0, 1, .null, 0, []),
  (17, .getfield 129, 3, .null, 0, []),
  (20, .if_icmp .ge 46, 3, .null, 66, []),
  (23, .iload_n 2, 1, .null, 0, []),
  (24, .aload_n 0, 1, .null, 0, []),
  (25, .iload_n 3, 1, .null, 0, []),
  (26, .iload_n 1, 1, .null, 0, []),
  (27, .invokevirtual 191, 3, .null, 0, []),
  (30, .ifCond .eq 27, 3, .null, 57, []),
  (33, .aload_n 0, 1, .null, 0, []),
  (34, .iload_n 3, 1, .null, 0, []),
  (35, .iload_n 1, 1, .null, 0, []),
  (36, .invokevirtual 182, 3, .null, 0, []),
  (39, .aload_n 0, 1, .null, 0, []),
  (40, .getfield 23, 3, .null, 0, []),
  (43, .bipush 6, 2, .int 6, 0, []),
  (45, .iload_n 1, 1, .null, 0, []),
  (46, .imul, 1, .null, 0, []),
  (47, .iaload, 1, .null, 0, []),
  (48, .if_icmp .ne 9, 3, .null, 57, []),
  (51, .iconst 1, 1, .int 1, 0, []),
  (52, .iload_n 3, 1, .null, 0, []),
  (53, .ishl, 1, .null, 0, []),
  (54, .goto 4, 3, .null, 58, []),
  (57, .iconst 0, 1, .int 0, 0, []),
  (58, .ior, 1, .null, 0, []),
  (59, .istore_n 2, 1, .null, 0, []),
  (60, .iinc 3 1, 3, .int 1, 0, []),
  (63, .goto (-48), 3, .null, 15, []),
  (66, .iload_n 2, 1, .null, 0, []),
  (67, .ireturn, 1, .null, 0, [])]
theorem KM_culprits : zCode gM_culprits kM_culprits := by unfold zCode; decide +kernel
def kM_idle : List zR := [(0, .iconst 0, 1, .int 0, 0, []),
  (1, .istore_n 1, 1, .null, 0, []),
  (2, .iconst 0, 1, .int 0, 0, []),
  (3, .istore_n 2, 1, .null, 0, []),
  (4, .iload_n 2, 1, .null, 0, []),
  (5, .aload_n 0, 1, .null, 0, []),
  (6, .getfield 129, 3, .null, 0, []),
  (9, .if_icmp .ge 27, 3, .null, 36, []),
  (12, .iload_n 1, 1, .null, 0, []),
  (13, .aload_n 0, 1, .null, 0, []),
  (14, .iload_n 2, 1, .null, 0, []),
  (15, .invokevirtual 176, 3, .null, 0, []),
  (18, .ifCond .ne 9, 3, .null, 27, []),
  (21, .iconst 1, 1, .int 1, 0, []),
  (22, .iload_n 2, 1, .null, 0, []),
  (23, .ishl, 1, .null, 0, []),
  (24, .goto 4, 3, .null, 28, []),
  (27, .iconst 0, 1, .int 0, 0, []),
  (28, .ior, 1, .null, 0, []),
  (29, .istore_n 1, 1, .null, 0, []),
  (30, .iinc 2 1, 3, .int 1, 0, []),
  (33, .goto (-29), 3, .null, 4, []),
  (36, .iload_n 1, 1, .null, 0, []),
  (37, .ireturn, 1, .null, 0, [])]
theorem KM_idle : zCode gM_idle kM_idle := by unfold zCode; decide +kernel
def kM_nearer : List zR := [(0, .aload_n 0, 1, .null, 0, []),
  (1, .iload_n 1, 1, .null, 0, []),
  (2, .invokevirtual 171, 3, .null, 0, []),
  (5, .ifCond .eq 11, 3, .null, 16, []),
  (8, .aload_n 0, 1, .null, 0, []),
  (9, .iload_n 2, 1, .null, 0, []),
  (10, .invokevirtual 179, 3, .null, 0, []),
  (13, .ifCond .ne 6, 3, .null, 19, []),
  (16, .ldc 175, 2, .null, 0, []),
  (18, .ireturn, 1, .null, 0, []),
  (19, .iload_n 3, 1, .null, 0, []),
  (20, .iconst 0, 1, .int 0, 0, []),
  (21, .iconst 1, 1, .int 1, 0, []),
  (22, .invokestatic 69, 3, .null, 0, []),
  (25, .ifCond .ne 6, 3, .null, 31, []),
  (28, .ldc 73, 2, .null, 0, []),
  (30, .ireturn, 1, .null, 0, []),
  (31, .aload_n 0, 1, .null, 0, []),
  (32, .iload_n 1, 1, .null, 0, []),
  (33, .iload_n 2, 1, .null, 0, []),
  (34, .invokevirtual 182, 3, .null, 0, []),
  (37, .istore 4, 2, .null, 0, []),
  (39, .iconst (-1), 1, .int (-1), 0, []),
  (40, .istore 5, 2, .null, 0, []),
  (42, .iconst 0, 1, .int 0, 0, []),
  (43, .istore 6, 2, .null, 0, []),
  (45, .iload 6, 2, .null, 0, []),
  (47, .bipush 6, 2, .int 6, 0, []),
  (49, .if_icmp .ge 109, 3, .null, 158, []),
  (52, .iload 4, 2, .null, 0, []),
  (54, .iconst (-1), 1, .int (-1), 0, []),
  (55, .if_icmp .eq 103, 3, .null, 158, []),
  (58, .aload_n 0, 1, .null, 0, []),
  (59, .iload_n 1, 1, .null, 0, []),
  (60, .iload_n 2, 1, .null, 0, []),
  (61, .invokevirtual 191, 3, .null, 0, []),
  (64, .ifCond .eq 94, 3, .null, 158, []),
  (67, .iload 6, 2, .null, 0, []),
  (69, .aload_n 0, 1, .null, 0, []),
  (70, .getfield 23, 3, .null, 0, []),
  (73, .bipush 6, 2, .int 6, 0, []),
  (75, .iload_n 2, 1, .null, 0, []),
  (76, .imul, 1, .null, 0, []),
  (77, .iaload, 1, .null, 0, []),
  (78, .invokestatic 185, 3, .null, 0, []),
  (81, .iconst 2, 1, .int 2, 0, []),
  (82, .if_icmp .ge 30, 3, .null, 112, []),
  (85, .aload_n 0, 1, .null, 0, []),
  (86, .iload_n 1, 1, .null, 0, []),
  (87, .iload_n 2, 1, .null, 0, []),
  (88, .iload 6, 2, .null, 0, []),
  (90, .aload_n 0, 1, .null, 0, []),
  (91, .getfield 35, 3, .null, 0, []),
  (94, .iconst 0, 1, .int 0, 0, []),
  (95, .iload_n 1, 1, .null, 0, []),
  (96, .iadd, 1, .null, 0, []),
  (97, .iaload, 1, .null, 0, []),
  (98, .invokevirtual 194, 3, .null, 0, []),
  (101, .aload_n 0, 1, .null, 0, []),
  (102, .getfield 123, 3, .null, 0, []),
  (105, .if_icmp .lt 7, 3, .null, 112, []),
  (108, .iconst 1, 1, .int 1, 0, []),
  (109, .goto 4, 3, .null, 113, []),
  (112, .iconst 0, 1, .int 0, 0, []),
  (113, .istore 7, 2, .null, 0, []),
  (115, .iload 7, 2, .null, 0, []),
  (117, .ifCond .eq 31, 3, .null, 148, []),
  (120, .iload 5, 2, .null, 0, []),
  (122, .iconst (-1), 1, .int (-1), 0, []),
  (123, .if_icmp .eq 20, 3, .null, 143, []),
  (126, .iload 6, 2, .null, 0, []),
  (128, .iload 4, 2, .null, 0, []),
  (130, .invokestatic 185, 3, .null, 0, []),
  (133, .iload 5, 2, .null, 0, []),
  (135, .iload 4, 2, .null, 0, []),
  (137, .invokestatic 185, 3, .null, 0, []),
  (140, .if_icmp .ge 8, 3, .null, 148, []),
  (143, .iload 6, 2, .null, 0, []),
  (145, .goto 5, 3, .null, 150, []),
  (148, .iload 5, 2, .null, 0, []),
  (150, .istore 5, 2, .null, 0, []),
  (152, .iinc 6 1, 3, .int 1, 0, []),
  (155, .goto (-110), 3, .null, 45, []),
  (158, .iload 5, 2, .null, 0, []),
  (160, .iconst (-1), 1, .int (-1), 0, []),
  (161, .if_icmp .eq 8, 3, .null, 169, []),
  (164, .iload_n 3, 1, .null, 0, []),
  (165, .iconst 1, 1, .int 1, 0, []),
  (166, .if_icmp .ne 8, 3, .null, 174, []),
  (169, .iload 5, 2, .null, 0, []),
  (171, .goto 10, 3, .null, 181, []),
  (174, .iload 5, 2, .null, 0, []),
  (176, .iload 4, 2, .null, 0, []),
  (178, .invokestatic 185, 3, .null, 0, []),
  (181, .ireturn, 1, .null, 0, [])]
theorem KM_nearer : zCode gM_nearer kM_nearer := by unfold zCode; decide +kernel
def kM_root : List zR := [(0, .iload_n 1, 1, .null, 0, []),
  (1, .istore_n 2, 1, .null, 0, []),
  (2, .aload_n 0, 1, .null, 0, []),
  (3, .getfield 23, 3, .null, 0, []),
  (6, .bipush 6, 2, .int 6, 0, []),
  (8, .iload_n 2, 1, .null, 0, []),
  (9, .imul, 1, .null, 0, []),
  (10, .iconst 5, 1, .int 5, 0, []),
  (11, .iadd, 1, .null, 0, []),
  (12, .iaload, 1, .null, 0, []),
  (13, .iconst (-1), 1, .int (-1), 0, []),
  (14, .if_icmp .eq 18, 3, .null, 32, []),
  (17, .aload_n 0, 1, .null, 0, []),
  (18, .getfield 23, 3, .null, 0, []),
  (21, .bipush 6, 2, .int 6, 0, []),
  (23, .iload_n 2, 1, .null, 0, []),
  (24, .imul, 1, .null, 0, []),
  (25, .iconst 5, 1, .int 5, 0, []),
  (26, .iadd, 1, .null, 0, []),
  (27, .iaload, 1, .null, 0, []),
  (28, .istore_n 2, 1, .null, 0, []),
  (29, .goto (-27), 3, .null, 2, []),
  (32, .iload_n 2, 1, .null, 0, []),
  (33, .ireturn, 1, .null, 0, [])]
theorem KM_root : zCode gM_root kM_root := by unfold zCode; decide +kernel
def kM_chain : List zR := [(0, .aload_n 0, 1, .null, 0, []),
  (1, .iload_n 1, 1, .null, 0, []),
  (2, .invokevirtual 179, 3, .null, 0, []),
  (5, .ifCond .ne 6, 3, .null, 11, []),
  (8, .ldc 175, 2, .null, 0, []),
  (10, .ireturn, 1, .null, 0, []),
  (11, .iload_n 2, 1, .null, 0, []),
  (12, .iconst 0, 1, .int 0, 0, []),
  (13, .iconst 2, 1, .int 2, 0, []),
  (14, .invokestatic 69, 3, .null, 0, []),
  (17, .ifCond .ne 6, 3, .null, 23, []),
  (20, .ldc 73, 2, .null, 0, []),
  (22, .ireturn, 1, .null, 0, []),
  (23, .iload_n 2, 1, .null, 0, []),
  (24, .iconst 1, 1, .int 1, 0, []),
  (25, .if_icmp .ne 9, 3, .null, 34, []),
  (28, .aload_n 0, 1, .null, 0, []),
  (29, .iload_n 1, 1, .null, 0, []),
  (30, .invokevirtual 257, 3, .null, 0, []),
  (33, .ireturn, 1, .null, 0, []),
  (34, .iconst 0, 1, .int 0, 0, []),
  (35, .istore_n 3, 1, .null, 0, []),
  (36, .iload_n 1, 1, .null, 0, []),
  (37, .istore 4, 2, .null, 0, []),
  (39, .aload_n 0, 1, .null, 0, []),
  (40, .getfield 23, 3, .null, 0, []),
  (43, .bipush 6, 2, .int 6, 0, []),
  (45, .iload 4, 2, .null, 0, []),
  (47, .imul, 1, .null, 0, []),
  (48, .iconst 5, 1, .int 5, 0, []),
  (49, .iadd, 1, .null, 0, []),
  (50, .iaload, 1, .null, 0, []),
  (51, .iconst (-1), 1, .int (-1), 0, []),
  (52, .if_icmp .eq 23, 3, .null, 75, []),
  (55, .iinc 3 1, 3, .int 1, 0, []),
  (58, .aload_n 0, 1, .null, 0, []),
  (59, .getfield 23, 3, .null, 0, []),
  (62, .bipush 6, 2, .int 6, 0, []),
  (64, .iload 4, 2, .null, 0, []),
  (66, .imul, 1, .null, 0, []),
  (67, .iconst 5, 1, .int 5, 0, []),
  (68, .iadd, 1, .null, 0, []),
  (69, .iaload, 1, .null, 0, []),
  (70, .istore 4, 2, .null, 0, []),
  (72, .goto (-33), 3, .null, 39, []),
  (75, .iconst 0, 1, .int 0, 0, []),
  (76, .istore 4, 2, .null, 0, []),
  (78, .iconst 0, 1, .int 0, 0, []),
  (79, .istore 5, 2, .null, 0, []),
  (81, .iload 5, 2, .null, 0, []),
  (83, .aload_n 0, 1, .null, 0, []),
  (84, .getfield 132, 3, .null, 0, []),
  (87, .if_icmp .ge 36, 3, .null, 123, []),
  (90, .iload 4, 2, .null, 0, []),
  (92, .aload_n 0, 1, .null, 0, []),
  (93, .iload 5, 2, .null, 0, []),
  (95, .invokevirtual 257, 3, .null, 0, []),
  (98, .aload_n 0, 1, .null, 0, []),
  (99, .iload_n 1, 1, .null, 0, []),
  (100, .invokevirtual 257, 3, .null, 0, []),
  (103, .if_icmp .ne 10, 3, .null, 113, []),
  (106, .iconst 1, 1, .int 1, 0, []),
  (107, .iload 5, 2, .null, 0, []),
  (109, .ishl, 1, .null, 0, []),
  (110, .goto 4, 3, .null, 114, []),
  (113, .iconst 0, 1, .int 0, 0, []),
  (114, .ior, 1, .null, 0, []),
  (115, .istore 4, 2, .null, 0, []),
  (117, .iinc 5 1, 3, .int 1, 0, []),
  (120, .goto (-39), 3, .null, 81, []),
  (123, .iload_n 2, 1, .null, 0, []),
  (124, .ifCond .ne 7, 3, .null, 131, []),
  (127, .iload_n 3, 1, .null, 0, []),
  (128, .goto 5, 3, .null, 133, []),
  (131, .iload 4, 2, .null, 0, []),
  (133, .ireturn, 1, .null, 0, [])]
theorem KM_chain : zCode gM_chain kM_chain := by unfold zCode; decide +kernel
def kM_quiet : List zR := [(0, .iload_n 1, 1, .null, 0, []),
  (1, .iconst 0, 1, .int 0, 0, []),
  (2, .bipush 60, 2, .int 60, 0, []),
  (4, .invokestatic 69, 3, .null, 0, []),
  (7, .ifCond .eq 13, 3, .null, 20, []),
  (10, .iload_n 2, 1, .null, 0, []),
  (11, .iconst 0, 1, .int 0, 0, []),
  (12, .bipush 100, 2, .int 100, 0, []),
  (14, .invokestatic 69, 3, .null, 0, []),
  (17, .ifCond .ne 6, 3, .null, 23, []),
  (20, .ldc 73, 2, .null, 0, []),
  (22, .ireturn, 1, .null, 0, []),
  (23, .ldc2_w 260, 3, .null, 0, []),
  (26, .lstore_n 3, 1, .null, 0, []),
  (27, .iconst 0, 1, .int 0, 0, []),
  (28, .istore 5, 2, .null, 0, []),
  (30, .iload 5, 2, .null, 0, []),
  (32, .iload_n 1, 1, .null, 0, []),
  (33, .aload_n 0, 1, .null, 0, []),
  (34, .getfield 132, 3, .null, 0, []),
  (37, .imul, 1, .null, 0, []),
  (38, .if_icmp .ge 21, 3, .null, 59, []),
  (41, .lload_n 3, 1, .null, 0, []),
  (42, .bipush 100, 2, .int 100, 0, []),
  (44, .iload_n 2, 1, .null, 0, []),
  (45, .isub, 1, .null, 0, []),
  (46, .i2l, 1, .null, 0, []),
  (47, .lmul, 1, .null, 0, []),
  (48, .ldc2_w 262, 3, .null, 0, []),
  (51, .ldiv, 1, .null, 0, []),
  (52, .lstore_n 3, 1, .null, 0, []),
  (53, .iinc 5 1, 3, .int 1, 0, []),
  (56, .goto (-26), 3, .null, 30, []),
  (59, .lload_n 3, 1, .null, 0, []),
  (60, .l2i, 1, .null, 0, []),
  (61, .ireturn, 1, .null, 0, [])]
theorem KM_quiet : zCode gM_quiet kM_quiet := by unfold zCode; decide +kernel
def kM_see : List zR := [(0, .aload_n 0, 1, .null, 0, []),
  (1, .iload_n 1, 1, .null, 0, []),
  (2, .invokevirtual 171, 3, .null, 0, []),
  (5, .ifCond .ne 6, 3, .null, 11, []),
  (8, .ldc 175, 2, .null, 0, []),
  (10, .ireturn, 1, .null, 0, []),
  (11, .iload_n 2, 1, .null, 0, []),
  (12, .iconst 0, 1, .int 0, 0, []),
  (13, .iconst 5, 1, .int 5, 0, []),
  (14, .invokestatic 69, 3, .null, 0, []),
  (17, .ifCond .eq 12, 3, .null, 29, []),
  (20, .iload_n 3, 1, .null, 0, []),
  (21, .iconst 0, 1, .int 0, 0, []),
  (22, .iconst 5, 1, .int 5, 0, []),
  (23, .invokestatic 69, 3, .null, 0, []),
  (26, .ifCond .ne 6, 3, .null, 32, []),
  (29, .ldc 73, 2, .null, 0, []),
  (31, .ireturn, 1, .null, 0, []),
  (32, .aload_n 0, 1, .null, 0, []),
  (33, .getfield 148, 3, .null, 0, []),
  (36, .bipush 6, 2, .int 6, 0, []),
  (38, .if_icmp .ne 6, 3, .null, 44, []),
  (41, .ldc 77, 2, .null, 0, []),
  (43, .ireturn, 1, .null, 0, []),
  (44, .aload_n 0, 1, .null, 0, []),
  (45, .getfield 51, 3, .null, 0, []),
  (48, .iconst 3, 1, .int 3, 0, []),
  (49, .aload_n 0, 1, .null, 0, []),
  (50, .getfield 148, 3, .null, 0, []),
  (53, .imul, 1, .null, 0, []),
  (54, .iload_n 1, 1, .null, 0, []),
  (55, .iastore, 1, .null, 0, []),
  (56, .aload_n 0, 1, .null, 0, []),
  (57, .getfield 51, 3, .null, 0, []),
  (60, .iconst 3, 1, .int 3, 0, []),
  (61, .aload_n 0, 1, .null, 0, []),
  (62, .getfield 148, 3, .null, 0, []),
  (65, .imul, 1, .null, 0, []),
  (66, .iconst 1, 1, .int 1, 0, []),
  (67, .iadd, 1, .null, 0, []),
  (68, .iload_n 2, 1, .null, 0, []),
  (69, .iastore, 1, .null, 0, []),
  (70, .aload_n 0, 1, .null, 0, []),
  (71, .getfield 51, 3, .null, 0, []),
  (74, .iconst 3, 1, .int 3, 0, []),
  (75, .aload_n 0, 1, .null, 0, []),
  (76, .getfield 148, 3, .null, 0, []),
  (79, .imul, 1, .null, 0, []),
  (80, .iconst 2, 1, .int 2, 0, []),
  (81, .iadd, 1, .null, 0, []),
  (82, .iload_n 3, 1, .null, 0, []),
  (83, .iastore, 1, .null, 0, []),
  (84, .aload_n 0, 1, .null, 0, []),
  (85, .dup, 1, .null, 0, []),
  (86, .getfield 148, 3, .null, 0, []),
  (89, .iconst 1, 1, .int 1, 0, []),
  (90, .iadd, 1, .null, 0, []),
  (91, .putfield 148, 3, .null, 0, []),
  (94, .aload_n 0, 1, .null, 0, []),
  (95, .getfield 148, 3, .null, 0, []),
  (98, .ireturn, 1, .null, 0, [])]
theorem KM_see : zCode gM_see kM_see := by unfold zCode; decide +kernel
def kM_alibi : List zR := [(0, .aload_n 0, 1, .null, 0, []),
  (1, .iload_n 1, 1, .null, 0, []),
  (2, .invokevirtual 171, 3, .null, 0, []),
  (5, .ifCond .ne 6, 3, .null, 11, []),
  (8, .ldc 175, 2, .null, 0, []),
  (10, .ireturn, 1, .null, 0, []),
  (11, .iconst 0, 1, .int 0, 0, []),
  (12, .istore_n 2, 1, .null, 0, []),
  (13, .iconst 0, 1, .int 0, 0, []),
  (14, .istore_n 3, 1, .null, 0, []),
  (15, .iload_n 3, 1, .null, 0, []),
  (16, .aload_n 0, 1, .null, 0, []),
  (17, .getfield 148, 3, .null, 0, []),
  (20, .if_icmp .ge 113, 3, .null, 133, []),
  (23, .iconst 0, 1, .int 0, 0, []),
  (24, .istore 4, 2, .null, 0, []),
  (26, .iload 4, 2, .null, 0, []),
  (28, .aload_n 0, 1, .null, 0, []),
  (29, .getfield 132, 3, .null, 0, []),
  (32, .if_icmp .ge 95, 3, .null, 127, []),
  (35, .aload_n 0, 1, .null, 0, []),
  (36, .getfield 51, 3, .null, 0, []),
  (39, .iconst 3, 1, .int 3, 0, []),
  (40, .iload_n 3, 1, .null, 0, []),
  (41, .imul, 1, .null, 0, []),
  (42, .iaload, 1, .null, 0, []),
  (43, .iload_n 1, 1, .null, 0, []),
  (44, .if_icmp .ne 58, 3, .null, 102, []),
  (47, .aload_n 0, 1, .null, 0, []),
  (48, .getfield 51, 3, .null, 0, []),
  (51, .iconst 3, 1, .int 3, 0, []),
  (52, .iload_n 3, 1, .null, 0, []),
  (53, .imul, 1, .null, 0, []),
  (54, .iconst 2, 1, .int 2, 0, []),
  (55, .iadd, 1, .null, 0, []),
  (56, .iaload, 1, .null, 0, []),
  (57, .aload_n 0, 1, .null, 0, []),
  (58, .getfield 23, 3, .null, 0, []),
  (61, .bipush 6, 2, .int 6, 0, []),
  (63, .iload 4, 2, .null, 0, []),
  (65, .imul, 1, .null, 0, []),
  (66, .iaload, 1, .null, 0, []),
  (67, .invokestatic 185, 3, .null, 0, []),
  (70, .aload_n 0, 1, .null, 0, []),
  (71, .getfield 51, 3, .null, 0, []),
  (74, .iconst 3, 1, .int 3, 0, []),
  (75, .iload_n 3, 1, .null, 0, []),
  (76, .imul, 1, .null, 0, []),
  (77, .iconst 1, 1, .int 1, 0, []),
  (78, .iadd, 1, .null, 0, []),
  (79, .iaload, 1, .null, 0, []),
  (80, .aload_n 0, 1, .null, 0, []),
  (81, .getfield 23, 3, .null, 0, []),
  (84, .bipush 6, 2, .int 6, 0, []),
  (86, .iload 4, 2, .null, 0, []),
  (88, .imul, 1, .null, 0, []),
  (89, .iconst 1, 1, .int 1, 0, []),
  (90, .iadd, 1, .null, 0, []),
  (91, .iaload, 1, .null, 0, []),
  (92, .invokestatic 185, 3, .null, 0, []),
  (95, .if_icmp .le 7, 3, .null, 102, []),
  (98, .iconst 1, 1, .int 1, 0, []),
  (99, .goto 4, 3, .null, 103, []),
  (102, .iconst 0, 1, .int 0, 0, []),
  (103, .istore 5, 2, .null, 0, []),
  (105, .iload_n 2, 1, .null, 0, []),
  (106, .iload 5, 2, .null, 0, []),
  (108, .ifCond .eq 10, 3, .null, 118, []),
  (111, .iconst 1, 1, .int 1, 0, []),
  (112, .iload 4, 2, .null, 0, []),
  (114, .ishl, 1, .null, 0, []),
  (115, .goto 4, 3, .null, 119, []),
  (118, .iconst 0, 1, .int 0, 0, []),
  (119, .ior, 1, .null, 0, []),
  (120, .istore_n 2, 1, .null, 0, []),
  (121, .iinc 4 1, 3, .int 1, 0, []),
  (124, .goto (-98), 3, .null, 26, []),
  (127, .iinc 3 1, 3, .int 1, 0, []),
  (130, .goto (-115), 3, .null, 15, []),
  (133, .iload_n 2, 1, .null, 0, []),
  (134, .ireturn, 1, .null, 0, [])]
theorem KM_alibi : zCode gM_alibi kM_alibi := by unfold zCode; decide +kernel
def kM_write : List zR := [(0, .aload_n 0, 1, .null, 0, []),
  (1, .iload_n 1, 1, .null, 0, []),
  (2, .invokevirtual 171, 3, .null, 0, []),
  (5, .ifCond .eq 11, 3, .null, 16, []),
  (8, .aload_n 0, 1, .null, 0, []),
  (9, .iload_n 2, 1, .null, 0, []),
  (10, .invokevirtual 179, 3, .null, 0, []),
  (13, .ifCond .ne 6, 3, .null, 19, []),
  (16, .ldc 175, 2, .null, 0, []),
  (18, .ireturn, 1, .null, 0, []),
  (19, .aload_n 0, 1, .null, 0, []),
  (20, .getfield 151, 3, .null, 0, []),
  (23, .bipush 20, 2, .int 20, 0, []),
  (25, .if_icmp .ne 6, 3, .null, 31, []),
  (28, .ldc 77, 2, .null, 0, []),
  (30, .ireturn, 1, .null, 0, []),
  (31, .aload_n 0, 1, .null, 0, []),
  (32, .getfield 54, 3, .null, 0, []),
  (35, .iconst 2, 1, .int 2, 0, []),
  (36, .aload_n 0, 1, .null, 0, []),
  (37, .getfield 151, 3, .null, 0, []),
  (40, .imul, 1, .null, 0, []),
  (41, .iload_n 1, 1, .null, 0, []),
  (42, .iastore, 1, .null, 0, []),
  (43, .aload_n 0, 1, .null, 0, []),
  (44, .getfield 54, 3, .null, 0, []),
  (47, .iconst 2, 1, .int 2, 0, []),
  (48, .aload_n 0, 1, .null, 0, []),
  (49, .getfield 151, 3, .null, 0, []),
  (52, .imul, 1, .null, 0, []),
  (53, .iconst 1, 1, .int 1, 0, []),
  (54, .iadd, 1, .null, 0, []),
  (55, .iload_n 2, 1, .null, 0, []),
  (56, .iastore, 1, .null, 0, []),
  (57, .aload_n 0, 1, .null, 0, []),
  (58, .dup, 1, .null, 0, []),
  (59, .getfield 151, 3, .null, 0, []),
  (62, .iconst 1, 1, .int 1, 0, []),
  (63, .iadd, 1, .null, 0, []),
  (64, .putfield 151, 3, .null, 0, []),
  (67, .aload_n 0, 1, .null, 0, []),
  (68, .getfield 151, 3, .null, 0, []),
  (71, .ireturn, 1, .null, 0, [])]
theorem KM_write : zCode gM_write kM_write := by unfold zCode; decide +kernel
def kM_judge : List zR := [(0, .iconst 0, 1, .int 0, 0, []),
  (1, .istore_n 1, 1, .null, 0, []),
  (2, .iload_n 1, 1, .null, 0, []),
  (3, .aload_n 0, 1, .null, 0, []),
  (4, .getfield 151, 3, .null, 0, []),
  (7, .if_icmp .ge 39, 3, .null, 46, []),
  (10, .aload_n 0, 1, .null, 0, []),
  (11, .aload_n 0, 1, .null, 0, []),
  (12, .getfield 54, 3, .null, 0, []),
  (15, .iconst 2, 1, .int 2, 0, []),
  (16, .iload_n 1, 1, .null, 0, []),
  (17, .imul, 1, .null, 0, []),
  (18, .iconst 1, 1, .int 1, 0, []),
  (19, .iadd, 1, .null, 0, []),
  (20, .iaload, 1, .null, 0, []),
  (21, .invokevirtual 154, 3, .null, 0, []),
  (24, .aload_n 0, 1, .null, 0, []),
  (25, .getfield 54, 3, .null, 0, []),
  (28, .iconst 2, 1, .int 2, 0, []),
  (29, .iload_n 1, 1, .null, 0, []),
  (30, .imul, 1, .null, 0, []),
  (31, .iaload, 1, .null, 0, []),
  (32, .invokestatic 167, 3, .null, 0, []),
  (35, .ifCond .ne 5, 3, .null, 40, []),
  (38, .iload_n 1, 1, .null, 0, []),
  (39, .ireturn, 1, .null, 0, []),
  (40, .iinc 1 1, 3, .int 1, 0, []),
  (43, .goto (-41), 3, .null, 2, []),
  (46, .iconst (-1), 1, .int (-1), 0, []),
  (47, .ireturn, 1, .null, 0, [])]
theorem KM_judge : zCode gM_judge kM_judge := by unfold zCode; decide +kernel
def kM_tear : List zR := [(0, .aload_n 0, 1, .null, 0, []),
  (1, .getfield 148, 3, .null, 0, []),
  (4, .aload_n 0, 1, .null, 0, []),
  (5, .getfield 151, 3, .null, 0, []),
  (8, .iadd, 1, .null, 0, []),
  (9, .istore_n 1, 1, .null, 0, []),
  (10, .aload_n 0, 1, .null, 0, []),
  (11, .iconst 0, 1, .int 0, 0, []),
  (12, .putfield 148, 3, .null, 0, []),
  (15, .aload_n 0, 1, .null, 0, []),
  (16, .iconst 0, 1, .int 0, 0, []),
  (17, .putfield 151, 3, .null, 0, []),
  (20, .iload_n 1, 1, .null, 0, []),
  (21, .ireturn, 1, .null, 0, [])]
theorem KM_tear : zCode gM_tear kM_tear := by unfold zCode; decide +kernel
def kM_seed : List zR := [(0, .iload_n 1, 1, .null, 0, []),
  (1, .ifCond .ge 6, 3, .null, 7, []),
  (4, .ldc 73, 2, .null, 0, []),
  (6, .ireturn, 1, .null, 0, []),
  (7, .aload_n 0, 1, .null, 0, []),
  (8, .getfield 222, 3, .null, 0, []),
  (11, .istore_n 2, 1, .null, 0, []),
  (12, .aload_n 0, 1, .null, 0, []),
  (13, .iload_n 1, 1, .null, 0, []),
  (14, .putfield 222, 3, .null, 0, []),
  (17, .iload_n 2, 1, .null, 0, []),
  (18, .ireturn, 1, .null, 0, [])]
theorem KM_seed : zCode gM_seed kM_seed := by unfold zCode; decide +kernel
def kM_keep : List zR := [(0, .iload_n 1, 1, .null, 0, []),
  (1, .iconst 0, 1, .int 0, 0, []),
  (2, .iconst 1, 1, .int 1, 0, []),
  (3, .invokestatic 69, 3, .null, 0, []),
  (6, .ifCond .ne 6, 3, .null, 12, []),
  (9, .ldc 175, 2, .null, 0, []),
  (11, .ireturn, 1, .null, 0, []),
  (12, .aload_n 0, 1, .null, 0, []),
  (13, .getfield 35, 3, .null, 0, []),
  (16, .iconst 0, 1, .int 0, 0, []),
  (17, .aload_n 0, 1, .null, 0, []),
  (18, .getfield 41, 3, .null, 0, []),
  (21, .bipush 55, 2, .int 55, 0, []),
  (23, .iload_n 1, 1, .null, 0, []),
  (24, .imul, 1, .null, 0, []),
  (25, .invokestatic 207, 3, .null, 0, []),
  (28, .aload_n 0, 1, .null, 0, []),
  (29, .getfield 44, 3, .null, 0, []),
  (32, .iload_n 1, 1, .null, 0, []),
  (33, .aload_n 0, 1, .null, 0, []),
  (34, .getfield 222, 3, .null, 0, []),
  (37, .iastore, 1, .null, 0, []),
  (38, .aload_n 0, 1, .null, 0, []),
  (39, .getfield 47, 3, .null, 0, []),
  (42, .iload_n 1, 1, .null, 0, []),
  (43, .iconst 1, 1, .int 1, 0, []),
  (44, .bastore, 1, .null, 0, []),
  (45, .aload_n 0, 1, .null, 0, []),
  (46, .iconst 0, 1, .int 0, 0, []),
  (47, .putfield 145, 3, .null, 0, []),
  (50, .iconst 1, 1, .int 1, 0, []),
  (51, .ireturn, 1, .null, 0, [])]
theorem KM_keep : zCode gM_keep kM_keep := by unfold zCode; decide +kernel
def kM_goBack : List zR := [(0, .iload_n 1, 1, .null, 0, []),
  (1, .iconst 0, 1, .int 0, 0, []),
  (2, .iconst 1, 1, .int 1, 0, []),
  (3, .invokestatic 69, 3, .null, 0, []),
  (6, .ifCond .ne 6, 3, .null, 12, []),
  (9, .ldc 175, 2, .null, 0, []),
  (11, .ireturn, 1, .null, 0, []),
  (12, .aload_n 0, 1, .null, 0, []),
  (13, .getfield 47, 3, .null, 0, []),
  (16, .iload_n 1, 1, .null, 0, []),
  (17, .baload, 1, .null, 0, []),
  (18, .ifCond .ne 6, 3, .null, 24, []),
  (21, .ldc 211, 2, .null, 0, []),
  (23, .ireturn, 1, .null, 0, []),
  (24, .aload_n 0, 1, .null, 0, []),
  (25, .getfield 41, 3, .null, 0, []),
  (28, .bipush 55, 2, .int 55, 0, []),
  (30, .iload_n 1, 1, .null, 0, []),
  (31, .imul, 1, .null, 0, []),
  (32, .aload_n 0, 1, .null, 0, []),
  (33, .getfield 35, 3, .null, 0, []),
  (36, .iconst 0, 1, .int 0, 0, []),
  (37, .invokestatic 207, 3, .null, 0, []),
  (40, .aload_n 0, 1, .null, 0, []),
  (41, .aload_n 0, 1, .null, 0, []),
  (42, .getfield 44, 3, .null, 0, []),
  (45, .iload_n 1, 1, .null, 0, []),
  (46, .iaload, 1, .null, 0, []),
  (47, .putfield 222, 3, .null, 0, []),
  (50, .aload_n 0, 1, .null, 0, []),
  (51, .iconst 0, 1, .int 0, 0, []),
  (52, .putfield 145, 3, .null, 0, []),
  (55, .iconst 1, 1, .int 1, 0, []),
  (56, .ireturn, 1, .null, 0, [])]
theorem KM_goBack : zCode gM_goBack kM_goBack := by unfold zCode; decide +kernel
def kJI_bitCount : List zR := [(0, .iload_n 0, 1, .null, 0, []),
  (1, .iload_n 0, 1, .null, 0, []),
  (2, .iconst 1, 1, .int 1, 0, []),
  (3, .iushr, 1, .null, 0, []),
  (4, .ldc_w 265, 3, .null, 0, []),
  (7, .iand, 1, .null, 0, []),
  (8, .isub, 1, .null, 0, []),
  (9, .istore_n 0, 1, .null, 0, []),
  (10, .iload_n 0, 1, .null, 0, []),
  (11, .ldc_w 266, 3, .null, 0, []),
  (14, .iand, 1, .null, 0, []),
  (15, .iload_n 0, 1, .null, 0, []),
  (16, .iconst 2, 1, .int 2, 0, []),
  (17, .iushr, 1, .null, 0, []),
  (18, .ldc_w 266, 3, .null, 0, []),
  (21, .iand, 1, .null, 0, []),
  (22, .iadd, 1, .null, 0, []),
  (23, .istore_n 0, 1, .null, 0, []),
  (24, .iload_n 0, 1, .null, 0, []),
  (25, .iload_n 0, 1, .null, 0, []),
  (26, .iconst 4, 1, .int 4, 0, []),
  (27, .iushr, 1, .null, 0, []),
  (28, .iadd, 1, .null, 0, []),
  (29, .ldc_w 267, 3, .null, 0, []),
  (32, .iand, 1, .null, 0, []),
  (33, .istore_n 0, 1, .null, 0, []),
  (34, .iload_n 0, 1, .null, 0, []),
  (35, .iload_n 0, 1, .null, 0, []),
  (36, .bipush 8, 2, .int 8, 0, []),
  (38, .iushr, 1, .null, 0, []),
  (39, .iadd, 1, .null, 0, []),
  (40, .istore_n 0, 1, .null, 0, []),
  (41, .iload_n 0, 1, .null, 0, []),
  (42, .iload_n 0, 1, .null, 0, []),
  (43, .bipush 16, 2, .int 16, 0, []),
  (45, .iushr, 1, .null, 0, []),
  (46, .iadd, 1, .null, 0, []),
  (47, .istore_n 0, 1, .null, 0, []),
  (48, .iload_n 0, 1, .null, 0, []),
  (49, .bipush 63, 2, .int 63, 0, []),
  (51, .iand, 1, .null, 0, []),
  (52, .ireturn, 1, .null, 0, [])]
theorem KJI_bitCount : zCode gJI_bitCount kJI_bitCount := by unfold zCode; decide +kernel
def kJM_floorMod : List zR := [(0, .iload_n 0, 1, .null, 0, []),
  (1, .iload_n 1, 1, .null, 0, []),
  (2, .irem, 1, .null, 0, []),
  (3, .istore_n 2, 1, .null, 0, []),
  (4, .iload_n 0, 1, .null, 0, []),
  (5, .iload_n 1, 1, .null, 0, []),
  (6, .ixor, 1, .null, 0, []),
  (7, .ifCond .ge 11, 3, .null, 18, []),
  (10, .iload_n 2, 1, .null, 0, []),
  (11, .ifCond .eq 7, 3, .null, 18, []),
  (14, .iload_n 2, 1, .null, 0, []),
  (15, .iload_n 1, 1, .null, 0, []),
  (16, .iadd, 1, .null, 0, []),
  (17, .ireturn, 1, .null, 0, []),
  (18, .iload_n 2, 1, .null, 0, []),
  (19, .ireturn, 1, .null, 0, [])]
theorem KJM_floorMod : zCode gJM_floorMod kJM_floorMod := by unfold zCode; decide +kernel
def kJM_abs : List zR := [(0, .iload_n 0, 1, .null, 0, []),
  (1, .ifCond .ge 8, 3, .null, 9, []),
  (4, .iload_n 0, 1, .null, 0, []),
  (5, .ineg, 1, .null, 0, []),
  (6, .goto 4, 3, .null, 10, []),
  (9, .iload_n 0, 1, .null, 0, []),
  (10, .ireturn, 1, .null, 0, [])]
theorem KJM_abs : zCode gJM_abs kJM_abs := by unfold zCode; decide +kernel
def kJM_max : List zR := [(0, .iload_n 0, 1, .null, 0, []),
  (1, .iload_n 1, 1, .null, 0, []),
  (2, .if_icmp .lt 7, 3, .null, 9, []),
  (5, .iload_n 0, 1, .null, 0, []),
  (6, .goto 4, 3, .null, 10, []),
  (9, .iload_n 1, 1, .null, 0, []),
  (10, .ireturn, 1, .null, 0, [])]
theorem KJM_max : zCode gJM_max kJM_max := by unfold zCode; decide +kernel
def kJM_min : List zR := [(0, .iload_n 0, 1, .null, 0, []),
  (1, .iload_n 1, 1, .null, 0, []),
  (2, .if_icmp .gt 7, 3, .null, 9, []),
  (5, .iload_n 0, 1, .null, 0, []),
  (6, .goto 4, 3, .null, 10, []),
  (9, .iload_n 1, 1, .null, 0, []),
  (10, .ireturn, 1, .null, 0, [])]
theorem KJM_min : zCode gJM_min kJM_min := by unfold zCode; decide +kernel
end
section
theorem zEnterF {g : zG} {d : Nat} {Q : Option Value → List va_E → Prop} {av : List Value} {σ : List va_E} (hy : plainFor g.1 = true) (hc1 : zC1 av = true) (hlen : av.length ≤ g.2.2.1) (k : zGood g d Q 0 (zArgs g.2.2.1 av) [] σ 0 0) : zRuns g d av σ Q := by
  intro l cs D ad sz
  refine va_MetF (cc := g.2.1) (maxL := g.2.2.1) (ret := g.2.2.2.1) hy rfl ?_
  intro p e s m args below meth c s₁ B hml hv
  obtain ⟨rfl, hsz, hP, hK, hD0⟩ := hv
  have hts := atoms_spec (ws := zWs g) B.pre
  have hown : s.vm.findClass g.1.cls = some m.cls := findClass_of_methodNamed B.named
  subst hsz
  have hD := hD0.self (sz := s.heap.size)
  have hl0 := lv_entry (av.map (zRe ad)) (n := g.2.2.1) (by rw [zSl_len hc1]; exact hlen)
  rw [lg_entry_eq]
  refine k p l e s m _ below meth c cs D (va_A (zW cs ad σ) s.heap.size) ad ad σ.length s.heap [] _ ⟨B.exec, B.bytes, hml, B.returns, B.notSynchronized, hown, hts, hK, fun q h => Or.inr h, (name_of_methodNamed B.named B.method).1⟩ ⟨fun _ => rfl, fun _ _ => rfl, Nat.le_refl _, Nat.zero_le _, Nat.zero_le _⟩ hP hD va_S.rf ⟨hl0.1, hl0.2.1, fun k v hkv => hl0.2.2 (k, zRe ad v) ?_⟩
  have := zArgs_lv (ad := ad) (i := 0) hc1 (zArgs_get hkv)
  rwa [Nat.zero_add] at this
theorem m_Ct_init (cuts : List Nat) {d : Nat} {Q : Option Value → List va_E → Prop} {av : List Value} {σ : List va_E} (hc : zC1 av = true) (hl : av.length ≤ 3) (h : zX gCt_init true pCt kCt_init cuts d Q 400 true 0 (zArgs 3 av) [] σ 0 0) : zRuns gCt_init d av σ Q := zEnter (by decide +kernel) hc hl (zX_s (fun _ => rfl) PCt KCt_init 400 true 0 _ _ _ _ _ h)
theorem w_Ct_init (cuts : List Nat) {d : Nat} {Q : Option Value → List va_E → Prop} {pc : Nat} {ls : List (Option Value)} {st : List Value} {σ : List va_E} {uc us : Nat} (h : zX gCt_init true pCt kCt_init cuts d Q 400 true pc ls st σ uc us) : zGood gCt_init d Q pc ls st σ uc us := zX_s (fun _ => rfl) PCt KCt_init 400 true pc _ _ _ _ _ h
theorem m_Ct_isNear (cuts : List Nat) {d : Nat} {Q : Option Value → List va_E → Prop} {av : List Value} {σ : List va_E} (hc : zC1 av = true) (hl : av.length ≤ 3) (h : zX gCt_isNear false pCt kCt_isNear cuts d Q 400 true 0 (zArgs 3 av) [] σ 0 0) : zRuns gCt_isNear d av σ Q := zEnter (by decide +kernel) hc hl (zX_s (fun q => by cases q) PCt KCt_isNear 400 true 0 _ _ _ _ _ h)
theorem w_Ct_isNear (cuts : List Nat) {d : Nat} {Q : Option Value → List va_E → Prop} {pc : Nat} {ls : List (Option Value)} {st : List Value} {σ : List va_E} {uc us : Nat} (h : zX gCt_isNear false pCt kCt_isNear cuts d Q 400 true pc ls st σ uc us) : zGood gCt_isNear d Q pc ls st σ uc us := zX_s (fun q => by cases q) PCt KCt_isNear 400 true pc _ _ _ _ _ h
theorem m_Ct_hasPowers (cuts : List Nat) {d : Nat} {Q : Option Value → List va_E → Prop} {av : List Value} {σ : List va_E} (hc : zC1 av = true) (hl : av.length ≤ 3) (h : zX gCt_hasPowers false pCt kCt_hasPowers cuts d Q 400 true 0 (zArgs 3 av) [] σ 0 0) : zRuns gCt_hasPowers d av σ Q := zEnter (by decide +kernel) hc hl (zX_s (fun q => by cases q) PCt KCt_hasPowers 400 true 0 _ _ _ _ _ h)
theorem w_Ct_hasPowers (cuts : List Nat) {d : Nat} {Q : Option Value → List va_E → Prop} {pc : Nat} {ls : List (Option Value)} {st : List Value} {σ : List va_E} {uc us : Nat} (h : zX gCt_hasPowers false pCt kCt_hasPowers cuts d Q 400 true pc ls st σ uc us) : zGood gCt_hasPowers d Q pc ls st σ uc us := zX_s (fun q => by cases q) PCt KCt_hasPowers 400 true pc _ _ _ _ _ h
theorem m_Ct_freshBelief (cuts : List Nat) {d : Nat} {Q : Option Value → List va_E → Prop} {av : List Value} {σ : List va_E} (hc : zC1 av = true) (hl : av.length ≤ 6) (h : zX gCt_freshBelief false pCt kCt_freshBelief cuts d Q 400 true 0 (zArgs 6 av) [] σ 0 0) : zRuns gCt_freshBelief d av σ Q := zEnter (by decide +kernel) hc hl (zX_s (fun q => by cases q) PCt KCt_freshBelief 400 true 0 _ _ _ _ _ h)
theorem w_Ct_freshBelief (cuts : List Nat) {d : Nat} {Q : Option Value → List va_E → Prop} {pc : Nat} {ls : List (Option Value)} {st : List Value} {σ : List va_E} {uc us : Nat} (h : zX gCt_freshBelief false pCt kCt_freshBelief cuts d Q 400 true pc ls st σ uc us) : zGood gCt_freshBelief d Q pc ls st σ uc us := zX_s (fun q => by cases q) PCt KCt_freshBelief 400 true pc _ _ _ _ _ h
theorem m_Ct_wornLimit (cuts : List Nat) {d : Nat} {Q : Option Value → List va_E → Prop} {av : List Value} {σ : List va_E} (hc : zC1 av = true) (hl : av.length ≤ 4) (h : zX gCt_wornLimit false pCt kCt_wornLimit cuts d Q 400 true 0 (zArgs 4 av) [] σ 0 0) : zRuns gCt_wornLimit d av σ Q := zEnter (by decide +kernel) hc hl (zX_s (fun q => by cases q) PCt KCt_wornLimit 400 true 0 _ _ _ _ _ h)
theorem w_Ct_wornLimit (cuts : List Nat) {d : Nat} {Q : Option Value → List va_E → Prop} {pc : Nat} {ls : List (Option Value)} {st : List Value} {σ : List va_E} {uc us : Nat} (h : zX gCt_wornLimit false pCt kCt_wornLimit cuts d Q 400 true pc ls st σ uc us) : zGood gCt_wornLimit d Q pc ls st σ uc us := zX_s (fun q => by cases q) PCt KCt_wornLimit 400 true pc _ _ _ _ _ h
theorem m_Ct_freeOf (cuts : List Nat) {d : Nat} {Q : Option Value → List va_E → Prop} {av : List Value} {σ : List va_E} (hc : zC1 av = true) (hl : av.length ≤ 2) (h : zX gCt_freeOf false pCt kCt_freeOf cuts d Q 400 true 0 (zArgs 2 av) [] σ 0 0) : zRuns gCt_freeOf d av σ Q := zEnter (by decide +kernel) hc hl (zX_s (fun q => by cases q) PCt KCt_freeOf 400 true 0 _ _ _ _ _ h)
theorem w_Ct_freeOf (cuts : List Nat) {d : Nat} {Q : Option Value → List va_E → Prop} {pc : Nat} {ls : List (Option Value)} {st : List Value} {σ : List va_E} {uc us : Nat} (h : zX gCt_freeOf false pCt kCt_freeOf cuts d Q 400 true pc ls st σ uc us) : zGood gCt_freeOf d Q pc ls st σ uc us := zX_s (fun q => by cases q) PCt KCt_freeOf 400 true pc _ _ _ _ _ h
theorem m_Ct_freeInAll (cuts : List Nat) {d : Nat} {Q : Option Value → List va_E → Prop} {av : List Value} {σ : List va_E} (hc : zC1 av = true) (hl : av.length ≤ 3) (h : zX gCt_freeInAll false pCt kCt_freeInAll cuts d Q 400 true 0 (zArgs 3 av) [] σ 0 0) : zRuns gCt_freeInAll d av σ Q := zEnter (by decide +kernel) hc hl (zX_s (fun q => by cases q) PCt KCt_freeInAll 400 true 0 _ _ _ _ _ h)
theorem w_Ct_freeInAll (cuts : List Nat) {d : Nat} {Q : Option Value → List va_E → Prop} {pc : Nat} {ls : List (Option Value)} {st : List Value} {σ : List va_E} {uc us : Nat} (h : zX gCt_freeInAll false pCt kCt_freeInAll cuts d Q 400 true pc ls st σ uc us) : zGood gCt_freeInAll d Q pc ls st σ uc us := zX_s (fun q => by cases q) PCt KCt_freeInAll 400 true pc _ _ _ _ _ h
theorem m_Ct_blamesOf (cuts : List Nat) {d : Nat} {Q : Option Value → List va_E → Prop} {av : List Value} {σ : List va_E} (hc : zC1 av = true) (hl : av.length ≤ 4) (h : zX gCt_blamesOf false pCt kCt_blamesOf cuts d Q 400 true 0 (zArgs 4 av) [] σ 0 0) : zRuns gCt_blamesOf d av σ Q := zEnter (by decide +kernel) hc hl (zX_s (fun q => by cases q) PCt KCt_blamesOf 400 true 0 _ _ _ _ _ h)
theorem w_Ct_blamesOf (cuts : List Nat) {d : Nat} {Q : Option Value → List va_E → Prop} {pc : Nat} {ls : List (Option Value)} {st : List Value} {σ : List va_E} {uc us : Nat} (h : zX gCt_blamesOf false pCt kCt_blamesOf cuts d Q 400 true pc ls st σ uc us) : zGood gCt_blamesOf d Q pc ls st σ uc us := zX_s (fun q => by cases q) PCt KCt_blamesOf 400 true pc _ _ _ _ _ h
theorem m_Ct_mayTake (cuts : List Nat) {d : Nat} {Q : Option Value → List va_E → Prop} {av : List Value} {σ : List va_E} (hc : zC1 av = true) (hl : av.length ≤ 4) (h : zX gCt_mayTake false pCt kCt_mayTake cuts d Q 400 true 0 (zArgs 4 av) [] σ 0 0) : zRuns gCt_mayTake d av σ Q := zEnter (by decide +kernel) hc hl (zX_s (fun q => by cases q) PCt KCt_mayTake 400 true 0 _ _ _ _ _ h)
theorem w_Ct_mayTake (cuts : List Nat) {d : Nat} {Q : Option Value → List va_E → Prop} {pc : Nat} {ls : List (Option Value)} {st : List Value} {σ : List va_E} {uc us : Nat} (h : zX gCt_mayTake false pCt kCt_mayTake cuts d Q 400 true pc ls st σ uc us) : zGood gCt_mayTake d Q pc ls st σ uc us := zX_s (fun q => by cases q) PCt KCt_mayTake 400 true pc _ _ _ _ _ h
theorem m_Ct_takers (cuts : List Nat) {d : Nat} {Q : Option Value → List va_E → Prop} {av : List Value} {σ : List va_E} (hc : zC1 av = true) (hl : av.length ≤ 4) (h : zX gCt_takers false pCt kCt_takers cuts d Q 400 true 0 (zArgs 4 av) [] σ 0 0) : zRuns gCt_takers d av σ Q := zEnter (by decide +kernel) hc hl (zX_s (fun q => by cases q) PCt KCt_takers 400 true 0 _ _ _ _ _ h)
theorem w_Ct_takers (cuts : List Nat) {d : Nat} {Q : Option Value → List va_E → Prop} {pc : Nat} {ls : List (Option Value)} {st : List Value} {σ : List va_E} {uc us : Nat} (h : zX gCt_takers false pCt kCt_takers cuts d Q 400 true pc ls st σ uc us) : zGood gCt_takers d Q pc ls st σ uc us := zX_s (fun q => by cases q) PCt KCt_takers 400 true pc _ _ _ _ _ h
theorem m_Ct_cheapestFor (cuts : List Nat) {d : Nat} {Q : Option Value → List va_E → Prop} {av : List Value} {σ : List va_E} (hc : zC1 av = true) (hl : av.length ≤ 8) (h : zX gCt_cheapestFor false pCt kCt_cheapestFor cuts d Q 400 true 0 (zArgs 8 av) [] σ 0 0) : zRuns gCt_cheapestFor d av σ Q := zEnter (by decide +kernel) hc hl (zX_s (fun q => by cases q) PCt KCt_cheapestFor 400 true 0 _ _ _ _ _ h)
theorem w_Ct_cheapestFor (cuts : List Nat) {d : Nat} {Q : Option Value → List va_E → Prop} {pc : Nat} {ls : List (Option Value)} {st : List Value} {σ : List va_E} {uc us : Nat} (h : zX gCt_cheapestFor false pCt kCt_cheapestFor cuts d Q 400 true pc ls st σ uc us) : zGood gCt_cheapestFor d Q pc ls st σ uc us := zX_s (fun q => by cases q) PCt KCt_cheapestFor 400 true pc _ _ _ _ _ h
theorem m_Ct_nearestFit (cuts : List Nat) {d : Nat} {Q : Option Value → List va_E → Prop} {av : List Value} {σ : List va_E} (hc : zC1 av = true) (hl : av.length ≤ 8) (h : zX gCt_nearestFit false pCt kCt_nearestFit cuts d Q 400 true 0 (zArgs 8 av) [] σ 0 0) : zRuns gCt_nearestFit d av σ Q := zEnter (by decide +kernel) hc hl (zX_s (fun q => by cases q) PCt KCt_nearestFit 400 true 0 _ _ _ _ _ h)
theorem w_Ct_nearestFit (cuts : List Nat) {d : Nat} {Q : Option Value → List va_E → Prop} {pc : Nat} {ls : List (Option Value)} {st : List Value} {σ : List va_E} {uc us : Nat} (h : zX gCt_nearestFit false pCt kCt_nearestFit cuts d Q 400 true pc ls st σ uc us) : zGood gCt_nearestFit d Q pc ls st σ uc us := zX_s (fun q => by cases q) PCt KCt_nearestFit 400 true pc _ _ _ _ _ h
theorem m_Fa_init (cuts : List Nat) {d : Nat} {Q : Option Value → List va_E → Prop} {av : List Value} {σ : List va_E} (hc : zC1 av = true) (hl : av.length ≤ 1) (h : zX gFa_init true pFa kFa_init cuts d Q 400 true 0 (zArgs 1 av) [] σ 0 0) : zRuns gFa_init d av σ Q := zEnter (by decide +kernel) hc hl (zX_s (fun _ => rfl) PFa KFa_init 400 true 0 _ _ _ _ _ h)
theorem w_Fa_init (cuts : List Nat) {d : Nat} {Q : Option Value → List va_E → Prop} {pc : Nat} {ls : List (Option Value)} {st : List Value} {σ : List va_E} {uc us : Nat} (h : zX gFa_init true pFa kFa_init cuts d Q 400 true pc ls st σ uc us) : zGood gFa_init d Q pc ls st σ uc us := zX_s (fun _ => rfl) PFa KFa_init 400 true pc _ _ _ _ _ h
theorem m_Fa_empty (cuts : List Nat) {d : Nat} {Q : Option Value → List va_E → Prop} {av : List Value} {σ : List va_E} (hc : zC1 av = true) (hl : av.length ≤ 1) (h : zX gFa_empty false pFa kFa_empty cuts d Q 400 true 0 (zArgs 1 av) [] σ 0 0) : zRuns gFa_empty d av σ Q := zEnter (by decide +kernel) hc hl (zX_s (fun q => by cases q) PFa KFa_empty 400 true 0 _ _ _ _ _ h)
theorem w_Fa_empty (cuts : List Nat) {d : Nat} {Q : Option Value → List va_E → Prop} {pc : Nat} {ls : List (Option Value)} {st : List Value} {σ : List va_E} {uc us : Nat} (h : zX gFa_empty false pFa kFa_empty cuts d Q 400 true pc ls st σ uc us) : zGood gFa_empty d Q pc ls st σ uc us := zX_s (fun q => by cases q) PFa KFa_empty 400 true pc _ _ _ _ _ h
theorem m_Fa_become (cuts : List Nat) {d : Nat} {Q : Option Value → List va_E → Prop} {av : List Value} {σ : List va_E} (hc : zC1 av = true) (hl : av.length ≤ 2) (h : zX gFa_become false pFa kFa_become cuts d Q 400 true 0 (zArgs 2 av) [] σ 0 0) : zRuns gFa_become d av σ Q := zEnter (by decide +kernel) hc hl (zX_s (fun q => by cases q) PFa KFa_become 400 true 0 _ _ _ _ _ h)
theorem w_Fa_become (cuts : List Nat) {d : Nat} {Q : Option Value → List va_E → Prop} {pc : Nat} {ls : List (Option Value)} {st : List Value} {σ : List va_E} {uc us : Nat} (h : zX gFa_become false pFa kFa_become cuts d Q 400 true pc ls st σ uc us) : zGood gFa_become d Q pc ls st σ uc us := zX_s (fun q => by cases q) PFa KFa_become 400 true pc _ _ _ _ _ h
theorem m_Fa_areFar (cuts : List Nat) {d : Nat} {Q : Option Value → List va_E → Prop} {av : List Value} {σ : List va_E} (hc : zC1 av = true) (hl : av.length ≤ 3) (h : zX gFa_areFar false pFa kFa_areFar cuts d Q 400 true 0 (zArgs 3 av) [] σ 0 0) : zRuns gFa_areFar d av σ Q := zEnter (by decide +kernel) hc hl (zX_s (fun q => by cases q) PFa KFa_areFar 400 true 0 _ _ _ _ _ h)
theorem w_Fa_areFar (cuts : List Nat) {d : Nat} {Q : Option Value → List va_E → Prop} {pc : Nat} {ls : List (Option Value)} {st : List Value} {σ : List va_E} {uc us : Nat} (h : zX gFa_areFar false pFa kFa_areFar cuts d Q 400 true pc ls st σ uc us) : zGood gFa_areFar d Q pc ls st σ uc us := zX_s (fun q => by cases q) PFa KFa_areFar 400 true pc _ _ _ _ _ h
theorem m_Fa_ratesOf (cuts : List Nat) {d : Nat} {Q : Option Value → List va_E → Prop} {av : List Value} {σ : List va_E} (hc : zC1 av = true) (hl : av.length ≤ 4) (h : zX gFa_ratesOf false pFa kFa_ratesOf cuts d Q 400 true 0 (zArgs 4 av) [] σ 0 0) : zRuns gFa_ratesOf d av σ Q := zEnter (by decide +kernel) hc hl (zX_s (fun q => by cases q) PFa KFa_ratesOf 400 true 0 _ _ _ _ _ h)
theorem w_Fa_ratesOf (cuts : List Nat) {d : Nat} {Q : Option Value → List va_E → Prop} {pc : Nat} {ls : List (Option Value)} {st : List Value} {σ : List va_E} {uc us : Nat} (h : zX gFa_ratesOf false pFa kFa_ratesOf cuts d Q 400 true pc ls st σ uc us) : zGood gFa_ratesOf d Q pc ls st σ uc us := zX_s (fun q => by cases q) PFa KFa_ratesOf 400 true pc _ _ _ _ _ h
theorem m_Fa_chainOf (cuts : List Nat) {d : Nat} {Q : Option Value → List va_E → Prop} {av : List Value} {σ : List va_E} (hc : zC1 av = true) (hl : av.length ≤ 5) (h : zX gFa_chainOf false pFa kFa_chainOf cuts d Q 400 true 0 (zArgs 5 av) [] σ 0 0) : zRuns gFa_chainOf d av σ Q := zEnter (by decide +kernel) hc hl (zX_s (fun q => by cases q) PFa KFa_chainOf 400 true 0 _ _ _ _ _ h)
theorem w_Fa_chainOf (cuts : List Nat) {d : Nat} {Q : Option Value → List va_E → Prop} {pc : Nat} {ls : List (Option Value)} {st : List Value} {σ : List va_E} {uc us : Nat} (h : zX gFa_chainOf false pFa kFa_chainOf cuts d Q 400 true pc ls st σ uc us) : zGood gFa_chainOf d Q pc ls st σ uc us := zX_s (fun q => by cases q) PFa KFa_chainOf 400 true pc _ _ _ _ _ h
theorem m_Fa_rootOf (cuts : List Nat) {d : Nat} {Q : Option Value → List va_E → Prop} {av : List Value} {σ : List va_E} (hc : zC1 av = true) (hl : av.length ≤ 4) (h : zX gFa_rootOf false pFa kFa_rootOf cuts d Q 400 true 0 (zArgs 4 av) [] σ 0 0) : zRuns gFa_rootOf d av σ Q := zEnter (by decide +kernel) hc hl (zX_s (fun q => by cases q) PFa KFa_rootOf 400 true 0 _ _ _ _ _ h)
theorem w_Fa_rootOf (cuts : List Nat) {d : Nat} {Q : Option Value → List va_E → Prop} {pc : Nat} {ls : List (Option Value)} {st : List Value} {σ : List va_E} {uc us : Nat} (h : zX gFa_rootOf false pFa kFa_rootOf cuts d Q 400 true pc ls st σ uc us) : zGood gFa_rootOf d Q pc ls st σ uc us := zX_s (fun q => by cases q) PFa KFa_rootOf 400 true pc _ _ _ _ _ h
theorem m_Fa_wholeOf (cuts : List Nat) {d : Nat} {Q : Option Value → List va_E → Prop} {av : List Value} {σ : List va_E} (hc : zC1 av = true) (hl : av.length ≤ 4) (h : zX gFa_wholeOf false pFa kFa_wholeOf cuts d Q 400 true 0 (zArgs 4 av) [] σ 0 0) : zRuns gFa_wholeOf d av σ Q := zEnter (by decide +kernel) hc hl (zX_s (fun q => by cases q) PFa KFa_wholeOf 400 true 0 _ _ _ _ _ h)
theorem w_Fa_wholeOf (cuts : List Nat) {d : Nat} {Q : Option Value → List va_E → Prop} {pc : Nat} {ls : List (Option Value)} {st : List Value} {σ : List va_E} {uc us : Nat} (h : zX gFa_wholeOf false pFa kFa_wholeOf cuts d Q 400 true pc ls st σ uc us) : zGood gFa_wholeOf d Q pc ls st σ uc us := zX_s (fun q => by cases q) PFa KFa_wholeOf 400 true pc _ _ _ _ _ h
theorem m_Im_init (cuts : List Nat) {d : Nat} {Q : Option Value → List va_E → Prop} {av : List Value} {σ : List va_E} (hc : zC1 av = true) (hl : av.length ≤ 1) (h : zX gIm_init true pIm kIm_init cuts d Q 400 true 0 (zArgs 1 av) [] σ 0 0) : zRuns gIm_init d av σ Q := zEnter (by decide +kernel) hc hl (zX_s (fun _ => rfl) PIm KIm_init 400 true 0 _ _ _ _ _ h)
theorem w_Im_init (cuts : List Nat) {d : Nat} {Q : Option Value → List va_E → Prop} {pc : Nat} {ls : List (Option Value)} {st : List Value} {σ : List va_E} {uc us : Nat} (h : zX gIm_init true pIm kIm_init cuts d Q 400 true pc ls st σ uc us) : zGood gIm_init d Q pc ls st σ uc us := zX_s (fun _ => rfl) PIm KIm_init 400 true pc _ _ _ _ _ h
theorem m_Pa_init (cuts : List Nat) {d : Nat} {Q : Option Value → List va_E → Prop} {av : List Value} {σ : List va_E} (hc : zC1 av = true) (hl : av.length ≤ 1) (h : zX gPa_init true pPa kPa_init cuts d Q 400 true 0 (zArgs 1 av) [] σ 0 0) : zRuns gPa_init d av σ Q := zEnter (by decide +kernel) hc hl (zX_s (fun _ => rfl) PPa KPa_init 400 true 0 _ _ _ _ _ h)
theorem w_Pa_init (cuts : List Nat) {d : Nat} {Q : Option Value → List va_E → Prop} {pc : Nat} {ls : List (Option Value)} {st : List Value} {σ : List va_E} {uc us : Nat} (h : zX gPa_init true pPa kPa_init cuts d Q 400 true pc ls st σ uc us) : zGood gPa_init d Q pc ls st σ uc us := zX_s (fun _ => rfl) PPa KPa_init 400 true pc _ _ _ _ _ h
theorem m_Pa_burn (cuts : List Nat) {d : Nat} {Q : Option Value → List va_E → Prop} {av : List Value} {σ : List va_E} (hc : zC1 av = true) (hl : av.length ≤ 1) (h : zX gPa_burn false pPa kPa_burn cuts d Q 400 true 0 (zArgs 1 av) [] σ 0 0) : zRuns gPa_burn d av σ Q := zEnter (by decide +kernel) hc hl (zX_s (fun q => by cases q) PPa KPa_burn 400 true 0 _ _ _ _ _ h)
theorem w_Pa_burn (cuts : List Nat) {d : Nat} {Q : Option Value → List va_E → Prop} {pc : Nat} {ls : List (Option Value)} {st : List Value} {σ : List va_E} {uc us : Nat} (h : zX gPa_burn false pPa kPa_burn cuts d Q 400 true pc ls st σ uc us) : zGood gPa_burn d Q pc ls st σ uc us := zX_s (fun q => by cases q) PPa KPa_burn 400 true pc _ _ _ _ _ h
theorem m_Pa_addSeen (cuts : List Nat) {d : Nat} {Q : Option Value → List va_E → Prop} {av : List Value} {σ : List va_E} (hc : zC1 av = true) (hl : av.length ≤ 4) (h : zX gPa_addSeen false pPa kPa_addSeen cuts d Q 400 true 0 (zArgs 4 av) [] σ 0 0) : zRuns gPa_addSeen d av σ Q := zEnter (by decide +kernel) hc hl (zX_s (fun q => by cases q) PPa KPa_addSeen 400 true 0 _ _ _ _ _ h)
theorem w_Pa_addSeen (cuts : List Nat) {d : Nat} {Q : Option Value → List va_E → Prop} {pc : Nat} {ls : List (Option Value)} {st : List Value} {σ : List va_E} {uc us : Nat} (h : zX gPa_addSeen false pPa kPa_addSeen cuts d Q 400 true pc ls st σ uc us) : zGood gPa_addSeen d Q pc ls st σ uc us := zX_s (fun q => by cases q) PPa KPa_addSeen 400 true pc _ _ _ _ _ h
theorem m_Pa_addEntry (cuts : List Nat) {d : Nat} {Q : Option Value → List va_E → Prop} {av : List Value} {σ : List va_E} (hc : zC1 av = true) (hl : av.length ≤ 3) (h : zX gPa_addEntry false pPa kPa_addEntry cuts d Q 400 true 0 (zArgs 3 av) [] σ 0 0) : zRuns gPa_addEntry d av σ Q := zEnter (by decide +kernel) hc hl (zX_s (fun q => by cases q) PPa KPa_addEntry 400 true 0 _ _ _ _ _ h)
theorem w_Pa_addEntry (cuts : List Nat) {d : Nat} {Q : Option Value → List va_E → Prop} {pc : Nat} {ls : List (Option Value)} {st : List Value} {σ : List va_E} {uc us : Nat} (h : zX gPa_addEntry false pPa kPa_addEntry cuts d Q 400 true pc ls st σ uc us) : zGood gPa_addEntry d Q pc ls st σ uc us := zX_s (fun q => by cases q) PPa KPa_addEntry 400 true pc _ _ _ _ _ h
theorem m_Pa_excludes (cuts : List Nat) {d : Nat} {Q : Option Value → List va_E → Prop} {av : List Value} {σ : List va_E} (hc : zC1 av = true) (hl : av.length ≤ 7) (h : zX gPa_excludes false pPa kPa_excludes cuts d Q 400 true 0 (zArgs 7 av) [] σ 0 0) : zRuns gPa_excludes d av σ Q := zEnter (by decide +kernel) hc hl (zX_s (fun q => by cases q) PPa KPa_excludes 400 true 0 _ _ _ _ _ h)
theorem w_Pa_excludes (cuts : List Nat) {d : Nat} {Q : Option Value → List va_E → Prop} {pc : Nat} {ls : List (Option Value)} {st : List Value} {σ : List va_E} {uc us : Nat} (h : zX gPa_excludes false pPa kPa_excludes cuts d Q 400 true pc ls st σ uc us) : zGood gPa_excludes d Q pc ls st σ uc us := zX_s (fun q => by cases q) PPa KPa_excludes 400 true pc _ _ _ _ _ h
theorem m_Ps_init (cuts : List Nat) {d : Nat} {Q : Option Value → List va_E → Prop} {av : List Value} {σ : List va_E} (hc : zC1 av = true) (hl : av.length ≤ 1) (h : zX gPs_init true pPs kPs_init cuts d Q 400 true 0 (zArgs 1 av) [] σ 0 0) : zRuns gPs_init d av σ Q := zEnter (by decide +kernel) hc hl (zX_s (fun _ => rfl) PPs KPs_init 400 true 0 _ _ _ _ _ h)
theorem w_Ps_init (cuts : List Nat) {d : Nat} {Q : Option Value → List va_E → Prop} {pc : Nat} {ls : List (Option Value)} {st : List Value} {σ : List va_E} {uc us : Nat} (h : zX gPs_init true pPs kPs_init cuts d Q 400 true pc ls st σ uc us) : zGood gPs_init d Q pc ls st σ uc us := zX_s (fun _ => rfl) PPs KPs_init 400 true pc _ _ _ _ _ h
theorem m_Ps_forget (cuts : List Nat) {d : Nat} {Q : Option Value → List va_E → Prop} {av : List Value} {σ : List va_E} (hc : zC1 av = true) (hl : av.length ≤ 1) (h : zX gPs_forget false pPs kPs_forget cuts d Q 400 true 0 (zArgs 1 av) [] σ 0 0) : zRuns gPs_forget d av σ Q := zEnter (by decide +kernel) hc hl (zX_s (fun q => by cases q) PPs KPs_forget 400 true 0 _ _ _ _ _ h)
theorem w_Ps_forget (cuts : List Nat) {d : Nat} {Q : Option Value → List va_E → Prop} {pc : Nat} {ls : List (Option Value)} {st : List Value} {σ : List va_E} {uc us : Nat} (h : zX gPs_forget false pPs kPs_forget cuts d Q 400 true pc ls st σ uc us) : zGood gPs_forget d Q pc ls st σ uc us := zX_s (fun q => by cases q) PPs KPs_forget 400 true pc _ _ _ _ _ h
theorem m_Ps_remember (cuts : List Nat) {d : Nat} {Q : Option Value → List va_E → Prop} {av : List Value} {σ : List va_E} (hc : zC1 av = true) (hl : av.length ≤ 2) (h : zX gPs_remember false pPs kPs_remember cuts d Q 400 true 0 (zArgs 2 av) [] σ 0 0) : zRuns gPs_remember d av σ Q := zEnter (by decide +kernel) hc hl (zX_s (fun q => by cases q) PPs KPs_remember 400 true 0 _ _ _ _ _ h)
theorem w_Ps_remember (cuts : List Nat) {d : Nat} {Q : Option Value → List va_E → Prop} {pc : Nat} {ls : List (Option Value)} {st : List Value} {σ : List va_E} {uc us : Nat} (h : zX gPs_remember false pPs kPs_remember cuts d Q 400 true pc ls st σ uc us) : zGood gPs_remember d Q pc ls st σ uc us := zX_s (fun q => by cases q) PPs KPs_remember 400 true pc _ _ _ _ _ h
theorem m_Ps_giveBack (cuts : List Nat) {d : Nat} {Q : Option Value → List va_E → Prop} {av : List Value} {σ : List va_E} (hc : zC1 av = true) (hl : av.length ≤ 3) (h : zX gPs_giveBack false pPs kPs_giveBack cuts d Q 400 true 0 (zArgs 3 av) [] σ 0 0) : zRuns gPs_giveBack d av σ Q := zEnter (by decide +kernel) hc hl (zX_s (fun q => by cases q) PPs KPs_giveBack 400 true 0 _ _ _ _ _ h)
theorem w_Ps_giveBack (cuts : List Nat) {d : Nat} {Q : Option Value → List va_E → Prop} {pc : Nat} {ls : List (Option Value)} {st : List Value} {σ : List va_E} {uc us : Nat} (h : zX gPs_giveBack false pPs kPs_giveBack cuts d Q 400 true pc ls st σ uc us) : zGood gPs_giveBack d Q pc ls st σ uc us := zX_s (fun q => by cases q) PPs KPs_giveBack 400 true pc _ _ _ _ _ h
theorem m_Sh_init (cuts : List Nat) {d : Nat} {Q : Option Value → List va_E → Prop} {av : List Value} {σ : List va_E} (hc : zC1 av = true) (hl : av.length ≤ 4) (h : zX gSh_init true pSh kSh_init cuts d Q 400 true 0 (zArgs 4 av) [] σ 0 0) : zRuns gSh_init d av σ Q := zEnter (by decide +kernel) hc hl (zX_s (fun _ => rfl) PSh KSh_init 400 true 0 _ _ _ _ _ h)
theorem w_Sh_init (cuts : List Nat) {d : Nat} {Q : Option Value → List va_E → Prop} {pc : Nat} {ls : List (Option Value)} {st : List Value} {σ : List va_E} {uc us : Nat} (h : zX gSh_init true pSh kSh_init cuts d Q 400 true pc ls st σ uc us) : zGood gSh_init d Q pc ls st σ uc us := zX_s (fun _ => rfl) PSh KSh_init 400 true pc _ _ _ _ _ h
theorem m_Sh_solve (cuts : List Nat) {d : Nat} {Q : Option Value → List va_E → Prop} {av : List Value} {σ : List va_E} (hc : zC1 av = true) (hl : av.length ≤ 3) (h : zX gSh_solve false pSh kSh_solve cuts d Q 400 true 0 (zArgs 3 av) [] σ 0 0) : zRuns gSh_solve d av σ Q := zEnter (by decide +kernel) hc hl (zX_s (fun q => by cases q) PSh KSh_solve 400 true 0 _ _ _ _ _ h)
theorem w_Sh_solve (cuts : List Nat) {d : Nat} {Q : Option Value → List va_E → Prop} {pc : Nat} {ls : List (Option Value)} {st : List Value} {σ : List va_E} {uc us : Nat} (h : zX gSh_solve false pSh kSh_solve cuts d Q 400 true pc ls st σ uc us) : zGood gSh_solve d Q pc ls st σ uc us := zX_s (fun q => by cases q) PSh KSh_solve 400 true pc _ _ _ _ _ h
theorem m_Sh_lookAt (cuts : List Nat) {d : Nat} {Q : Option Value → List va_E → Prop} {av : List Value} {σ : List va_E} (hc : zC1 av = true) (hl : av.length ≤ 5) (h : zX gSh_lookAt false pSh kSh_lookAt cuts d Q 400 true 0 (zArgs 5 av) [] σ 0 0) : zRuns gSh_lookAt d av σ Q := zEnter (by decide +kernel) hc hl (zX_s (fun q => by cases q) PSh KSh_lookAt 400 true 0 _ _ _ _ _ h)
theorem w_Sh_lookAt (cuts : List Nat) {d : Nat} {Q : Option Value → List va_E → Prop} {pc : Nat} {ls : List (Option Value)} {st : List Value} {σ : List va_E} {uc us : Nat} (h : zX gSh_lookAt false pSh kSh_lookAt cuts d Q 400 true pc ls st σ uc us) : zGood gSh_lookAt d Q pc ls st σ uc us := zX_s (fun q => by cases q) PSh KSh_lookAt 400 true pc _ _ _ _ _ h
theorem m_Sh_listSets (cuts : List Nat) {d : Nat} {Q : Option Value → List va_E → Prop} {av : List Value} {σ : List va_E} (hc : zC1 av = true) (hl : av.length ≤ 7) (h : zX gSh_listSets false pSh kSh_listSets cuts d Q 400 true 0 (zArgs 7 av) [] σ 0 0) : zRuns gSh_listSets d av σ Q := zEnter (by decide +kernel) hc hl (zX_s (fun q => by cases q) PSh KSh_listSets 400 true 0 _ _ _ _ _ h)
theorem w_Sh_listSets (cuts : List Nat) {d : Nat} {Q : Option Value → List va_E → Prop} {pc : Nat} {ls : List (Option Value)} {st : List Value} {σ : List va_E} {uc us : Nat} (h : zX gSh_listSets false pSh kSh_listSets cuts d Q 400 true pc ls st σ uc us) : zGood gSh_listSets d Q pc ls st σ uc us := zX_s (fun q => by cases q) PSh KSh_listSets 400 true pc _ _ _ _ _ h
theorem m_Sh_addSet (cuts : List Nat) {d : Nat} {Q : Option Value → List va_E → Prop} {av : List Value} {σ : List va_E} (hc : zC1 av = true) (hl : av.length ≤ 5) (h : zX gSh_addSet false pSh kSh_addSet cuts d Q 400 true 0 (zArgs 5 av) [] σ 0 0) : zRuns gSh_addSet d av σ Q := zEnter (by decide +kernel) hc hl (zX_s (fun q => by cases q) PSh KSh_addSet 400 true 0 _ _ _ _ _ h)
theorem w_Sh_addSet (cuts : List Nat) {d : Nat} {Q : Option Value → List va_E → Prop} {pc : Nat} {ls : List (Option Value)} {st : List Value} {σ : List va_E} {uc us : Nat} (h : zX gSh_addSet false pSh kSh_addSet cuts d Q 400 true pc ls st σ uc us) : zGood gSh_addSet d Q pc ls st σ uc us := zX_s (fun q => by cases q) PSh KSh_addSet 400 true pc _ _ _ _ _ h
theorem m_Sh_allTake (cuts : List Nat) {d : Nat} {Q : Option Value → List va_E → Prop} {av : List Value} {σ : List va_E} (hc : zC1 av = true) (hl : av.length ≤ 4) (h : zX gSh_allTake false pSh kSh_allTake cuts d Q 400 true 0 (zArgs 4 av) [] σ 0 0) : zRuns gSh_allTake d av σ Q := zEnter (by decide +kernel) hc hl (zX_s (fun q => by cases q) PSh KSh_allTake 400 true 0 _ _ _ _ _ h)
theorem w_Sh_allTake (cuts : List Nat) {d : Nat} {Q : Option Value → List va_E → Prop} {pc : Nat} {ls : List (Option Value)} {st : List Value} {σ : List va_E} {uc us : Nat} (h : zX gSh_allTake false pSh kSh_allTake cuts d Q 400 true pc ls st σ uc us) : zGood gSh_allTake d Q pc ls st σ uc us := zX_s (fun q => by cases q) PSh KSh_allTake 400 true pc _ _ _ _ _ h
theorem m_Sh_takes (cuts : List Nat) {d : Nat} {Q : Option Value → List va_E → Prop} {av : List Value} {σ : List va_E} (hc : zC1 av = true) (hl : av.length ≤ 5) (h : zX gSh_takes false pSh kSh_takes cuts d Q 400 true 0 (zArgs 5 av) [] σ 0 0) : zRuns gSh_takes d av σ Q := zEnter (by decide +kernel) hc hl (zX_s (fun q => by cases q) PSh KSh_takes 400 true 0 _ _ _ _ _ h)
theorem w_Sh_takes (cuts : List Nat) {d : Nat} {Q : Option Value → List va_E → Prop} {pc : Nat} {ls : List (Option Value)} {st : List Value} {σ : List va_E} {uc us : Nat} (h : zX gSh_takes false pSh kSh_takes cuts d Q 400 true pc ls st σ uc us) : zGood gSh_takes d Q pc ls st σ uc us := zX_s (fun q => by cases q) PSh KSh_takes 400 true pc _ _ _ _ _ h
theorem m_Sh_search (cuts : List Nat) {d : Nat} {Q : Option Value → List va_E → Prop} {av : List Value} {σ : List va_E} (hc : zC1 av = true) (hl : av.length ≤ 7) (h : zX gSh_search false pSh kSh_search cuts d Q 400 true 0 (zArgs 7 av) [] σ 0 0) : zRuns gSh_search d av σ Q := zEnter (by decide +kernel) hc hl (zX_s (fun q => by cases q) PSh KSh_search 400 true 0 _ _ _ _ _ h)
theorem w_Sh_search (cuts : List Nat) {d : Nat} {Q : Option Value → List va_E → Prop} {pc : Nat} {ls : List (Option Value)} {st : List Value} {σ : List va_E} {uc us : Nat} (h : zX gSh_search false pSh kSh_search cuts d Q 400 true pc ls st σ uc us) : zGood gSh_search d Q pc ls st σ uc us := zX_s (fun q => by cases q) PSh KSh_search 400 true pc _ _ _ _ _ h
theorem m_Sh_pick (cuts : List Nat) {d : Nat} {Q : Option Value → List va_E → Prop} {av : List Value} {σ : List va_E} (hc : zC1 av = true) (hl : av.length ≤ 4) (h : zX gSh_pick false pSh kSh_pick cuts d Q 400 true 0 (zArgs 4 av) [] σ 0 0) : zRuns gSh_pick d av σ Q := zEnter (by decide +kernel) hc hl (zX_s (fun q => by cases q) PSh KSh_pick 400 true 0 _ _ _ _ _ h)
theorem w_Sh_pick (cuts : List Nat) {d : Nat} {Q : Option Value → List va_E → Prop} {pc : Nat} {ls : List (Option Value)} {st : List Value} {σ : List va_E} {uc us : Nat} (h : zX gSh_pick false pSh kSh_pick cuts d Q 400 true pc ls st σ uc us) : zGood gSh_pick d Q pc ls st σ uc us := zX_s (fun q => by cases q) PSh KSh_pick 400 true pc _ _ _ _ _ h
theorem m_Sh_give (cuts : List Nat) {d : Nat} {Q : Option Value → List va_E → Prop} {av : List Value} {σ : List va_E} (hc : zC1 av = true) (hl : av.length ≤ 4) (h : zX gSh_give false pSh kSh_give cuts d Q 400 true 0 (zArgs 4 av) [] σ 0 0) : zRuns gSh_give d av σ Q := zEnter (by decide +kernel) hc hl (zX_s (fun q => by cases q) PSh KSh_give 400 true 0 _ _ _ _ _ h)
theorem w_Sh_give (cuts : List Nat) {d : Nat} {Q : Option Value → List va_E → Prop} {pc : Nat} {ls : List (Option Value)} {st : List Value} {σ : List va_E} {uc us : Nat} (h : zX gSh_give false pSh kSh_give cuts d Q 400 true pc ls st σ uc us) : zGood gSh_give d Q pc ls st σ uc us := zX_s (fun q => by cases q) PSh KSh_give 400 true pc _ _ _ _ _ h
theorem m_St_init (cuts : List Nat) {d : Nat} {Q : Option Value → List va_E → Prop} {av : List Value} {σ : List va_E} (hc : zC1 av = true) (hl : av.length ≤ 1) (h : zX gSt_init true pSt kSt_init cuts d Q 400 true 0 (zArgs 1 av) [] σ 0 0) : zRuns gSt_init d av σ Q := zEnter (by decide +kernel) hc hl (zX_s (fun _ => rfl) PSt KSt_init 400 true 0 _ _ _ _ _ h)
theorem w_St_init (cuts : List Nat) {d : Nat} {Q : Option Value → List va_E → Prop} {pc : Nat} {ls : List (Option Value)} {st : List Value} {σ : List va_E} {uc us : Nat} (h : zX gSt_init true pSt kSt_init cuts d Q 400 true pc ls st σ uc us) : zGood gSt_init d Q pc ls st σ uc us := zX_s (fun _ => rfl) PSt KSt_init 400 true pc _ _ _ _ _ h
theorem m_St_begin (cuts : List Nat) {d : Nat} {Q : Option Value → List va_E → Prop} {av : List Value} {σ : List va_E} (hc : zC1 av = true) (hl : av.length ≤ 3) (h : zX gSt_begin false pSt kSt_begin cuts d Q 400 true 0 (zArgs 3 av) [] σ 0 0) : zRuns gSt_begin d av σ Q := zEnter (by decide +kernel) hc hl (zX_s (fun q => by cases q) PSt KSt_begin 400 true 0 _ _ _ _ _ h)
theorem w_St_begin (cuts : List Nat) {d : Nat} {Q : Option Value → List va_E → Prop} {pc : Nat} {ls : List (Option Value)} {st : List Value} {σ : List va_E} {uc us : Nat} (h : zX gSt_begin false pSt kSt_begin cuts d Q 400 true pc ls st σ uc us) : zGood gSt_begin d Q pc ls st σ uc us := zX_s (fun q => by cases q) PSt KSt_begin 400 true pc _ _ _ _ _ h
theorem m_St_takeRows (cuts : List Nat) {d : Nat} {Q : Option Value → List va_E → Prop} {av : List Value} {σ : List va_E} (hc : zC1 av = true) (hl : av.length ≤ 2) (h : zX gSt_takeRows false pSt kSt_takeRows cuts d Q 400 true 0 (zArgs 2 av) [] σ 0 0) : zRuns gSt_takeRows d av σ Q := zEnter (by decide +kernel) hc hl (zX_s (fun q => by cases q) PSt KSt_takeRows 400 true 0 _ _ _ _ _ h)
theorem w_St_takeRows (cuts : List Nat) {d : Nat} {Q : Option Value → List va_E → Prop} {pc : Nat} {ls : List (Option Value)} {st : List Value} {σ : List va_E} {uc us : Nat} (h : zX gSt_takeRows false pSt kSt_takeRows cuts d Q 400 true pc ls st σ uc us) : zGood gSt_takeRows d Q pc ls st σ uc us := zX_s (fun q => by cases q) PSt KSt_takeRows 400 true pc _ _ _ _ _ h
theorem m_St_placeOf (cuts : List Nat) {d : Nat} {Q : Option Value → List va_E → Prop} {av : List Value} {σ : List va_E} (hc : zC1 av = true) (hl : av.length ≤ 3) (h : zX gSt_placeOf false pSt kSt_placeOf cuts d Q 400 true 0 (zArgs 3 av) [] σ 0 0) : zRuns gSt_placeOf d av σ Q := zEnter (by decide +kernel) hc hl (zX_s (fun q => by cases q) PSt KSt_placeOf 400 true 0 _ _ _ _ _ h)
theorem w_St_placeOf (cuts : List Nat) {d : Nat} {Q : Option Value → List va_E → Prop} {pc : Nat} {ls : List (Option Value)} {st : List Value} {σ : List va_E} {uc us : Nat} (h : zX gSt_placeOf false pSt kSt_placeOf cuts d Q 400 true pc ls st σ uc us) : zGood gSt_placeOf d Q pc ls st σ uc us := zX_s (fun q => by cases q) PSt KSt_placeOf 400 true pc _ _ _ _ _ h
theorem m_St_setPlace (cuts : List Nat) {d : Nat} {Q : Option Value → List va_E → Prop} {av : List Value} {σ : List va_E} (hc : zC1 av = true) (hl : av.length ≤ 4) (h : zX gSt_setPlace false pSt kSt_setPlace cuts d Q 400 true 0 (zArgs 4 av) [] σ 0 0) : zRuns gSt_setPlace d av σ Q := zEnter (by decide +kernel) hc hl (zX_s (fun q => by cases q) PSt KSt_setPlace 400 true 0 _ _ _ _ _ h)
theorem w_St_setPlace (cuts : List Nat) {d : Nat} {Q : Option Value → List va_E → Prop} {pc : Nat} {ls : List (Option Value)} {st : List Value} {σ : List va_E} {uc us : Nat} (h : zX gSt_setPlace false pSt kSt_setPlace cuts d Q 400 true pc ls st σ uc us) : zGood gSt_setPlace d Q pc ls st σ uc us := zX_s (fun q => by cases q) PSt KSt_setPlace 400 true pc _ _ _ _ _ h
theorem m_St_wornOf (cuts : List Nat) {d : Nat} {Q : Option Value → List va_E → Prop} {av : List Value} {σ : List va_E} (hc : zC1 av = true) (hl : av.length ≤ 2) (h : zX gSt_wornOf false pSt kSt_wornOf cuts d Q 400 true 0 (zArgs 2 av) [] σ 0 0) : zRuns gSt_wornOf d av σ Q := zEnter (by decide +kernel) hc hl (zX_s (fun q => by cases q) PSt KSt_wornOf 400 true 0 _ _ _ _ _ h)
theorem w_St_wornOf (cuts : List Nat) {d : Nat} {Q : Option Value → List va_E → Prop} {pc : Nat} {ls : List (Option Value)} {st : List Value} {σ : List va_E} {uc us : Nat} (h : zX gSt_wornOf false pSt kSt_wornOf cuts d Q 400 true pc ls st σ uc us) : zGood gSt_wornOf d Q pc ls st σ uc us := zX_s (fun q => by cases q) PSt KSt_wornOf 400 true pc _ _ _ _ _ h
theorem m_St_wear (cuts : List Nat) {d : Nat} {Q : Option Value → List va_E → Prop} {av : List Value} {σ : List va_E} (hc : zC1 av = true) (hl : av.length ≤ 3) (h : zX gSt_wear false pSt kSt_wear cuts d Q 400 true 0 (zArgs 3 av) [] σ 0 0) : zRuns gSt_wear d av σ Q := zEnter (by decide +kernel) hc hl (zX_s (fun q => by cases q) PSt KSt_wear 400 true 0 _ _ _ _ _ h)
theorem w_St_wear (cuts : List Nat) {d : Nat} {Q : Option Value → List va_E → Prop} {pc : Nat} {ls : List (Option Value)} {st : List Value} {σ : List va_E} {uc us : Nat} (h : zX gSt_wear false pSt kSt_wear cuts d Q 400 true pc ls st σ uc us) : zGood gSt_wear d Q pc ls st σ uc us := zX_s (fun q => by cases q) PSt KSt_wear 400 true pc _ _ _ _ _ h
theorem m_St_blamedFor (cuts : List Nat) {d : Nat} {Q : Option Value → List va_E → Prop} {av : List Value} {σ : List va_E} (hc : zC1 av = true) (hl : av.length ≤ 2) (h : zX gSt_blamedFor false pSt kSt_blamedFor cuts d Q 400 true 0 (zArgs 2 av) [] σ 0 0) : zRuns gSt_blamedFor d av σ Q := zEnter (by decide +kernel) hc hl (zX_s (fun q => by cases q) PSt KSt_blamedFor 400 true 0 _ _ _ _ _ h)
theorem w_St_blamedFor (cuts : List Nat) {d : Nat} {Q : Option Value → List va_E → Prop} {pc : Nat} {ls : List (Option Value)} {st : List Value} {σ : List va_E} {uc us : Nat} (h : zX gSt_blamedFor false pSt kSt_blamedFor cuts d Q 400 true pc ls st σ uc us) : zGood gSt_blamedFor d Q pc ls st σ uc us := zX_s (fun q => by cases q) PSt KSt_blamedFor 400 true pc _ _ _ _ _ h
theorem m_St_setBlamed (cuts : List Nat) {d : Nat} {Q : Option Value → List va_E → Prop} {av : List Value} {σ : List va_E} (hc : zC1 av = true) (hl : av.length ≤ 3) (h : zX gSt_setBlamed false pSt kSt_setBlamed cuts d Q 400 true 0 (zArgs 3 av) [] σ 0 0) : zRuns gSt_setBlamed d av σ Q := zEnter (by decide +kernel) hc hl (zX_s (fun q => by cases q) PSt KSt_setBlamed 400 true 0 _ _ _ _ _ h)
theorem w_St_setBlamed (cuts : List Nat) {d : Nat} {Q : Option Value → List va_E → Prop} {pc : Nat} {ls : List (Option Value)} {st : List Value} {σ : List va_E} {uc us : Nat} (h : zX gSt_setBlamed false pSt kSt_setBlamed cuts d Q 400 true pc ls st σ uc us) : zGood gSt_setBlamed d Q pc ls st σ uc us := zX_s (fun q => by cases q) PSt KSt_setBlamed 400 true pc _ _ _ _ _ h
theorem m_St_spent (cuts : List Nat) {d : Nat} {Q : Option Value → List va_E → Prop} {av : List Value} {σ : List va_E} (hc : zC1 av = true) (hl : av.length ≤ 1) (h : zX gSt_spent false pSt kSt_spent cuts d Q 400 true 0 (zArgs 1 av) [] σ 0 0) : zRuns gSt_spent d av σ Q := zEnter (by decide +kernel) hc hl (zX_s (fun q => by cases q) PSt KSt_spent 400 true 0 _ _ _ _ _ h)
theorem w_St_spent (cuts : List Nat) {d : Nat} {Q : Option Value → List va_E → Prop} {pc : Nat} {ls : List (Option Value)} {st : List Value} {σ : List va_E} {uc us : Nat} (h : zX gSt_spent false pSt kSt_spent cuts d Q 400 true pc ls st σ uc us) : zGood gSt_spent d Q pc ls st σ uc us := zX_s (fun q => by cases q) PSt KSt_spent 400 true pc _ _ _ _ _ h
theorem m_St_spend (cuts : List Nat) {d : Nat} {Q : Option Value → List va_E → Prop} {av : List Value} {σ : List va_E} (hc : zC1 av = true) (hl : av.length ≤ 2) (h : zX gSt_spend false pSt kSt_spend cuts d Q 400 true 0 (zArgs 2 av) [] σ 0 0) : zRuns gSt_spend d av σ Q := zEnter (by decide +kernel) hc hl (zX_s (fun q => by cases q) PSt KSt_spend 400 true 0 _ _ _ _ _ h)
theorem w_St_spend (cuts : List Nat) {d : Nat} {Q : Option Value → List va_E → Prop} {pc : Nat} {ls : List (Option Value)} {st : List Value} {σ : List va_E} {uc us : Nat} (h : zX gSt_spend false pSt kSt_spend cuts d Q 400 true pc ls st σ uc us) : zGood gSt_spend d Q pc ls st σ uc us := zX_s (fun q => by cases q) PSt KSt_spend 400 true pc _ _ _ _ _ h
theorem m_St_days (cuts : List Nat) {d : Nat} {Q : Option Value → List va_E → Prop} {av : List Value} {σ : List va_E} (hc : zC1 av = true) (hl : av.length ≤ 1) (h : zX gSt_days false pSt kSt_days cuts d Q 400 true 0 (zArgs 1 av) [] σ 0 0) : zRuns gSt_days d av σ Q := zEnter (by decide +kernel) hc hl (zX_s (fun q => by cases q) PSt KSt_days 400 true 0 _ _ _ _ _ h)
theorem w_St_days (cuts : List Nat) {d : Nat} {Q : Option Value → List va_E → Prop} {pc : Nat} {ls : List (Option Value)} {st : List Value} {σ : List va_E} {uc us : Nat} (h : zX gSt_days false pSt kSt_days cuts d Q 400 true pc ls st σ uc us) : zGood gSt_days d Q pc ls st σ uc us := zX_s (fun q => by cases q) PSt KSt_days 400 true pc _ _ _ _ _ h
theorem m_St_countDay (cuts : List Nat) {d : Nat} {Q : Option Value → List va_E → Prop} {av : List Value} {σ : List va_E} (hc : zC1 av = true) (hl : av.length ≤ 1) (h : zX gSt_countDay false pSt kSt_countDay cuts d Q 400 true 0 (zArgs 1 av) [] σ 0 0) : zRuns gSt_countDay d av σ Q := zEnter (by decide +kernel) hc hl (zX_s (fun q => by cases q) PSt KSt_countDay 400 true 0 _ _ _ _ _ h)
theorem w_St_countDay (cuts : List Nat) {d : Nat} {Q : Option Value → List va_E → Prop} {pc : Nat} {ls : List (Option Value)} {st : List Value} {σ : List va_E} {uc us : Nat} (h : zX gSt_countDay false pSt kSt_countDay cuts d Q 400 true pc ls st σ uc us) : zGood gSt_countDay d Q pc ls st σ uc us := zX_s (fun q => by cases q) PSt KSt_countDay 400 true pc _ _ _ _ _ h
theorem m_Te_init (cuts : List Nat) {d : Nat} {Q : Option Value → List va_E → Prop} {av : List Value} {σ : List va_E} (hc : zC1 av = true) (hl : av.length ≤ 1) (h : zX gTe_init true pTe kTe_init cuts d Q 400 true 0 (zArgs 1 av) [] σ 0 0) : zRuns gTe_init d av σ Q := zEnter (by decide +kernel) hc hl (zX_s (fun _ => rfl) PTe KTe_init 400 true 0 _ _ _ _ _ h)
theorem w_Te_init (cuts : List Nat) {d : Nat} {Q : Option Value → List va_E → Prop} {pc : Nat} {ls : List (Option Value)} {st : List Value} {σ : List va_E} {uc us : Nat} (h : zX gTe_init true pTe kTe_init cuts d Q 400 true pc ls st σ uc us) : zGood gTe_init d Q pc ls st σ uc us := zX_s (fun _ => rfl) PTe KTe_init 400 true pc _ _ _ _ _ h
theorem m_Te_add (cuts : List Nat) {d : Nat} {Q : Option Value → List va_E → Prop} {av : List Value} {σ : List va_E} (hc : zC1 av = true) (hl : av.length ≤ 2) (h : zX gTe_add false pTe kTe_add cuts d Q 400 true 0 (zArgs 2 av) [] σ 0 0) : zRuns gTe_add d av σ Q := zEnter (by decide +kernel) hc hl (zX_s (fun q => by cases q) PTe KTe_add 400 true 0 _ _ _ _ _ h)
theorem w_Te_add (cuts : List Nat) {d : Nat} {Q : Option Value → List va_E → Prop} {pc : Nat} {ls : List (Option Value)} {st : List Value} {σ : List va_E} {uc us : Nat} (h : zX gTe_add false pTe kTe_add cuts d Q 400 true pc ls st σ uc us) : zGood gTe_add d Q pc ls st σ uc us := zX_s (fun q => by cases q) PTe KTe_add 400 true pc _ _ _ _ _ h
theorem m_Te_readInto (cuts : List Nat) {d : Nat} {Q : Option Value → List va_E → Prop} {av : List Value} {σ : List va_E} (hc : zC1 av = true) (hl : av.length ≤ 3) (h : zX gTe_readInto false pTe kTe_readInto cuts d Q 400 true 0 (zArgs 3 av) [] σ 0 0) : zRuns gTe_readInto d av σ Q := zEnter (by decide +kernel) hc hl (zX_s (fun q => by cases q) PTe KTe_readInto 400 true 0 _ _ _ _ _ h)
theorem w_Te_readInto (cuts : List Nat) {d : Nat} {Q : Option Value → List va_E → Prop} {pc : Nat} {ls : List (Option Value)} {st : List Value} {σ : List va_E} {uc us : Nat} (h : zX gTe_readInto false pTe kTe_readInto cuts d Q 400 true pc ls st σ uc us) : zGood gTe_readInto d Q pc ls st σ uc us := zX_s (fun q => by cases q) PTe KTe_readInto 400 true pc _ _ _ _ _ h
theorem m_Te_readClause (cuts : List Nat) {d : Nat} {Q : Option Value → List va_E → Prop} {av : List Value} {σ : List va_E} (hc : zC1 av = true) (hl : av.length ≤ 3) (h : zX gTe_readClause false pTe kTe_readClause cuts d Q 400 true 0 (zArgs 3 av) [] σ 0 0) : zRuns gTe_readClause d av σ Q := zEnter (by decide +kernel) hc hl (zX_s (fun q => by cases q) PTe KTe_readClause 400 true 0 _ _ _ _ _ h)
theorem w_Te_readClause (cuts : List Nat) {d : Nat} {Q : Option Value → List va_E → Prop} {pc : Nat} {ls : List (Option Value)} {st : List Value} {σ : List va_E} {uc us : Nat} (h : zX gTe_readClause false pTe kTe_readClause cuts d Q 400 true pc ls st σ uc us) : zGood gTe_readClause d Q pc ls st σ uc us := zX_s (fun q => by cases q) PTe KTe_readClause 400 true pc _ _ _ _ _ h
theorem m_Te_readJury (cuts : List Nat) {d : Nat} {Q : Option Value → List va_E → Prop} {av : List Value} {σ : List va_E} (hc : zC1 av = true) (hl : av.length ≤ 2) (h : zX gTe_readJury false pTe kTe_readJury cuts d Q 400 true 0 (zArgs 2 av) [] σ 0 0) : zRuns gTe_readJury d av σ Q := zEnter (by decide +kernel) hc hl (zX_s (fun q => by cases q) PTe KTe_readJury 400 true 0 _ _ _ _ _ h)
theorem w_Te_readJury (cuts : List Nat) {d : Nat} {Q : Option Value → List va_E → Prop} {pc : Nat} {ls : List (Option Value)} {st : List Value} {σ : List va_E} {uc us : Nat} (h : zX gTe_readJury false pTe kTe_readJury cuts d Q 400 true pc ls st σ uc us) : zGood gTe_readJury d Q pc ls st σ uc us := zX_s (fun q => by cases q) PTe KTe_readJury 400 true pc _ _ _ _ _ h
theorem m_Te_readMan (cuts : List Nat) {d : Nat} {Q : Option Value → List va_E → Prop} {av : List Value} {σ : List va_E} (hc : zC1 av = true) (hl : av.length ≤ 3) (h : zX gTe_readMan false pTe kTe_readMan cuts d Q 400 true 0 (zArgs 3 av) [] σ 0 0) : zRuns gTe_readMan d av σ Q := zEnter (by decide +kernel) hc hl (zX_s (fun q => by cases q) PTe KTe_readMan 400 true 0 _ _ _ _ _ h)
theorem w_Te_readMan (cuts : List Nat) {d : Nat} {Q : Option Value → List va_E → Prop} {pc : Nat} {ls : List (Option Value)} {st : List Value} {σ : List va_E} {uc us : Nat} (h : zX gTe_readMan false pTe kTe_readMan cuts d Q 400 true pc ls st σ uc us) : zGood gTe_readMan d Q pc ls st σ uc us := zX_s (fun q => by cases q) PTe KTe_readMan 400 true pc _ _ _ _ _ h
theorem m_Te_readMishap (cuts : List Nat) {d : Nat} {Q : Option Value → List va_E → Prop} {av : List Value} {σ : List va_E} (hc : zC1 av = true) (hl : av.length ≤ 4) (h : zX gTe_readMishap false pTe kTe_readMishap cuts d Q 400 true 0 (zArgs 4 av) [] σ 0 0) : zRuns gTe_readMishap d av σ Q := zEnter (by decide +kernel) hc hl (zX_s (fun q => by cases q) PTe KTe_readMishap 400 true 0 _ _ _ _ _ h)
theorem w_Te_readMishap (cuts : List Nat) {d : Nat} {Q : Option Value → List va_E → Prop} {pc : Nat} {ls : List (Option Value)} {st : List Value} {σ : List va_E} {uc us : Nat} (h : zX gTe_readMishap false pTe kTe_readMishap cuts d Q 400 true pc ls st σ uc us) : zGood gTe_readMishap d Q pc ls st σ uc us := zX_s (fun q => by cases q) PTe KTe_readMishap 400 true pc _ _ _ _ _ h
theorem m_Te_readNumber (cuts : List Nat) {d : Nat} {Q : Option Value → List va_E → Prop} {av : List Value} {σ : List va_E} (hc : zC1 av = true) (hl : av.length ≤ 4) (h : zX gTe_readNumber false pTe kTe_readNumber cuts d Q 400 true 0 (zArgs 4 av) [] σ 0 0) : zRuns gTe_readNumber d av σ Q := zEnter (by decide +kernel) hc hl (zX_s (fun q => by cases q) PTe KTe_readNumber 400 true 0 _ _ _ _ _ h)
theorem w_Te_readNumber (cuts : List Nat) {d : Nat} {Q : Option Value → List va_E → Prop} {pc : Nat} {ls : List (Option Value)} {st : List Value} {σ : List va_E} {uc us : Nat} (h : zX gTe_readNumber false pTe kTe_readNumber cuts d Q 400 true pc ls st σ uc us) : zGood gTe_readNumber d Q pc ls st σ uc us := zX_s (fun q => by cases q) PTe KTe_readNumber 400 true pc _ _ _ _ _ h
theorem m_Te_readRow (cuts : List Nat) {d : Nat} {Q : Option Value → List va_E → Prop} {av : List Value} {σ : List va_E} (hc : zC1 av = true) (hl : av.length ≤ 5) (h : zX gTe_readRow false pTe kTe_readRow cuts d Q 400 true 0 (zArgs 5 av) [] σ 0 0) : zRuns gTe_readRow d av σ Q := zEnter (by decide +kernel) hc hl (zX_s (fun q => by cases q) PTe KTe_readRow 400 true 0 _ _ _ _ _ h)
theorem w_Te_readRow (cuts : List Nat) {d : Nat} {Q : Option Value → List va_E → Prop} {pc : Nat} {ls : List (Option Value)} {st : List Value} {σ : List va_E} {uc us : Nat} (h : zX gTe_readRow false pTe kTe_readRow cuts d Q 400 true pc ls st σ uc us) : zGood gTe_readRow d Q pc ls st σ uc us := zX_s (fun q => by cases q) PTe KTe_readRow 400 true pc _ _ _ _ _ h
theorem m_Te_readEnd (cuts : List Nat) {d : Nat} {Q : Option Value → List va_E → Prop} {av : List Value} {σ : List va_E} (hc : zC1 av = true) (hl : av.length ≤ 1) (h : zX gTe_readEnd false pTe kTe_readEnd cuts d Q 400 true 0 (zArgs 1 av) [] σ 0 0) : zRuns gTe_readEnd d av σ Q := zEnter (by decide +kernel) hc hl (zX_s (fun q => by cases q) PTe KTe_readEnd 400 true 0 _ _ _ _ _ h)
theorem w_Te_readEnd (cuts : List Nat) {d : Nat} {Q : Option Value → List va_E → Prop} {pc : Nat} {ls : List (Option Value)} {st : List Value} {σ : List va_E} {uc us : Nat} (h : zX gTe_readEnd false pTe kTe_readEnd cuts d Q 400 true pc ls st σ uc us) : zGood gTe_readEnd d Q pc ls st σ uc us := zX_s (fun q => by cases q) PTe KTe_readEnd 400 true pc _ _ _ _ _ h
theorem m_Te_skipBlanks (cuts : List Nat) {d : Nat} {Q : Option Value → List va_E → Prop} {av : List Value} {σ : List va_E} (hc : zC1 av = true) (hl : av.length ≤ 1) (h : zX gTe_skipBlanks false pTe kTe_skipBlanks cuts d Q 400 true 0 (zArgs 1 av) [] σ 0 0) : zRuns gTe_skipBlanks d av σ Q := zEnter (by decide +kernel) hc hl (zX_s (fun q => by cases q) PTe KTe_skipBlanks 400 true 0 _ _ _ _ _ h)
theorem w_Te_skipBlanks (cuts : List Nat) {d : Nat} {Q : Option Value → List va_E → Prop} {pc : Nat} {ls : List (Option Value)} {st : List Value} {σ : List va_E} {uc us : Nat} (h : zX gTe_skipBlanks false pTe kTe_skipBlanks cuts d Q 400 true pc ls st σ uc us) : zGood gTe_skipBlanks d Q pc ls st σ uc us := zX_s (fun q => by cases q) PTe KTe_skipBlanks 400 true pc _ _ _ _ _ h
theorem m_Te_here (cuts : List Nat) {d : Nat} {Q : Option Value → List va_E → Prop} {av : List Value} {σ : List va_E} (hc : zC1 av = true) (hl : av.length ≤ 1) (h : zX gTe_here false pTe kTe_here cuts d Q 400 true 0 (zArgs 1 av) [] σ 0 0) : zRuns gTe_here d av σ Q := zEnter (by decide +kernel) hc hl (zX_s (fun q => by cases q) PTe KTe_here 400 true 0 _ _ _ _ _ h)
theorem w_Te_here (cuts : List Nat) {d : Nat} {Q : Option Value → List va_E → Prop} {pc : Nat} {ls : List (Option Value)} {st : List Value} {σ : List va_E} {uc us : Nat} (h : zX gTe_here false pTe kTe_here cuts d Q 400 true pc ls st σ uc us) : zGood gTe_here d Q pc ls st σ uc us := zX_s (fun q => by cases q) PTe KTe_here 400 true pc _ _ _ _ _ h
theorem m_Te_mark (cuts : List Nat) {d : Nat} {Q : Option Value → List va_E → Prop} {av : List Value} {σ : List va_E} (hc : zC1 av = true) (hl : av.length ≤ 3) (h : zX gTe_mark false pTe kTe_mark cuts d Q 400 true 0 (zArgs 3 av) [] σ 0 0) : zRuns gTe_mark d av σ Q := zEnter (by decide +kernel) hc hl (zX_s (fun q => by cases q) PTe KTe_mark 400 true 0 _ _ _ _ _ h)
theorem w_Te_mark (cuts : List Nat) {d : Nat} {Q : Option Value → List va_E → Prop} {pc : Nat} {ls : List (Option Value)} {st : List Value} {σ : List va_E} {uc us : Nat} (h : zX gTe_mark false pTe kTe_mark cuts d Q 400 true pc ls st σ uc us) : zGood gTe_mark d Q pc ls st σ uc us := zX_s (fun q => by cases q) PTe KTe_mark 400 true pc _ _ _ _ _ h
theorem m_B_init (cuts : List Nat) {d : Nat} {Q : Option Value → List va_E → Prop} {av : List Value} {σ : List va_E} (hc : zC1 av = true) (hl : av.length ≤ 1) (h : zX gB_init true pB kB_init cuts d Q 400 true 0 (zArgs 1 av) [] σ 0 0) : zRuns gB_init d av σ Q := zEnter (by decide +kernel) hc hl (zX_s (fun _ => rfl) PB KB_init 400 true 0 _ _ _ _ _ h)
theorem w_B_init (cuts : List Nat) {d : Nat} {Q : Option Value → List va_E → Prop} {pc : Nat} {ls : List (Option Value)} {st : List Value} {σ : List va_E} {uc us : Nat} (h : zX gB_init true pB kB_init cuts d Q 400 true pc ls st σ uc us) : zGood gB_init d Q pc ls st σ uc us := zX_s (fun _ => rfl) PB KB_init 400 true pc _ _ _ _ _ h
theorem m_B_feed (cuts : List Nat) {d : Nat} {Q : Option Value → List va_E → Prop} {av : List Value} {σ : List va_E} (hc : zC1 av = true) (hl : av.length ≤ 2) (h : zX gB_feed false pB kB_feed cuts d Q 400 true 0 (zArgs 2 av) [] σ 0 0) : zRuns gB_feed d av σ Q := zEnter (by decide +kernel) hc hl (zX_s (fun q => by cases q) PB KB_feed 400 true 0 _ _ _ _ _ h)
theorem w_B_feed (cuts : List Nat) {d : Nat} {Q : Option Value → List va_E → Prop} {pc : Nat} {ls : List (Option Value)} {st : List Value} {σ : List va_E} {uc us : Nat} (h : zX gB_feed false pB kB_feed cuts d Q 400 true pc ls st σ uc us) : zGood gB_feed d Q pc ls st σ uc us := zX_s (fun q => by cases q) PB KB_feed 400 true pc _ _ _ _ _ h
theorem m_B_town (cuts : List Nat) {d : Nat} {Q : Option Value → List va_E → Prop} {av : List Value} {σ : List va_E} (hc : zC1 av = true) (hl : av.length ≤ 2) (h : zX gB_town false pB kB_town cuts d Q 400 true 0 (zArgs 2 av) [] σ 0 0) : zRuns gB_town d av σ Q := zEnter (by decide +kernel) hc hl (zX_s (fun q => by cases q) PB KB_town 400 true 0 _ _ _ _ _ h)
theorem w_B_town (cuts : List Nat) {d : Nat} {Q : Option Value → List va_E → Prop} {pc : Nat} {ls : List (Option Value)} {st : List Value} {σ : List va_E} {uc us : Nat} (h : zX gB_town false pB kB_town cuts d Q 400 true pc ls st σ uc us) : zGood gB_town d Q pc ls st σ uc us := zX_s (fun q => by cases q) PB KB_town 400 true pc _ _ _ _ _ h
theorem m_B_fault (cuts : List Nat) {d : Nat} {Q : Option Value → List va_E → Prop} {av : List Value} {σ : List va_E} (hc : zC1 av = true) (hl : av.length ≤ 1) (h : zX gB_fault false pB kB_fault cuts d Q 400 true 0 (zArgs 1 av) [] σ 0 0) : zRuns gB_fault d av σ Q := zEnter (by decide +kernel) hc hl (zX_s (fun q => by cases q) PB KB_fault 400 true 0 _ _ _ _ _ h)
theorem w_B_fault (cuts : List Nat) {d : Nat} {Q : Option Value → List va_E → Prop} {pc : Nat} {ls : List (Option Value)} {st : List Value} {σ : List va_E} {uc us : Nat} (h : zX gB_fault false pB kB_fault cuts d Q 400 true pc ls st σ uc us) : zGood gB_fault d Q pc ls st σ uc us := zX_s (fun q => by cases q) PB KB_fault 400 true pc _ _ _ _ _ h
theorem m_B_told (cuts : List Nat) {d : Nat} {Q : Option Value → List va_E → Prop} {av : List Value} {σ : List va_E} (hc : zC1 av = true) (hl : av.length ≤ 2) (h : zX gB_told false pB kB_told cuts d Q 400 true 0 (zArgs 2 av) [] σ 0 0) : zRuns gB_told d av σ Q := zEnter (by decide +kernel) hc hl (zX_s (fun q => by cases q) PB KB_told 400 true 0 _ _ _ _ _ h)
theorem w_B_told (cuts : List Nat) {d : Nat} {Q : Option Value → List va_E → Prop} {pc : Nat} {ls : List (Option Value)} {st : List Value} {σ : List va_E} {uc us : Nat} (h : zX gB_told false pB kB_told cuts d Q 400 true pc ls st σ uc us) : zGood gB_told d Q pc ls st σ uc us := zX_s (fun q => by cases q) PB KB_told 400 true pc _ _ _ _ _ h
theorem m_B_man (cuts : List Nat) {d : Nat} {Q : Option Value → List va_E → Prop} {av : List Value} {σ : List va_E} (hc : zC1 av = true) (hl : av.length ≤ 3) (h : zX gB_man false pB kB_man cuts d Q 400 true 0 (zArgs 3 av) [] σ 0 0) : zRuns gB_man d av σ Q := zEnter (by decide +kernel) hc hl (zX_s (fun q => by cases q) PB KB_man 400 true 0 _ _ _ _ _ h)
theorem w_B_man (cuts : List Nat) {d : Nat} {Q : Option Value → List va_E → Prop} {pc : Nat} {ls : List (Option Value)} {st : List Value} {σ : List va_E} {uc us : Nat} (h : zX gB_man false pB kB_man cuts d Q 400 true pc ls st σ uc us) : zGood gB_man d Q pc ls st σ uc us := zX_s (fun q => by cases q) PB KB_man 400 true pc _ _ _ _ _ h
theorem m_B_mishap (cuts : List Nat) {d : Nat} {Q : Option Value → List va_E → Prop} {av : List Value} {σ : List va_E} (hc : zC1 av = true) (hl : av.length ≤ 3) (h : zX gB_mishap false pB kB_mishap cuts d Q 400 true 0 (zArgs 3 av) [] σ 0 0) : zRuns gB_mishap d av σ Q := zEnter (by decide +kernel) hc hl (zX_s (fun q => by cases q) PB KB_mishap 400 true 0 _ _ _ _ _ h)
theorem w_B_mishap (cuts : List Nat) {d : Nat} {Q : Option Value → List va_E → Prop} {pc : Nat} {ls : List (Option Value)} {st : List Value} {σ : List va_E} {uc us : Nat} (h : zX gB_mishap false pB kB_mishap cuts d Q 400 true pc ls st σ uc us) : zGood gB_mishap d Q pc ls st σ uc us := zX_s (fun q => by cases q) PB KB_mishap 400 true pc _ _ _ _ _ h
theorem m_B_belief (cuts : List Nat) {d : Nat} {Q : Option Value → List va_E → Prop} {av : List Value} {σ : List va_E} (hc : zC1 av = true) (hl : av.length ≤ 4) (h : zX gB_belief false pB kB_belief cuts d Q 400 true 0 (zArgs 4 av) [] σ 0 0) : zRuns gB_belief d av σ Q := zEnter (by decide +kernel) hc hl (zX_s (fun q => by cases q) PB KB_belief 400 true 0 _ _ _ _ _ h)
theorem w_B_belief (cuts : List Nat) {d : Nat} {Q : Option Value → List va_E → Prop} {pc : Nat} {ls : List (Option Value)} {st : List Value} {σ : List va_E} {uc us : Nat} (h : zX gB_belief false pB kB_belief cuts d Q 400 true pc ls st σ uc us) : zGood gB_belief d Q pc ls st σ uc us := zX_s (fun q => by cases q) PB KB_belief 400 true pc _ _ _ _ _ h
theorem m_B_blame (cuts : List Nat) {d : Nat} {Q : Option Value → List va_E → Prop} {av : List Value} {σ : List va_E} (hc : zC1 av = true) (hl : av.length ≤ 3) (h : zX gB_blame false pB kB_blame cuts d Q 400 true 0 (zArgs 3 av) [] σ 0 0) : zRuns gB_blame d av σ Q := zEnter (by decide +kernel) hc hl (zX_s (fun q => by cases q) PB KB_blame 400 true 0 _ _ _ _ _ h)
theorem w_B_blame (cuts : List Nat) {d : Nat} {Q : Option Value → List va_E → Prop} {pc : Nat} {ls : List (Option Value)} {st : List Value} {σ : List va_E} {uc us : Nat} (h : zX gB_blame false pB kB_blame cuts d Q 400 true pc ls st σ uc us) : zGood gB_blame d Q pc ls st σ uc us := zX_s (fun q => by cases q) PB KB_blame 400 true pc _ _ _ _ _ h
theorem m_B_clear (cuts : List Nat) {d : Nat} {Q : Option Value → List va_E → Prop} {av : List Value} {σ : List va_E} (hc : zC1 av = true) (hl : av.length ≤ 3) (h : zX gB_clear false pB kB_clear cuts d Q 400 true 0 (zArgs 3 av) [] σ 0 0) : zRuns gB_clear d av σ Q := zEnter (by decide +kernel) hc hl (zX_s (fun q => by cases q) PB KB_clear 400 true 0 _ _ _ _ _ h)
theorem w_B_clear (cuts : List Nat) {d : Nat} {Q : Option Value → List va_E → Prop} {pc : Nat} {ls : List (Option Value)} {st : List Value} {σ : List va_E} {uc us : Nat} (h : zX gB_clear false pB kB_clear cuts d Q 400 true pc ls st σ uc us) : zGood gB_clear d Q pc ls st σ uc us := zX_s (fun q => by cases q) PB KB_clear 400 true pc _ _ _ _ _ h
theorem m_B_walk (cuts : List Nat) {d : Nat} {Q : Option Value → List va_E → Prop} {av : List Value} {σ : List va_E} (hc : zC1 av = true) (hl : av.length ≤ 5) (h : zX gB_walk false pB kB_walk cuts d Q 400 true 0 (zArgs 5 av) [] σ 0 0) : zRuns gB_walk d av σ Q := zEnter (by decide +kernel) hc hl (zX_s (fun q => by cases q) PB KB_walk 400 true 0 _ _ _ _ _ h)
theorem w_B_walk (cuts : List Nat) {d : Nat} {Q : Option Value → List va_E → Prop} {pc : Nat} {ls : List (Option Value)} {st : List Value} {σ : List va_E} {uc us : Nat} (h : zX gB_walk false pB kB_walk cuts d Q 400 true pc ls st σ uc us) : zGood gB_walk d Q pc ls st σ uc us := zX_s (fun q => by cases q) PB KB_walk 400 true pc _ _ _ _ _ h
theorem m_B_sunset (cuts : List Nat) {d : Nat} {Q : Option Value → List va_E → Prop} {av : List Value} {σ : List va_E} (hc : zC1 av = true) (hl : av.length ≤ 1) (h : zX gB_sunset false pB kB_sunset cuts d Q 400 true 0 (zArgs 1 av) [] σ 0 0) : zRuns gB_sunset d av σ Q := zEnter (by decide +kernel) hc hl (zX_s (fun q => by cases q) PB KB_sunset 400 true 0 _ _ _ _ _ h)
theorem w_B_sunset (cuts : List Nat) {d : Nat} {Q : Option Value → List va_E → Prop} {pc : Nat} {ls : List (Option Value)} {st : List Value} {σ : List va_E} {uc us : Nat} (h : zX gB_sunset false pB kB_sunset cuts d Q 400 true pc ls st σ uc us) : zGood gB_sunset d Q pc ls st σ uc us := zX_s (fun q => by cases q) PB KB_sunset 400 true pc _ _ _ _ _ h
theorem m_B_drift (cuts : List Nat) {d : Nat} {Q : Option Value → List va_E → Prop} {av : List Value} {σ : List va_E} (hc : zC1 av = true) (hl : av.length ≤ 4) (h : zX gB_drift false pB kB_drift cuts d Q 400 true 0 (zArgs 4 av) [] σ 0 0) : zRuns gB_drift d av σ Q := zEnter (by decide +kernel) hc hl (zX_s (fun q => by cases q) PB KB_drift 400 true 0 _ _ _ _ _ h)
theorem w_B_drift (cuts : List Nat) {d : Nat} {Q : Option Value → List va_E → Prop} {pc : Nat} {ls : List (Option Value)} {st : List Value} {σ : List va_E} {uc us : Nat} (h : zX gB_drift false pB kB_drift cuts d Q 400 true pc ls st σ uc us) : zGood gB_drift d Q pc ls st σ uc us := zX_s (fun q => by cases q) PB KB_drift 400 true pc _ _ _ _ _ h
theorem m_B_undo (cuts : List Nat) {d : Nat} {Q : Option Value → List va_E → Prop} {av : List Value} {σ : List va_E} (hc : zC1 av = true) (hl : av.length ≤ 2) (h : zX gB_undo false pB kB_undo cuts d Q 400 true 0 (zArgs 2 av) [] σ 0 0) : zRuns gB_undo d av σ Q := zEnter (by decide +kernel) hc hl (zX_s (fun q => by cases q) PB KB_undo 400 true 0 _ _ _ _ _ h)
theorem w_B_undo (cuts : List Nat) {d : Nat} {Q : Option Value → List va_E → Prop} {pc : Nat} {ls : List (Option Value)} {st : List Value} {σ : List va_E} {uc us : Nat} (h : zX gB_undo false pB kB_undo cuts d Q 400 true pc ls st σ uc us) : zGood gB_undo d Q pc ls st σ uc us := zX_s (fun q => by cases q) PB KB_undo 400 true pc _ _ _ _ _ h
theorem m_B_may (cuts : List Nat) {d : Nat} {Q : Option Value → List va_E → Prop} {av : List Value} {σ : List va_E} (hc : zC1 av = true) (hl : av.length ≤ 2) (h : zX gB_may false pB kB_may cuts d Q 400 true 0 (zArgs 2 av) [] σ 0 0) : zRuns gB_may d av σ Q := zEnter (by decide +kernel) hc hl (zX_s (fun q => by cases q) PB KB_may 400 true 0 _ _ _ _ _ h)
theorem w_B_may (cuts : List Nat) {d : Nat} {Q : Option Value → List va_E → Prop} {pc : Nat} {ls : List (Option Value)} {st : List Value} {σ : List va_E} {uc us : Nat} (h : zX gB_may false pB kB_may cuts d Q 400 true pc ls st σ uc us) : zGood gB_may d Q pc ls st σ uc us := zX_s (fun q => by cases q) PB KB_may 400 true pc _ _ _ _ _ h
theorem m_B_orphans (cuts : List Nat) {d : Nat} {Q : Option Value → List va_E → Prop} {av : List Value} {σ : List va_E} (hc : zC1 av = true) (hl : av.length ≤ 3) (h : zX gB_orphans false pB kB_orphans cuts d Q 400 true 0 (zArgs 3 av) [] σ 0 0) : zRuns gB_orphans d av σ Q := zEnter (by decide +kernel) hc hl (zX_s (fun q => by cases q) PB KB_orphans 400 true 0 _ _ _ _ _ h)
theorem w_B_orphans (cuts : List Nat) {d : Nat} {Q : Option Value → List va_E → Prop} {pc : Nat} {ls : List (Option Value)} {st : List Value} {σ : List va_E} {uc us : Nat} (h : zX gB_orphans false pB kB_orphans cuts d Q 400 true pc ls st σ uc us) : zGood gB_orphans d Q pc ls st σ uc us := zX_s (fun q => by cases q) PB KB_orphans 400 true pc _ _ _ _ _ h
theorem m_B_shared (cuts : List Nat) {d : Nat} {Q : Option Value → List va_E → Prop} {av : List Value} {σ : List va_E} (hc : zC1 av = true) (hl : av.length ≤ 2) (h : zX gB_shared false pB kB_shared cuts d Q 400 true 0 (zArgs 2 av) [] σ 0 0) : zRuns gB_shared d av σ Q := zEnter (by decide +kernel) hc hl (zX_s (fun q => by cases q) PB KB_shared 400 true 0 _ _ _ _ _ h)
theorem w_B_shared (cuts : List Nat) {d : Nat} {Q : Option Value → List va_E → Prop} {pc : Nat} {ls : List (Option Value)} {st : List Value} {σ : List va_E} {uc us : Nat} (h : zX gB_shared false pB kB_shared cuts d Q 400 true pc ls st σ uc us) : zGood gB_shared d Q pc ls st σ uc us := zX_s (fun q => by cases q) PB KB_shared 400 true pc _ _ _ _ _ h
theorem m_B_cheapest (cuts : List Nat) {d : Nat} {Q : Option Value → List va_E → Prop} {av : List Value} {σ : List va_E} (hc : zC1 av = true) (hl : av.length ≤ 2) (h : zX gB_cheapest false pB kB_cheapest cuts d Q 400 true 0 (zArgs 2 av) [] σ 0 0) : zRuns gB_cheapest d av σ Q := zEnter (by decide +kernel) hc hl (zX_s (fun q => by cases q) PB KB_cheapest 400 true 0 _ _ _ _ _ h)
theorem w_B_cheapest (cuts : List Nat) {d : Nat} {Q : Option Value → List va_E → Prop} {pc : Nat} {ls : List (Option Value)} {st : List Value} {σ : List va_E} {uc us : Nat} (h : zX gB_cheapest false pB kB_cheapest cuts d Q 400 true pc ls st σ uc us) : zGood gB_cheapest d Q pc ls st σ uc us := zX_s (fun q => by cases q) PB KB_cheapest 400 true pc _ _ _ _ _ h
theorem m_B_culprits (cuts : List Nat) {d : Nat} {Q : Option Value → List va_E → Prop} {av : List Value} {σ : List va_E} (hc : zC1 av = true) (hl : av.length ≤ 5) (h : zX gB_culprits false pB kB_culprits cuts d Q 400 true 0 (zArgs 5 av) [] σ 0 0) : zRuns gB_culprits d av σ Q := zEnter (by decide +kernel) hc hl (zX_s (fun q => by cases q) PB KB_culprits 400 true 0 _ _ _ _ _ h)
theorem w_B_culprits (cuts : List Nat) {d : Nat} {Q : Option Value → List va_E → Prop} {pc : Nat} {ls : List (Option Value)} {st : List Value} {σ : List va_E} {uc us : Nat} (h : zX gB_culprits false pB kB_culprits cuts d Q 400 true pc ls st σ uc us) : zGood gB_culprits d Q pc ls st σ uc us := zX_s (fun q => by cases q) PB KB_culprits 400 true pc _ _ _ _ _ h
theorem m_B_idle (cuts : List Nat) {d : Nat} {Q : Option Value → List va_E → Prop} {av : List Value} {σ : List va_E} (hc : zC1 av = true) (hl : av.length ≤ 3) (h : zX gB_idle false pB kB_idle cuts d Q 400 true 0 (zArgs 3 av) [] σ 0 0) : zRuns gB_idle d av σ Q := zEnter (by decide +kernel) hc hl (zX_s (fun q => by cases q) PB KB_idle 400 true 0 _ _ _ _ _ h)
theorem w_B_idle (cuts : List Nat) {d : Nat} {Q : Option Value → List va_E → Prop} {pc : Nat} {ls : List (Option Value)} {st : List Value} {σ : List va_E} {uc us : Nat} (h : zX gB_idle false pB kB_idle cuts d Q 400 true pc ls st σ uc us) : zGood gB_idle d Q pc ls st σ uc us := zX_s (fun q => by cases q) PB KB_idle 400 true pc _ _ _ _ _ h
theorem m_B_nearer (cuts : List Nat) {d : Nat} {Q : Option Value → List va_E → Prop} {av : List Value} {σ : List va_E} (hc : zC1 av = true) (hl : av.length ≤ 6) (h : zX gB_nearer false pB kB_nearer cuts d Q 400 true 0 (zArgs 6 av) [] σ 0 0) : zRuns gB_nearer d av σ Q := zEnter (by decide +kernel) hc hl (zX_s (fun q => by cases q) PB KB_nearer 400 true 0 _ _ _ _ _ h)
theorem w_B_nearer (cuts : List Nat) {d : Nat} {Q : Option Value → List va_E → Prop} {pc : Nat} {ls : List (Option Value)} {st : List Value} {σ : List va_E} {uc us : Nat} (h : zX gB_nearer false pB kB_nearer cuts d Q 400 true pc ls st σ uc us) : zGood gB_nearer d Q pc ls st σ uc us := zX_s (fun q => by cases q) PB KB_nearer 400 true pc _ _ _ _ _ h
theorem m_B_chain (cuts : List Nat) {d : Nat} {Q : Option Value → List va_E → Prop} {av : List Value} {σ : List va_E} (hc : zC1 av = true) (hl : av.length ≤ 3) (h : zX gB_chain false pB kB_chain cuts d Q 400 true 0 (zArgs 3 av) [] σ 0 0) : zRuns gB_chain d av σ Q := zEnter (by decide +kernel) hc hl (zX_s (fun q => by cases q) PB KB_chain 400 true 0 _ _ _ _ _ h)
theorem w_B_chain (cuts : List Nat) {d : Nat} {Q : Option Value → List va_E → Prop} {pc : Nat} {ls : List (Option Value)} {st : List Value} {σ : List va_E} {uc us : Nat} (h : zX gB_chain false pB kB_chain cuts d Q 400 true pc ls st σ uc us) : zGood gB_chain d Q pc ls st σ uc us := zX_s (fun q => by cases q) PB KB_chain 400 true pc _ _ _ _ _ h
theorem m_B_quiet (cuts : List Nat) {d : Nat} {Q : Option Value → List va_E → Prop} {av : List Value} {σ : List va_E} (hc : zC1 av = true) (hl : av.length ≤ 7) (h : zX gB_quiet false pB kB_quiet cuts d Q 400 true 0 (zArgs 7 av) [] σ 0 0) : zRuns gB_quiet d av σ Q := zEnter (by decide +kernel) hc hl (zX_s (fun q => by cases q) PB KB_quiet 400 true 0 _ _ _ _ _ h)
theorem w_B_quiet (cuts : List Nat) {d : Nat} {Q : Option Value → List va_E → Prop} {pc : Nat} {ls : List (Option Value)} {st : List Value} {σ : List va_E} {uc us : Nat} (h : zX gB_quiet false pB kB_quiet cuts d Q 400 true pc ls st σ uc us) : zGood gB_quiet d Q pc ls st σ uc us := zX_s (fun q => by cases q) PB KB_quiet 400 true pc _ _ _ _ _ h
theorem m_B_see (cuts : List Nat) {d : Nat} {Q : Option Value → List va_E → Prop} {av : List Value} {σ : List va_E} (hc : zC1 av = true) (hl : av.length ≤ 4) (h : zX gB_see false pB kB_see cuts d Q 400 true 0 (zArgs 4 av) [] σ 0 0) : zRuns gB_see d av σ Q := zEnter (by decide +kernel) hc hl (zX_s (fun q => by cases q) PB KB_see 400 true 0 _ _ _ _ _ h)
theorem w_B_see (cuts : List Nat) {d : Nat} {Q : Option Value → List va_E → Prop} {pc : Nat} {ls : List (Option Value)} {st : List Value} {σ : List va_E} {uc us : Nat} (h : zX gB_see false pB kB_see cuts d Q 400 true pc ls st σ uc us) : zGood gB_see d Q pc ls st σ uc us := zX_s (fun q => by cases q) PB KB_see 400 true pc _ _ _ _ _ h
theorem m_B_alibi (cuts : List Nat) {d : Nat} {Q : Option Value → List va_E → Prop} {av : List Value} {σ : List va_E} (hc : zC1 av = true) (hl : av.length ≤ 4) (h : zX gB_alibi false pB kB_alibi cuts d Q 400 true 0 (zArgs 4 av) [] σ 0 0) : zRuns gB_alibi d av σ Q := zEnter (by decide +kernel) hc hl (zX_s (fun q => by cases q) PB KB_alibi 400 true 0 _ _ _ _ _ h)
theorem w_B_alibi (cuts : List Nat) {d : Nat} {Q : Option Value → List va_E → Prop} {pc : Nat} {ls : List (Option Value)} {st : List Value} {σ : List va_E} {uc us : Nat} (h : zX gB_alibi false pB kB_alibi cuts d Q 400 true pc ls st σ uc us) : zGood gB_alibi d Q pc ls st σ uc us := zX_s (fun q => by cases q) PB KB_alibi 400 true pc _ _ _ _ _ h
theorem m_B_write (cuts : List Nat) {d : Nat} {Q : Option Value → List va_E → Prop} {av : List Value} {σ : List va_E} (hc : zC1 av = true) (hl : av.length ≤ 3) (h : zX gB_write false pB kB_write cuts d Q 400 true 0 (zArgs 3 av) [] σ 0 0) : zRuns gB_write d av σ Q := zEnter (by decide +kernel) hc hl (zX_s (fun q => by cases q) PB KB_write 400 true 0 _ _ _ _ _ h)
theorem w_B_write (cuts : List Nat) {d : Nat} {Q : Option Value → List va_E → Prop} {pc : Nat} {ls : List (Option Value)} {st : List Value} {σ : List va_E} {uc us : Nat} (h : zX gB_write false pB kB_write cuts d Q 400 true pc ls st σ uc us) : zGood gB_write d Q pc ls st σ uc us := zX_s (fun q => by cases q) PB KB_write 400 true pc _ _ _ _ _ h
theorem m_B_judge (cuts : List Nat) {d : Nat} {Q : Option Value → List va_E → Prop} {av : List Value} {σ : List va_E} (hc : zC1 av = true) (hl : av.length ≤ 2) (h : zX gB_judge false pB kB_judge cuts d Q 400 true 0 (zArgs 2 av) [] σ 0 0) : zRuns gB_judge d av σ Q := zEnter (by decide +kernel) hc hl (zX_s (fun q => by cases q) PB KB_judge 400 true 0 _ _ _ _ _ h)
theorem w_B_judge (cuts : List Nat) {d : Nat} {Q : Option Value → List va_E → Prop} {pc : Nat} {ls : List (Option Value)} {st : List Value} {σ : List va_E} {uc us : Nat} (h : zX gB_judge false pB kB_judge cuts d Q 400 true pc ls st σ uc us) : zGood gB_judge d Q pc ls st σ uc us := zX_s (fun q => by cases q) PB KB_judge 400 true pc _ _ _ _ _ h
theorem m_B_tear (cuts : List Nat) {d : Nat} {Q : Option Value → List va_E → Prop} {av : List Value} {σ : List va_E} (hc : zC1 av = true) (hl : av.length ≤ 2) (h : zX gB_tear false pB kB_tear cuts d Q 400 true 0 (zArgs 2 av) [] σ 0 0) : zRuns gB_tear d av σ Q := zEnter (by decide +kernel) hc hl (zX_s (fun q => by cases q) PB KB_tear 400 true 0 _ _ _ _ _ h)
theorem w_B_tear (cuts : List Nat) {d : Nat} {Q : Option Value → List va_E → Prop} {pc : Nat} {ls : List (Option Value)} {st : List Value} {σ : List va_E} {uc us : Nat} (h : zX gB_tear false pB kB_tear cuts d Q 400 true pc ls st σ uc us) : zGood gB_tear d Q pc ls st σ uc us := zX_s (fun q => by cases q) PB KB_tear 400 true pc _ _ _ _ _ h
theorem m_B_seed (cuts : List Nat) {d : Nat} {Q : Option Value → List va_E → Prop} {av : List Value} {σ : List va_E} (hc : zC1 av = true) (hl : av.length ≤ 3) (h : zX gB_seed false pB kB_seed cuts d Q 400 true 0 (zArgs 3 av) [] σ 0 0) : zRuns gB_seed d av σ Q := zEnter (by decide +kernel) hc hl (zX_s (fun q => by cases q) PB KB_seed 400 true 0 _ _ _ _ _ h)
theorem w_B_seed (cuts : List Nat) {d : Nat} {Q : Option Value → List va_E → Prop} {pc : Nat} {ls : List (Option Value)} {st : List Value} {σ : List va_E} {uc us : Nat} (h : zX gB_seed false pB kB_seed cuts d Q 400 true pc ls st σ uc us) : zGood gB_seed d Q pc ls st σ uc us := zX_s (fun q => by cases q) PB KB_seed 400 true pc _ _ _ _ _ h
theorem m_B_keep (cuts : List Nat) {d : Nat} {Q : Option Value → List va_E → Prop} {av : List Value} {σ : List va_E} (hc : zC1 av = true) (hl : av.length ≤ 3) (h : zX gB_keep false pB kB_keep cuts d Q 400 true 0 (zArgs 3 av) [] σ 0 0) : zRuns gB_keep d av σ Q := zEnter (by decide +kernel) hc hl (zX_s (fun q => by cases q) PB KB_keep 400 true 0 _ _ _ _ _ h)
theorem w_B_keep (cuts : List Nat) {d : Nat} {Q : Option Value → List va_E → Prop} {pc : Nat} {ls : List (Option Value)} {st : List Value} {σ : List va_E} {uc us : Nat} (h : zX gB_keep false pB kB_keep cuts d Q 400 true pc ls st σ uc us) : zGood gB_keep d Q pc ls st σ uc us := zX_s (fun q => by cases q) PB KB_keep 400 true pc _ _ _ _ _ h
theorem m_B_goBack (cuts : List Nat) {d : Nat} {Q : Option Value → List va_E → Prop} {av : List Value} {σ : List va_E} (hc : zC1 av = true) (hl : av.length ≤ 3) (h : zX gB_goBack false pB kB_goBack cuts d Q 400 true 0 (zArgs 3 av) [] σ 0 0) : zRuns gB_goBack d av σ Q := zEnter (by decide +kernel) hc hl (zX_s (fun q => by cases q) PB KB_goBack 400 true 0 _ _ _ _ _ h)
theorem w_B_goBack (cuts : List Nat) {d : Nat} {Q : Option Value → List va_E → Prop} {pc : Nat} {ls : List (Option Value)} {st : List Value} {σ : List va_E} {uc us : Nat} (h : zX gB_goBack false pB kB_goBack cuts d Q 400 true pc ls st σ uc us) : zGood gB_goBack d Q pc ls st σ uc us := zX_s (fun q => by cases q) PB KB_goBack 400 true pc _ _ _ _ _ h
theorem m_B_isMan (cuts : List Nat) {d : Nat} {Q : Option Value → List va_E → Prop} {av : List Value} {σ : List va_E} (hc : zC1 av = true) (hl : av.length ≤ 2) (h : zX gB_isMan false pB kB_isMan cuts d Q 400 true 0 (zArgs 2 av) [] σ 0 0) : zRuns gB_isMan d av σ Q := zEnter (by decide +kernel) hc hl (zX_s (fun q => by cases q) PB KB_isMan 400 true 0 _ _ _ _ _ h)
theorem w_B_isMan (cuts : List Nat) {d : Nat} {Q : Option Value → List va_E → Prop} {pc : Nat} {ls : List (Option Value)} {st : List Value} {σ : List va_E} {uc us : Nat} (h : zX gB_isMan false pB kB_isMan cuts d Q 400 true pc ls st σ uc us) : zGood gB_isMan d Q pc ls st σ uc us := zX_s (fun q => by cases q) PB KB_isMan 400 true pc _ _ _ _ _ h
theorem m_B_isMishap (cuts : List Nat) {d : Nat} {Q : Option Value → List va_E → Prop} {av : List Value} {σ : List va_E} (hc : zC1 av = true) (hl : av.length ≤ 2) (h : zX gB_isMishap false pB kB_isMishap cuts d Q 400 true 0 (zArgs 2 av) [] σ 0 0) : zRuns gB_isMishap d av σ Q := zEnter (by decide +kernel) hc hl (zX_s (fun q => by cases q) PB KB_isMishap 400 true 0 _ _ _ _ _ h)
theorem w_B_isMishap (cuts : List Nat) {d : Nat} {Q : Option Value → List va_E → Prop} {pc : Nat} {ls : List (Option Value)} {st : List Value} {σ : List va_E} {uc us : Nat} (h : zX gB_isMishap false pB kB_isMishap cuts d Q 400 true pc ls st σ uc us) : zGood gB_isMishap d Q pc ls st σ uc us := zX_s (fun q => by cases q) PB KB_isMishap 400 true pc _ _ _ _ _ h
theorem m_B_imageOf (cuts : List Nat) {d : Nat} {Q : Option Value → List va_E → Prop} {av : List Value} {σ : List va_E} (hc : zC1 av = true) (hl : av.length ≤ 2) (h : zX gB_imageOf false pB kB_imageOf cuts d Q 400 true 0 (zArgs 2 av) [] σ 0 0) : zRuns gB_imageOf d av σ Q := zEnter (by decide +kernel) hc hl (zX_s (fun q => by cases q) PB KB_imageOf 400 true 0 _ _ _ _ _ h)
theorem w_B_imageOf (cuts : List Nat) {d : Nat} {Q : Option Value → List va_E → Prop} {pc : Nat} {ls : List (Option Value)} {st : List Value} {σ : List va_E} {uc us : Nat} (h : zX gB_imageOf false pB kB_imageOf cuts d Q 400 true pc ls st σ uc us) : zGood gB_imageOf d Q pc ls st σ uc us := zX_s (fun q => by cases q) PB KB_imageOf 400 true pc _ _ _ _ _ h
theorem m_B_putBlame (cuts : List Nat) {d : Nat} {Q : Option Value → List va_E → Prop} {av : List Value} {σ : List va_E} (hc : zC1 av = true) (hl : av.length ≤ 3) (h : zX gB_putBlame false pB kB_putBlame cuts d Q 400 true 0 (zArgs 3 av) [] σ 0 0) : zRuns gB_putBlame d av σ Q := zEnter (by decide +kernel) hc hl (zX_s (fun q => by cases q) PB KB_putBlame 400 true 0 _ _ _ _ _ h)
theorem w_B_putBlame (cuts : List Nat) {d : Nat} {Q : Option Value → List va_E → Prop} {pc : Nat} {ls : List (Option Value)} {st : List Value} {σ : List va_E} {uc us : Nat} (h : zX gB_putBlame false pB kB_putBlame cuts d Q 400 true pc ls st σ uc us) : zGood gB_putBlame d Q pc ls st σ uc us := zX_s (fun q => by cases q) PB KB_putBlame 400 true pc _ _ _ _ _ h
theorem m_B_blameByDraws (cuts : List Nat) {d : Nat} {Q : Option Value → List va_E → Prop} {av : List Value} {σ : List va_E} (hc : zC1 av = true) (hl : av.length ≤ 5) (h : zX gB_blameByDraws false pB kB_blameByDraws cuts d Q 400 true 0 (zArgs 5 av) [] σ 0 0) : zRuns gB_blameByDraws d av σ Q := zEnter (by decide +kernel) hc hl (zX_s (fun q => by cases q) PB KB_blameByDraws 400 true 0 _ _ _ _ _ h)
theorem w_B_blameByDraws (cuts : List Nat) {d : Nat} {Q : Option Value → List va_E → Prop} {pc : Nat} {ls : List (Option Value)} {st : List Value} {σ : List va_E} {uc us : Nat} (h : zX gB_blameByDraws false pB kB_blameByDraws cuts d Q 400 true pc ls st σ uc us) : zGood gB_blameByDraws d Q pc ls st σ uc us := zX_s (fun q => by cases q) PB KB_blameByDraws 400 true pc _ _ _ _ _ h
theorem m_B_draw (cuts : List Nat) {d : Nat} {Q : Option Value → List va_E → Prop} {av : List Value} {σ : List va_E} (hc : zC1 av = true) (hl : av.length ≤ 2) (h : zX gB_draw false pB kB_draw cuts d Q 400 true 0 (zArgs 2 av) [] σ 0 0) : zRuns gB_draw d av σ Q := zEnter (by decide +kernel) hc hl (zX_s (fun q => by cases q) PB KB_draw 400 true 0 _ _ _ _ _ h)
theorem w_B_draw (cuts : List Nat) {d : Nat} {Q : Option Value → List va_E → Prop} {pc : Nat} {ls : List (Option Value)} {st : List Value} {σ : List va_E} {uc us : Nat} (h : zX gB_draw false pB kB_draw cuts d Q 400 true pc ls st σ uc us) : zGood gB_draw d Q pc ls st σ uc us := zX_s (fun q => by cases q) PB KB_draw 400 true pc _ _ _ _ _ h
theorem m_B_endDay (cuts : List Nat) {d : Nat} {Q : Option Value → List va_E → Prop} {av : List Value} {σ : List va_E} (hc : zC1 av = true) (hl : av.length ≤ 3) (h : zX gB_endDay false pB kB_endDay cuts d Q 400 true 0 (zArgs 3 av) [] σ 0 0) : zRuns gB_endDay d av σ Q := zEnter (by decide +kernel) hc hl (zX_s (fun q => by cases q) PB KB_endDay 400 true 0 _ _ _ _ _ h)
theorem w_B_endDay (cuts : List Nat) {d : Nat} {Q : Option Value → List va_E → Prop} {pc : Nat} {ls : List (Option Value)} {st : List Value} {σ : List va_E} {uc us : Nat} (h : zX gB_endDay false pB kB_endDay cuts d Q 400 true pc ls st σ uc us) : zGood gB_endDay d Q pc ls st σ uc us := zX_s (fun q => by cases q) PB KB_endDay 400 true pc _ _ _ _ _ h
theorem m_B_isHour (cuts : List Nat) {d : Nat} {Q : Option Value → List va_E → Prop} {av : List Value} {σ : List va_E} (hc : zC1 av = true) (hl : av.length ≤ 1) (h : zX gB_isHour false pB kB_isHour cuts d Q 400 true 0 (zArgs 1 av) [] σ 0 0) : zRuns gB_isHour d av σ Q := zEnter (by decide +kernel) hc hl (zX_s (fun q => by cases q) PB KB_isHour 400 true 0 _ _ _ _ _ h)
theorem w_B_isHour (cuts : List Nat) {d : Nat} {Q : Option Value → List va_E → Prop} {pc : Nat} {ls : List (Option Value)} {st : List Value} {σ : List va_E} {uc us : Nat} (h : zX gB_isHour false pB kB_isHour cuts d Q 400 true pc ls st σ uc us) : zGood gB_isHour d Q pc ls st σ uc us := zX_s (fun q => by cases q) PB KB_isHour 400 true pc _ _ _ _ _ h
theorem m_B_isPlace (cuts : List Nat) {d : Nat} {Q : Option Value → List va_E → Prop} {av : List Value} {σ : List va_E} (hc : zC1 av = true) (hl : av.length ≤ 1) (h : zX gB_isPlace false pB kB_isPlace cuts d Q 400 true 0 (zArgs 1 av) [] σ 0 0) : zRuns gB_isPlace d av σ Q := zEnter (by decide +kernel) hc hl (zX_s (fun q => by cases q) PB KB_isPlace 400 true 0 _ _ _ _ _ h)
theorem w_B_isPlace (cuts : List Nat) {d : Nat} {Q : Option Value → List va_E → Prop} {pc : Nat} {ls : List (Option Value)} {st : List Value} {σ : List va_E} {uc us : Nat} (h : zX gB_isPlace false pB kB_isPlace cuts d Q 400 true pc ls st σ uc us) : zGood gB_isPlace d Q pc ls st σ uc us := zX_s (fun q => by cases q) PB KB_isPlace 400 true pc _ _ _ _ _ h
theorem m_B_isWithin (cuts : List Nat) {d : Nat} {Q : Option Value → List va_E → Prop} {av : List Value} {σ : List va_E} (hc : zC1 av = true) (hl : av.length ≤ 3) (h : zX gB_isWithin false pB kB_isWithin cuts d Q 400 true 0 (zArgs 3 av) [] σ 0 0) : zRuns gB_isWithin d av σ Q := zEnter (by decide +kernel) hc hl (zX_s (fun q => by cases q) PB KB_isWithin 400 true 0 _ _ _ _ _ h)
theorem w_B_isWithin (cuts : List Nat) {d : Nat} {Q : Option Value → List va_E → Prop} {pc : Nat} {ls : List (Option Value)} {st : List Value} {σ : List va_E} {uc us : Nat} (h : zX gB_isWithin false pB kB_isWithin cuts d Q 400 true pc ls st σ uc us) : zGood gB_isWithin d Q pc ls st σ uc us := zX_s (fun q => by cases q) PB KB_isWithin 400 true pc _ _ _ _ _ h
theorem m_B_isIn (cuts : List Nat) {d : Nat} {Q : Option Value → List va_E → Prop} {av : List Value} {σ : List va_E} (hc : zC1 av = true) (hl : av.length ≤ 2) (h : zX gB_isIn false pB kB_isIn cuts d Q 400 true 0 (zArgs 2 av) [] σ 0 0) : zRuns gB_isIn d av σ Q := zEnter (by decide +kernel) hc hl (zX_s (fun q => by cases q) PB KB_isIn 400 true 0 _ _ _ _ _ h)
theorem w_B_isIn (cuts : List Nat) {d : Nat} {Q : Option Value → List va_E → Prop} {pc : Nat} {ls : List (Option Value)} {st : List Value} {σ : List va_E} {uc us : Nat} (h : zX gB_isIn false pB kB_isIn cuts d Q 400 true pc ls st σ uc us) : zGood gB_isIn d Q pc ls st σ uc us := zX_s (fun q => by cases q) PB KB_isIn 400 true pc _ _ _ _ _ h
theorem m_B_memberOf (cuts : List Nat) {d : Nat} {Q : Option Value → List va_E → Prop} {av : List Value} {σ : List va_E} (hc : zC1 av = true) (hl : av.length ≤ 4) (h : zX gB_memberOf false pB kB_memberOf cuts d Q 400 true 0 (zArgs 4 av) [] σ 0 0) : zRuns gB_memberOf d av σ Q := zEnter (by decide +kernel) hc hl (zX_s (fun q => by cases q) PB KB_memberOf 400 true 0 _ _ _ _ _ h)
theorem w_B_memberOf (cuts : List Nat) {d : Nat} {Q : Option Value → List va_E → Prop} {pc : Nat} {ls : List (Option Value)} {st : List Value} {σ : List va_E} {uc us : Nat} (h : zX gB_memberOf false pB kB_memberOf cuts d Q 400 true pc ls st σ uc us) : zGood gB_memberOf d Q pc ls st σ uc us := zX_s (fun q => by cases q) PB KB_memberOf 400 true pc _ _ _ _ _ h
theorem m_B_at (cuts : List Nat) {d : Nat} {Q : Option Value → List va_E → Prop} {av : List Value} {σ : List va_E} (hc : zC1 av = true) (hl : av.length ≤ 2) (h : zX gB_at false pB kB_at cuts d Q 400 true 0 (zArgs 2 av) [] σ 0 0) : zRuns gB_at d av σ Q := zEnter (by decide +kernel) hc hl (zX_s (fun q => by cases q) PB KB_at 400 true 0 _ _ _ _ _ h)
theorem w_B_at (cuts : List Nat) {d : Nat} {Q : Option Value → List va_E → Prop} {pc : Nat} {ls : List (Option Value)} {st : List Value} {σ : List va_E} {uc us : Nat} (h : zX gB_at false pB kB_at cuts d Q 400 true pc ls st σ uc us) : zGood gB_at d Q pc ls st σ uc us := zX_s (fun q => by cases q) PB KB_at 400 true pc _ _ _ _ _ h
theorem m_B_put (cuts : List Nat) {d : Nat} {Q : Option Value → List va_E → Prop} {av : List Value} {σ : List va_E} (hc : zC1 av = true) (hl : av.length ≤ 3) (h : zX gB_put false pB kB_put cuts d Q 400 true 0 (zArgs 3 av) [] σ 0 0) : zRuns gB_put d av σ Q := zEnter (by decide +kernel) hc hl (zX_s (fun q => by cases q) PB KB_put 400 true 0 _ _ _ _ _ h)
theorem w_B_put (cuts : List Nat) {d : Nat} {Q : Option Value → List va_E → Prop} {pc : Nat} {ls : List (Option Value)} {st : List Value} {σ : List va_E} {uc us : Nat} (h : zX gB_put false pB kB_put cuts d Q 400 true pc ls st σ uc us) : zGood gB_put d Q pc ls st σ uc us := zX_s (fun q => by cases q) PB KB_put 400 true pc _ _ _ _ _ h
theorem m_B_copyRow (cuts : List Nat) {d : Nat} {Q : Option Value → List va_E → Prop} {av : List Value} {σ : List va_E} (hc : zC1 av = true) (hl : av.length ≤ 3) (h : zX gB_copyRow false pB kB_copyRow cuts d Q 400 true 0 (zArgs 3 av) [] σ 0 0) : zRuns gB_copyRow d av σ Q := zEnter (by decide +kernel) hc hl (zX_s (fun q => by cases q) PB KB_copyRow 400 true 0 _ _ _ _ _ h)
theorem w_B_copyRow (cuts : List Nat) {d : Nat} {Q : Option Value → List va_E → Prop} {pc : Nat} {ls : List (Option Value)} {st : List Value} {σ : List va_E} {uc us : Nat} (h : zX gB_copyRow false pB kB_copyRow cuts d Q 400 true pc ls st σ uc us) : zGood gB_copyRow d Q pc ls st σ uc us := zX_s (fun q => by cases q) PB KB_copyRow 400 true pc _ _ _ _ _ h
theorem m_M_init (cuts : List Nat) {d : Nat} {Q : Option Value → List va_E → Prop} {av : List Value} {σ : List va_E} (hc : zC1 av = true) (hl : av.length ≤ 1) (h : zX gM_init true pM kM_init cuts d Q 400 true 0 (zArgs 1 av) [] σ 0 0) : zRuns gM_init d av σ Q := zEnter (by decide +kernel) hc hl (zX_s (fun _ => rfl) PM KM_init 400 true 0 _ _ _ _ _ h)
theorem w_M_init (cuts : List Nat) {d : Nat} {Q : Option Value → List va_E → Prop} {pc : Nat} {ls : List (Option Value)} {st : List Value} {σ : List va_E} {uc us : Nat} (h : zX gM_init true pM kM_init cuts d Q 400 true pc ls st σ uc us) : zGood gM_init d Q pc ls st σ uc us := zX_s (fun _ => rfl) PM KM_init 400 true pc _ _ _ _ _ h
theorem m_M_in (cuts : List Nat) {d : Nat} {Q : Option Value → List va_E → Prop} {av : List Value} {σ : List va_E} (hc : zC1 av = true) (hl : av.length ≤ 3) (h : zX gM_in false pM kM_in cuts d Q 400 true 0 (zArgs 3 av) [] σ 0 0) : zRuns gM_in d av σ Q := zEnter (by decide +kernel) hc hl (zX_s (fun q => by cases q) PM KM_in 400 true 0 _ _ _ _ _ h)
theorem w_M_in (cuts : List Nat) {d : Nat} {Q : Option Value → List va_E → Prop} {pc : Nat} {ls : List (Option Value)} {st : List Value} {σ : List va_E} {uc us : Nat} (h : zX gM_in false pM kM_in cuts d Q 400 true pc ls st σ uc us) : zGood gM_in d Q pc ls st σ uc us := zX_s (fun q => by cases q) PM KM_in 400 true pc _ _ _ _ _ h
theorem m_M_has (cuts : List Nat) {d : Nat} {Q : Option Value → List va_E → Prop} {av : List Value} {σ : List va_E} (hc : zC1 av = true) (hl : av.length ≤ 2) (h : zX gM_has false pM kM_has cuts d Q 400 true 0 (zArgs 2 av) [] σ 0 0) : zRuns gM_has d av σ Q := zEnter (by decide +kernel) hc hl (zX_s (fun q => by cases q) PM KM_has 400 true 0 _ _ _ _ _ h)
theorem w_M_has (cuts : List Nat) {d : Nat} {Q : Option Value → List va_E → Prop} {pc : Nat} {ls : List (Option Value)} {st : List Value} {σ : List va_E} {uc us : Nat} (h : zX gM_has false pM kM_has cuts d Q 400 true pc ls st σ uc us) : zGood gM_has d Q pc ls st σ uc us := zX_s (fun q => by cases q) PM KM_has 400 true pc _ _ _ _ _ h
theorem m_M_ones (cuts : List Nat) {d : Nat} {Q : Option Value → List va_E → Prop} {av : List Value} {σ : List va_E} (hc : zC1 av = true) (hl : av.length ≤ 3) (h : zX gM_ones false pM kM_ones cuts d Q 400 true 0 (zArgs 3 av) [] σ 0 0) : zRuns gM_ones d av σ Q := zEnter (by decide +kernel) hc hl (zX_s (fun q => by cases q) PM KM_ones 400 true 0 _ _ _ _ _ h)
theorem w_M_ones (cuts : List Nat) {d : Nat} {Q : Option Value → List va_E → Prop} {pc : Nat} {ls : List (Option Value)} {st : List Value} {σ : List va_E} {uc us : Nat} (h : zX gM_ones false pM kM_ones cuts d Q 400 true pc ls st σ uc us) : zGood gM_ones d Q pc ls st σ uc us := zX_s (fun q => by cases q) PM KM_ones 400 true pc _ _ _ _ _ h
theorem m_M_off (cuts : List Nat) {d : Nat} {Q : Option Value → List va_E → Prop} {av : List Value} {σ : List va_E} (hc : zC1 av = true) (hl : av.length ≤ 2) (h : zX gM_off false pM kM_off cuts d Q 400 true 0 (zArgs 2 av) [] σ 0 0) : zRuns gM_off d av σ Q := zEnter (by decide +kernel) hc hl (zX_s (fun q => by cases q) PM KM_off 400 true 0 _ _ _ _ _ h)
theorem w_M_off (cuts : List Nat) {d : Nat} {Q : Option Value → List va_E → Prop} {pc : Nat} {ls : List (Option Value)} {st : List Value} {σ : List va_E} {uc us : Nat} (h : zX gM_off false pM kM_off cuts d Q 400 true pc ls st σ uc us) : zGood gM_off d Q pc ls st σ uc us := zX_s (fun q => by cases q) PM KM_off 400 true pc _ _ _ _ _ h
theorem m_M_feed (cuts : List Nat) {d : Nat} {Q : Option Value → List va_E → Prop} {av : List Value} {σ : List va_E} (hc : zC1 av = true) (hl : av.length ≤ 2) (h : zX gM_feed false pM kM_feed cuts d Q 400 true 0 (zArgs 2 av) [] σ 0 0) : zRuns gM_feed d av σ Q := zEnter (by decide +kernel) hc hl (zX_s (fun q => by cases q) PM KM_feed 400 true 0 _ _ _ _ _ h)
theorem w_M_feed (cuts : List Nat) {d : Nat} {Q : Option Value → List va_E → Prop} {pc : Nat} {ls : List (Option Value)} {st : List Value} {σ : List va_E} {uc us : Nat} (h : zX gM_feed false pM kM_feed cuts d Q 400 true pc ls st σ uc us) : zGood gM_feed d Q pc ls st σ uc us := zX_s (fun q => by cases q) PM KM_feed 400 true pc _ _ _ _ _ h
theorem m_M_look (cuts : List Nat) {d : Nat} {Q : Option Value → List va_E → Prop} {av : List Value} {σ : List va_E} (hc : zC1 av = true) (hl : av.length ≤ 1) (h : zX gM_look false pM kM_look cuts d Q 400 true 0 (zArgs 1 av) [] σ 0 0) : zRuns gM_look d av σ Q := zEnter (by decide +kernel) hc hl (zX_s (fun q => by cases q) PM KM_look 400 true 0 _ _ _ _ _ h)
theorem w_M_look (cuts : List Nat) {d : Nat} {Q : Option Value → List va_E → Prop} {pc : Nat} {ls : List (Option Value)} {st : List Value} {σ : List va_E} {uc us : Nat} (h : zX gM_look false pM kM_look cuts d Q 400 true pc ls st σ uc us) : zGood gM_look d Q pc ls st σ uc us := zX_s (fun q => by cases q) PM KM_look 400 true pc _ _ _ _ _ h
theorem m_M_skips (cuts : List Nat) {d : Nat} {Q : Option Value → List va_E → Prop} {av : List Value} {σ : List va_E} (hc : zC1 av = true) (hl : av.length ≤ 1) (h : zX gM_skips false pM kM_skips cuts d Q 400 true 0 (zArgs 1 av) [] σ 0 0) : zRuns gM_skips d av σ Q := zEnter (by decide +kernel) hc hl (zX_s (fun q => by cases q) PM KM_skips 400 true 0 _ _ _ _ _ h)
theorem w_M_skips (cuts : List Nat) {d : Nat} {Q : Option Value → List va_E → Prop} {pc : Nat} {ls : List (Option Value)} {st : List Value} {σ : List va_E} {uc us : Nat} (h : zX gM_skips false pM kM_skips cuts d Q 400 true pc ls st σ uc us) : zGood gM_skips d Q pc ls st σ uc us := zX_s (fun q => by cases q) PM KM_skips 400 true pc _ _ _ _ _ h
theorem m_M_fails (cuts : List Nat) {d : Nat} {Q : Option Value → List va_E → Prop} {av : List Value} {σ : List va_E} (hc : zC1 av = true) (hl : av.length ≤ 2) (h : zX gM_fails false pM kM_fails cuts d Q 400 true 0 (zArgs 2 av) [] σ 0 0) : zRuns gM_fails d av σ Q := zEnter (by decide +kernel) hc hl (zX_s (fun q => by cases q) PM KM_fails 400 true 0 _ _ _ _ _ h)
theorem w_M_fails (cuts : List Nat) {d : Nat} {Q : Option Value → List va_E → Prop} {pc : Nat} {ls : List (Option Value)} {st : List Value} {σ : List va_E} {uc us : Nat} (h : zX gM_fails false pM kM_fails cuts d Q 400 true pc ls st σ uc us) : zGood gM_fails d Q pc ls st σ uc us := zX_s (fun q => by cases q) PM KM_fails 400 true pc _ _ _ _ _ h
theorem m_M_word (cuts : List Nat) {d : Nat} {Q : Option Value → List va_E → Prop} {av : List Value} {σ : List va_E} (hc : zC1 av = true) (hl : av.length ≤ 2) (h : zX gM_word false pM kM_word cuts d Q 400 true 0 (zArgs 2 av) [] σ 0 0) : zRuns gM_word d av σ Q := zEnter (by decide +kernel) hc hl (zX_s (fun q => by cases q) PM KM_word 400 true 0 _ _ _ _ _ h)
theorem w_M_word (cuts : List Nat) {d : Nat} {Q : Option Value → List va_E → Prop} {pc : Nat} {ls : List (Option Value)} {st : List Value} {σ : List va_E} {uc us : Nat} (h : zX gM_word false pM kM_word cuts d Q 400 true pc ls st σ uc us) : zGood gM_word d Q pc ls st σ uc us := zX_s (fun q => by cases q) PM KM_word 400 true pc _ _ _ _ _ h
theorem m_M_number (cuts : List Nat) {d : Nat} {Q : Option Value → List va_E → Prop} {av : List Value} {σ : List va_E} (hc : zC1 av = true) (hl : av.length ≤ 5) (h : zX gM_number false pM kM_number cuts d Q 400 true 0 (zArgs 5 av) [] σ 0 0) : zRuns gM_number d av σ Q := zEnter (by decide +kernel) hc hl (zX_s (fun q => by cases q) PM KM_number 400 true 0 _ _ _ _ _ h)
theorem w_M_number (cuts : List Nat) {d : Nat} {Q : Option Value → List va_E → Prop} {pc : Nat} {ls : List (Option Value)} {st : List Value} {σ : List va_E} {uc us : Nat} (h : zX gM_number false pM kM_number cuts d Q 400 true pc ls st σ uc us) : zGood gM_number d Q pc ls st σ uc us := zX_s (fun q => by cases q) PM KM_number 400 true pc _ _ _ _ _ h
theorem m_M_readsMan (cuts : List Nat) {d : Nat} {Q : Option Value → List va_E → Prop} {av : List Value} {σ : List va_E} (hc : zC1 av = true) (hl : av.length ≤ 5) (h : zX gM_readsMan false pM kM_readsMan cuts d Q 400 true 0 (zArgs 5 av) [] σ 0 0) : zRuns gM_readsMan d av σ Q := zEnter (by decide +kernel) hc hl (zX_s (fun q => by cases q) PM KM_readsMan 400 true 0 _ _ _ _ _ h)
theorem w_M_readsMan (cuts : List Nat) {d : Nat} {Q : Option Value → List va_E → Prop} {pc : Nat} {ls : List (Option Value)} {st : List Value} {σ : List va_E} {uc us : Nat} (h : zX gM_readsMan false pM kM_readsMan cuts d Q 400 true pc ls st σ uc us) : zGood gM_readsMan d Q pc ls st σ uc us := zX_s (fun q => by cases q) PM KM_readsMan 400 true pc _ _ _ _ _ h
theorem m_M_readsMishap (cuts : List Nat) {d : Nat} {Q : Option Value → List va_E → Prop} {av : List Value} {σ : List va_E} (hc : zC1 av = true) (hl : av.length ≤ 4) (h : zX gM_readsMishap false pM kM_readsMishap cuts d Q 400 true 0 (zArgs 4 av) [] σ 0 0) : zRuns gM_readsMishap d av σ Q := zEnter (by decide +kernel) hc hl (zX_s (fun q => by cases q) PM KM_readsMishap 400 true 0 _ _ _ _ _ h)
theorem w_M_readsMishap (cuts : List Nat) {d : Nat} {Q : Option Value → List va_E → Prop} {pc : Nat} {ls : List (Option Value)} {st : List Value} {σ : List va_E} {uc us : Nat} (h : zX gM_readsMishap false pM kM_readsMishap cuts d Q 400 true pc ls st σ uc us) : zGood gM_readsMishap d Q pc ls st σ uc us := zX_s (fun q => by cases q) PM KM_readsMishap 400 true pc _ _ _ _ _ h
theorem m_M_reads (cuts : List Nat) {d : Nat} {Q : Option Value → List va_E → Prop} {av : List Value} {σ : List va_E} (hc : zC1 av = true) (hl : av.length ≤ 1) (h : zX gM_reads false pM kM_reads cuts d Q 400 true 0 (zArgs 1 av) [] σ 0 0) : zRuns gM_reads d av σ Q := zEnter (by decide +kernel) hc hl (zX_s (fun q => by cases q) PM KM_reads 400 true 0 _ _ _ _ _ h)
theorem w_M_reads (cuts : List Nat) {d : Nat} {Q : Option Value → List va_E → Prop} {pc : Nat} {ls : List (Option Value)} {st : List Value} {σ : List va_E} {uc us : Nat} (h : zX gM_reads false pM kM_reads cuts d Q 400 true pc ls st σ uc us) : zGood gM_reads d Q pc ls st σ uc us := zX_s (fun q => by cases q) PM KM_reads 400 true pc _ _ _ _ _ h
theorem m_M_skipsIfWell (cuts : List Nat) {d : Nat} {Q : Option Value → List va_E → Prop} {av : List Value} {σ : List va_E} (hc : zC1 av = true) (hl : av.length ≤ 1) (h : zX gM_skipsIfWell false pM kM_skipsIfWell cuts d Q 400 true 0 (zArgs 1 av) [] σ 0 0) : zRuns gM_skipsIfWell d av σ Q := zEnter (by decide +kernel) hc hl (zX_s (fun q => by cases q) PM KM_skipsIfWell 400 true 0 _ _ _ _ _ h)
theorem w_M_skipsIfWell (cuts : List Nat) {d : Nat} {Q : Option Value → List va_E → Prop} {pc : Nat} {ls : List (Option Value)} {st : List Value} {σ : List va_E} {uc us : Nat} (h : zX gM_skipsIfWell false pM kM_skipsIfWell cuts d Q 400 true pc ls st σ uc us) : zGood gM_skipsIfWell d Q pc ls st σ uc us := zX_s (fun q => by cases q) PM KM_skipsIfWell 400 true pc _ _ _ _ _ h
theorem m_M_takes (cuts : List Nat) {d : Nat} {Q : Option Value → List va_E → Prop} {av : List Value} {σ : List va_E} (hc : zC1 av = true) (hl : av.length ≤ 2) (h : zX gM_takes false pM kM_takes cuts d Q 400 true 0 (zArgs 2 av) [] σ 0 0) : zRuns gM_takes d av σ Q := zEnter (by decide +kernel) hc hl (zX_s (fun q => by cases q) PM KM_takes 400 true 0 _ _ _ _ _ h)
theorem w_M_takes (cuts : List Nat) {d : Nat} {Q : Option Value → List va_E → Prop} {pc : Nat} {ls : List (Option Value)} {st : List Value} {σ : List va_E} {uc us : Nat} (h : zX gM_takes false pM kM_takes cuts d Q 400 true pc ls st σ uc us) : zGood gM_takes d Q pc ls st σ uc us := zX_s (fun q => by cases q) PM KM_takes 400 true pc _ _ _ _ _ h
theorem m_M_town (cuts : List Nat) {d : Nat} {Q : Option Value → List va_E → Prop} {av : List Value} {σ : List va_E} (hc : zC1 av = true) (hl : av.length ≤ 3) (h : zX gM_town false pM kM_town cuts d Q 400 true 0 (zArgs 3 av) [] σ 0 0) : zRuns gM_town d av σ Q := zEnter (by decide +kernel) hc hl (zX_s (fun q => by cases q) PM KM_town 400 true 0 _ _ _ _ _ h)
theorem w_M_town (cuts : List Nat) {d : Nat} {Q : Option Value → List va_E → Prop} {pc : Nat} {ls : List (Option Value)} {st : List Value} {σ : List va_E} {uc us : Nat} (h : zX gM_town false pM kM_town cuts d Q 400 true pc ls st σ uc us) : zGood gM_town d Q pc ls st σ uc us := zX_s (fun q => by cases q) PM KM_town 400 true pc _ _ _ _ _ h
theorem m_M_fault (cuts : List Nat) {d : Nat} {Q : Option Value → List va_E → Prop} {av : List Value} {σ : List va_E} (hc : zC1 av = true) (hl : av.length ≤ 1) (h : zX gM_fault false pM kM_fault cuts d Q 400 true 0 (zArgs 1 av) [] σ 0 0) : zRuns gM_fault d av σ Q := zEnter (by decide +kernel) hc hl (zX_s (fun q => by cases q) PM KM_fault 400 true 0 _ _ _ _ _ h)
theorem w_M_fault (cuts : List Nat) {d : Nat} {Q : Option Value → List va_E → Prop} {pc : Nat} {ls : List (Option Value)} {st : List Value} {σ : List va_E} {uc us : Nat} (h : zX gM_fault false pM kM_fault cuts d Q 400 true pc ls st σ uc us) : zGood gM_fault d Q pc ls st σ uc us := zX_s (fun q => by cases q) PM KM_fault 400 true pc _ _ _ _ _ h
theorem m_M_isMan (cuts : List Nat) {d : Nat} {Q : Option Value → List va_E → Prop} {av : List Value} {σ : List va_E} (hc : zC1 av = true) (hl : av.length ≤ 2) (h : zX gM_isMan false pM kM_isMan cuts d Q 400 true 0 (zArgs 2 av) [] σ 0 0) : zRuns gM_isMan d av σ Q := zEnter (by decide +kernel) hc hl (zX_s (fun q => by cases q) PM KM_isMan 400 true 0 _ _ _ _ _ h)
theorem w_M_isMan (cuts : List Nat) {d : Nat} {Q : Option Value → List va_E → Prop} {pc : Nat} {ls : List (Option Value)} {st : List Value} {σ : List va_E} {uc us : Nat} (h : zX gM_isMan false pM kM_isMan cuts d Q 400 true pc ls st σ uc us) : zGood gM_isMan d Q pc ls st σ uc us := zX_s (fun q => by cases q) PM KM_isMan 400 true pc _ _ _ _ _ h
theorem m_M_isMishap (cuts : List Nat) {d : Nat} {Q : Option Value → List va_E → Prop} {av : List Value} {σ : List va_E} (hc : zC1 av = true) (hl : av.length ≤ 2) (h : zX gM_isMishap false pM kM_isMishap cuts d Q 400 true 0 (zArgs 2 av) [] σ 0 0) : zRuns gM_isMishap d av σ Q := zEnter (by decide +kernel) hc hl (zX_s (fun q => by cases q) PM KM_isMishap 400 true 0 _ _ _ _ _ h)
theorem w_M_isMishap (cuts : List Nat) {d : Nat} {Q : Option Value → List va_E → Prop} {pc : Nat} {ls : List (Option Value)} {st : List Value} {σ : List va_E} {uc us : Nat} (h : zX gM_isMishap false pM kM_isMishap cuts d Q 400 true pc ls st σ uc us) : zGood gM_isMishap d Q pc ls st σ uc us := zX_s (fun q => by cases q) PM KM_isMishap 400 true pc _ _ _ _ _ h
theorem m_M_blamedFor (cuts : List Nat) {d : Nat} {Q : Option Value → List va_E → Prop} {av : List Value} {σ : List va_E} (hc : zC1 av = true) (hl : av.length ≤ 2) (h : zX gM_blamedFor false pM kM_blamedFor cuts d Q 400 true 0 (zArgs 2 av) [] σ 0 0) : zRuns gM_blamedFor d av σ Q := zEnter (by decide +kernel) hc hl (zX_s (fun q => by cases q) PM KM_blamedFor 400 true 0 _ _ _ _ _ h)
theorem w_M_blamedFor (cuts : List Nat) {d : Nat} {Q : Option Value → List va_E → Prop} {pc : Nat} {ls : List (Option Value)} {st : List Value} {σ : List va_E} {uc us : Nat} (h : zX gM_blamedFor false pM kM_blamedFor cuts d Q 400 true pc ls st σ uc us) : zGood gM_blamedFor d Q pc ls st σ uc us := zX_s (fun q => by cases q) PM KM_blamedFor 400 true pc _ _ _ _ _ h
theorem m_M_free (cuts : List Nat) {d : Nat} {Q : Option Value → List va_E → Prop} {av : List Value} {σ : List va_E} (hc : zC1 av = true) (hl : av.length ≤ 2) (h : zX gM_free false pM kM_free cuts d Q 400 true 0 (zArgs 2 av) [] σ 0 0) : zRuns gM_free d av σ Q := zEnter (by decide +kernel) hc hl (zX_s (fun q => by cases q) PM KM_free 400 true 0 _ _ _ _ _ h)
theorem w_M_free (cuts : List Nat) {d : Nat} {Q : Option Value → List va_E → Prop} {pc : Nat} {ls : List (Option Value)} {st : List Value} {σ : List va_E} {uc us : Nat} (h : zX gM_free false pM kM_free cuts d Q 400 true pc ls st σ uc us) : zGood gM_free d Q pc ls st σ uc us := zX_s (fun q => by cases q) PM KM_free 400 true pc _ _ _ _ _ h
theorem m_M_allFree (cuts : List Nat) {d : Nat} {Q : Option Value → List va_E → Prop} {av : List Value} {σ : List va_E} (hc : zC1 av = true) (hl : av.length ≤ 3) (h : zX gM_allFree false pM kM_allFree cuts d Q 400 true 0 (zArgs 3 av) [] σ 0 0) : zRuns gM_allFree d av σ Q := zEnter (by decide +kernel) hc hl (zX_s (fun q => by cases q) PM KM_allFree 400 true 0 _ _ _ _ _ h)
theorem w_M_allFree (cuts : List Nat) {d : Nat} {Q : Option Value → List va_E → Prop} {pc : Nat} {ls : List (Option Value)} {st : List Value} {σ : List va_E} {uc us : Nat} (h : zX gM_allFree false pM kM_allFree cuts d Q 400 true pc ls st σ uc us) : zGood gM_allFree d Q pc ls st σ uc us := zX_s (fun q => by cases q) PM KM_allFree 400 true pc _ _ _ _ _ h
theorem m_M_told (cuts : List Nat) {d : Nat} {Q : Option Value → List va_E → Prop} {av : List Value} {σ : List va_E} (hc : zC1 av = true) (hl : av.length ≤ 2) (h : zX gM_told false pM kM_told cuts d Q 400 true 0 (zArgs 2 av) [] σ 0 0) : zRuns gM_told d av σ Q := zEnter (by decide +kernel) hc hl (zX_s (fun q => by cases q) PM KM_told 400 true 0 _ _ _ _ _ h)
theorem w_M_told (cuts : List Nat) {d : Nat} {Q : Option Value → List va_E → Prop} {pc : Nat} {ls : List (Option Value)} {st : List Value} {σ : List va_E} {uc us : Nat} (h : zX gM_told false pM kM_told cuts d Q 400 true pc ls st σ uc us) : zGood gM_told d Q pc ls st σ uc us := zX_s (fun q => by cases q) PM KM_told 400 true pc _ _ _ _ _ h
theorem m_M_blamesOf (cuts : List Nat) {d : Nat} {Q : Option Value → List va_E → Prop} {av : List Value} {σ : List va_E} (hc : zC1 av = true) (hl : av.length ≤ 4) (h : zX gM_blamesOf false pM kM_blamesOf cuts d Q 400 true 0 (zArgs 4 av) [] σ 0 0) : zRuns gM_blamesOf d av σ Q := zEnter (by decide +kernel) hc hl (zX_s (fun q => by cases q) PM KM_blamesOf 400 true 0 _ _ _ _ _ h)
theorem w_M_blamesOf (cuts : List Nat) {d : Nat} {Q : Option Value → List va_E → Prop} {pc : Nat} {ls : List (Option Value)} {st : List Value} {σ : List va_E} {uc us : Nat} (h : zX gM_blamesOf false pM kM_blamesOf cuts d Q 400 true pc ls st σ uc us) : zGood gM_blamesOf d Q pc ls st σ uc us := zX_s (fun q => by cases q) PM KM_blamesOf 400 true pc _ _ _ _ _ h
theorem m_M_man (cuts : List Nat) {d : Nat} {Q : Option Value → List va_E → Prop} {av : List Value} {σ : List va_E} (hc : zC1 av = true) (hl : av.length ≤ 3) (h : zX gM_man false pM kM_man cuts d Q 400 true 0 (zArgs 3 av) [] σ 0 0) : zRuns gM_man d av σ Q := zEnter (by decide +kernel) hc hl (zX_s (fun q => by cases q) PM KM_man 400 true 0 _ _ _ _ _ h)
theorem w_M_man (cuts : List Nat) {d : Nat} {Q : Option Value → List va_E → Prop} {pc : Nat} {ls : List (Option Value)} {st : List Value} {σ : List va_E} {uc us : Nat} (h : zX gM_man false pM kM_man cuts d Q 400 true pc ls st σ uc us) : zGood gM_man d Q pc ls st σ uc us := zX_s (fun q => by cases q) PM KM_man 400 true pc _ _ _ _ _ h
theorem m_M_mishap (cuts : List Nat) {d : Nat} {Q : Option Value → List va_E → Prop} {av : List Value} {σ : List va_E} (hc : zC1 av = true) (hl : av.length ≤ 3) (h : zX gM_mishap false pM kM_mishap cuts d Q 400 true 0 (zArgs 3 av) [] σ 0 0) : zRuns gM_mishap d av σ Q := zEnter (by decide +kernel) hc hl (zX_s (fun q => by cases q) PM KM_mishap 400 true 0 _ _ _ _ _ h)
theorem w_M_mishap (cuts : List Nat) {d : Nat} {Q : Option Value → List va_E → Prop} {pc : Nat} {ls : List (Option Value)} {st : List Value} {σ : List va_E} {uc us : Nat} (h : zX gM_mishap false pM kM_mishap cuts d Q 400 true pc ls st σ uc us) : zGood gM_mishap d Q pc ls st σ uc us := zX_s (fun q => by cases q) PM KM_mishap 400 true pc _ _ _ _ _ h
theorem m_M_whereIs (cuts : List Nat) {d : Nat} {Q : Option Value → List va_E → Prop} {av : List Value} {σ : List va_E} (hc : zC1 av = true) (hl : av.length ≤ 3) (h : zX gM_whereIs false pM kM_whereIs cuts d Q 400 true 0 (zArgs 3 av) [] σ 0 0) : zRuns gM_whereIs d av σ Q := zEnter (by decide +kernel) hc hl (zX_s (fun q => by cases q) PM KM_whereIs 400 true 0 _ _ _ _ _ h)
theorem w_M_whereIs (cuts : List Nat) {d : Nat} {Q : Option Value → List va_E → Prop} {pc : Nat} {ls : List (Option Value)} {st : List Value} {σ : List va_E} {uc us : Nat} (h : zX gM_whereIs false pM kM_whereIs cuts d Q 400 true pc ls st σ uc us) : zGood gM_whereIs d Q pc ls st σ uc us := zX_s (fun q => by cases q) PM KM_whereIs 400 true pc _ _ _ _ _ h
theorem m_M_isNear (cuts : List Nat) {d : Nat} {Q : Option Value → List va_E → Prop} {av : List Value} {σ : List va_E} (hc : zC1 av = true) (hl : av.length ≤ 3) (h : zX gM_isNear false pM kM_isNear cuts d Q 400 true 0 (zArgs 3 av) [] σ 0 0) : zRuns gM_isNear d av σ Q := zEnter (by decide +kernel) hc hl (zX_s (fun q => by cases q) PM KM_isNear 400 true 0 _ _ _ _ _ h)
theorem w_M_isNear (cuts : List Nat) {d : Nat} {Q : Option Value → List va_E → Prop} {pc : Nat} {ls : List (Option Value)} {st : List Value} {σ : List va_E} {uc us : Nat} (h : zX gM_isNear false pM kM_isNear cuts d Q 400 true pc ls st σ uc us) : zGood gM_isNear d Q pc ls st σ uc us := zX_s (fun q => by cases q) PM KM_isNear 400 true pc _ _ _ _ _ h
theorem m_M_can (cuts : List Nat) {d : Nat} {Q : Option Value → List va_E → Prop} {av : List Value} {σ : List va_E} (hc : zC1 av = true) (hl : av.length ≤ 3) (h : zX gM_can false pM kM_can cuts d Q 400 true 0 (zArgs 3 av) [] σ 0 0) : zRuns gM_can d av σ Q := zEnter (by decide +kernel) hc hl (zX_s (fun q => by cases q) PM KM_can 400 true 0 _ _ _ _ _ h)
theorem w_M_can (cuts : List Nat) {d : Nat} {Q : Option Value → List va_E → Prop} {pc : Nat} {ls : List (Option Value)} {st : List Value} {σ : List va_E} {uc us : Nat} (h : zX gM_can false pM kM_can cuts d Q 400 true pc ls st σ uc us) : zGood gM_can d Q pc ls st σ uc us := zX_s (fun q => by cases q) PM KM_can 400 true pc _ _ _ _ _ h
theorem m_M_beliefAt (cuts : List Nat) {d : Nat} {Q : Option Value → List va_E → Prop} {av : List Value} {σ : List va_E} (hc : zC1 av = true) (hl : av.length ≤ 6) (h : zX gM_beliefAt false pM kM_beliefAt cuts d Q 400 true 0 (zArgs 6 av) [] σ 0 0) : zRuns gM_beliefAt d av σ Q := zEnter (by decide +kernel) hc hl (zX_s (fun q => by cases q) PM KM_beliefAt 400 true 0 _ _ _ _ _ h)
theorem w_M_beliefAt (cuts : List Nat) {d : Nat} {Q : Option Value → List va_E → Prop} {pc : Nat} {ls : List (Option Value)} {st : List Value} {σ : List va_E} {uc us : Nat} (h : zX gM_beliefAt false pM kM_beliefAt cuts d Q 400 true pc ls st σ uc us) : zGood gM_beliefAt d Q pc ls st σ uc us := zX_s (fun q => by cases q) PM KM_beliefAt 400 true pc _ _ _ _ _ h
theorem m_M_fits (cuts : List Nat) {d : Nat} {Q : Option Value → List va_E → Prop} {av : List Value} {σ : List va_E} (hc : zC1 av = true) (hl : av.length ≤ 4) (h : zX gM_fits false pM kM_fits cuts d Q 400 true 0 (zArgs 4 av) [] σ 0 0) : zRuns gM_fits d av σ Q := zEnter (by decide +kernel) hc hl (zX_s (fun q => by cases q) PM KM_fits 400 true 0 _ _ _ _ _ h)
theorem w_M_fits (cuts : List Nat) {d : Nat} {Q : Option Value → List va_E → Prop} {pc : Nat} {ls : List (Option Value)} {st : List Value} {σ : List va_E} {uc us : Nat} (h : zX gM_fits false pM kM_fits cuts d Q 400 true pc ls st σ uc us) : zGood gM_fits d Q pc ls st σ uc us := zX_s (fun q => by cases q) PM KM_fits 400 true pc _ _ _ _ _ h
theorem m_M_belief (cuts : List Nat) {d : Nat} {Q : Option Value → List va_E → Prop} {av : List Value} {σ : List va_E} (hc : zC1 av = true) (hl : av.length ≤ 3) (h : zX gM_belief false pM kM_belief cuts d Q 400 true 0 (zArgs 3 av) [] σ 0 0) : zRuns gM_belief d av σ Q := zEnter (by decide +kernel) hc hl (zX_s (fun q => by cases q) PM KM_belief 400 true 0 _ _ _ _ _ h)
theorem w_M_belief (cuts : List Nat) {d : Nat} {Q : Option Value → List va_E → Prop} {pc : Nat} {ls : List (Option Value)} {st : List Value} {σ : List va_E} {uc us : Nat} (h : zX gM_belief false pM kM_belief cuts d Q 400 true pc ls st σ uc us) : zGood gM_belief d Q pc ls st σ uc us := zX_s (fun q => by cases q) PM KM_belief 400 true pc _ _ _ _ _ h
theorem m_M_areFar (cuts : List Nat) {d : Nat} {Q : Option Value → List va_E → Prop} {av : List Value} {σ : List va_E} (hc : zC1 av = true) (hl : av.length ≤ 3) (h : zX gM_areFar false pM kM_areFar cuts d Q 400 true 0 (zArgs 3 av) [] σ 0 0) : zRuns gM_areFar d av σ Q := zEnter (by decide +kernel) hc hl (zX_s (fun q => by cases q) PM KM_areFar 400 true 0 _ _ _ _ _ h)
theorem w_M_areFar (cuts : List Nat) {d : Nat} {Q : Option Value → List va_E → Prop} {pc : Nat} {ls : List (Option Value)} {st : List Value} {σ : List va_E} {uc us : Nat} (h : zX gM_areFar false pM kM_areFar cuts d Q 400 true pc ls st σ uc us) : zGood gM_areFar d Q pc ls st σ uc us := zX_s (fun q => by cases q) PM KM_areFar 400 true pc _ _ _ _ _ h
theorem m_M_mayBe (cuts : List Nat) {d : Nat} {Q : Option Value → List va_E → Prop} {av : List Value} {σ : List va_E} (hc : zC1 av = true) (hl : av.length ≤ 5) (h : zX gM_mayBe false pM kM_mayBe cuts d Q 400 true 0 (zArgs 5 av) [] σ 0 0) : zRuns gM_mayBe d av σ Q := zEnter (by decide +kernel) hc hl (zX_s (fun q => by cases q) PM KM_mayBe 400 true 0 _ _ _ _ _ h)
theorem w_M_mayBe (cuts : List Nat) {d : Nat} {Q : Option Value → List va_E → Prop} {pc : Nat} {ls : List (Option Value)} {st : List Value} {σ : List va_E} {uc us : Nat} (h : zX gM_mayBe false pM kM_mayBe cuts d Q 400 true pc ls st σ uc us) : zGood gM_mayBe d Q pc ls st σ uc us := zX_s (fun q => by cases q) PM KM_mayBe 400 true pc _ _ _ _ _ h
theorem m_M_mayFor (cuts : List Nat) {d : Nat} {Q : Option Value → List va_E → Prop} {av : List Value} {σ : List va_E} (hc : zC1 av = true) (hl : av.length ≤ 4) (h : zX gM_mayFor false pM kM_mayFor cuts d Q 400 true 0 (zArgs 4 av) [] σ 0 0) : zRuns gM_mayFor d av σ Q := zEnter (by decide +kernel) hc hl (zX_s (fun q => by cases q) PM KM_mayFor 400 true 0 _ _ _ _ _ h)
theorem w_M_mayFor (cuts : List Nat) {d : Nat} {Q : Option Value → List va_E → Prop} {pc : Nat} {ls : List (Option Value)} {st : List Value} {σ : List va_E} {uc us : Nat} (h : zX gM_mayFor false pM kM_mayFor cuts d Q 400 true pc ls st σ uc us) : zGood gM_mayFor d Q pc ls st σ uc us := zX_s (fun q => by cases q) PM KM_mayFor 400 true pc _ _ _ _ _ h
theorem m_M_copies (cuts : List Nat) {d : Nat} {Q : Option Value → List va_E → Prop} {av : List Value} {σ : List va_E} (hc : zC1 av = true) (hl : av.length ≤ 5) (h : zX gM_copies false pM kM_copies cuts d Q 400 true 0 (zArgs 5 av) [] σ 0 0) : zRuns gM_copies d av σ Q := zEnter (by decide +kernel) hc hl (zX_s (fun q => by cases q) PM KM_copies 400 true 0 _ _ _ _ _ h)
theorem w_M_copies (cuts : List Nat) {d : Nat} {Q : Option Value → List va_E → Prop} {pc : Nat} {ls : List (Option Value)} {st : List Value} {σ : List va_E} {uc us : Nat} (h : zX gM_copies false pM kM_copies cuts d Q 400 true pc ls st σ uc us) : zGood gM_copies d Q pc ls st σ uc us := zX_s (fun q => by cases q) PM KM_copies 400 true pc _ _ _ _ _ h
theorem m_M_notes (cuts : List Nat) {d : Nat} {Q : Option Value → List va_E → Prop} {av : List Value} {σ : List va_E} (hc : zC1 av = true) (hl : av.length ≤ 2) (h : zX gM_notes false pM kM_notes cuts d Q 400 true 0 (zArgs 2 av) [] σ 0 0) : zRuns gM_notes d av σ Q := zEnter (by decide +kernel) hc hl (zX_s (fun q => by cases q) PM KM_notes 400 true 0 _ _ _ _ _ h)
theorem w_M_notes (cuts : List Nat) {d : Nat} {Q : Option Value → List va_E → Prop} {pc : Nat} {ls : List (Option Value)} {st : List Value} {σ : List va_E} {uc us : Nat} (h : zX gM_notes false pM kM_notes cuts d Q 400 true pc ls st σ uc us) : zGood gM_notes d Q pc ls st σ uc us := zX_s (fun q => by cases q) PM KM_notes 400 true pc _ _ _ _ _ h
theorem m_M_blames (cuts : List Nat) {d : Nat} {Q : Option Value → List va_E → Prop} {av : List Value} {σ : List va_E} (hc : zC1 av = true) (hl : av.length ≤ 3) (h : zX gM_blames false pM kM_blames cuts d Q 400 true 0 (zArgs 3 av) [] σ 0 0) : zRuns gM_blames d av σ Q := zEnter (by decide +kernel) hc hl (zX_s (fun q => by cases q) PM KM_blames 400 true 0 _ _ _ _ _ h)
theorem w_M_blames (cuts : List Nat) {d : Nat} {Q : Option Value → List va_E → Prop} {pc : Nat} {ls : List (Option Value)} {st : List Value} {σ : List va_E} {uc us : Nat} (h : zX gM_blames false pM kM_blames cuts d Q 400 true pc ls st σ uc us) : zGood gM_blames d Q pc ls st σ uc us := zX_s (fun q => by cases q) PM KM_blames 400 true pc _ _ _ _ _ h
theorem m_M_blame (cuts : List Nat) {d : Nat} {Q : Option Value → List va_E → Prop} {av : List Value} {σ : List va_E} (hc : zC1 av = true) (hl : av.length ≤ 3) (h : zX gM_blame false pM kM_blame cuts d Q 400 true 0 (zArgs 3 av) [] σ 0 0) : zRuns gM_blame d av σ Q := zEnter (by decide +kernel) hc hl (zX_s (fun q => by cases q) PM KM_blame 400 true 0 _ _ _ _ _ h)
theorem w_M_blame (cuts : List Nat) {d : Nat} {Q : Option Value → List va_E → Prop} {pc : Nat} {ls : List (Option Value)} {st : List Value} {σ : List va_E} {uc us : Nat} (h : zX gM_blame false pM kM_blame cuts d Q 400 true pc ls st σ uc us) : zGood gM_blame d Q pc ls st σ uc us := zX_s (fun q => by cases q) PM KM_blame 400 true pc _ _ _ _ _ h
theorem m_M_clear (cuts : List Nat) {d : Nat} {Q : Option Value → List va_E → Prop} {av : List Value} {σ : List va_E} (hc : zC1 av = true) (hl : av.length ≤ 3) (h : zX gM_clear false pM kM_clear cuts d Q 400 true 0 (zArgs 3 av) [] σ 0 0) : zRuns gM_clear d av σ Q := zEnter (by decide +kernel) hc hl (zX_s (fun q => by cases q) PM KM_clear 400 true 0 _ _ _ _ _ h)
theorem w_M_clear (cuts : List Nat) {d : Nat} {Q : Option Value → List va_E → Prop} {pc : Nat} {ls : List (Option Value)} {st : List Value} {σ : List va_E} {uc us : Nat} (h : zX gM_clear false pM kM_clear cuts d Q 400 true pc ls st σ uc us) : zGood gM_clear d Q pc ls st σ uc us := zX_s (fun q => by cases q) PM KM_clear 400 true pc _ _ _ _ _ h
theorem m_M_walk (cuts : List Nat) {d : Nat} {Q : Option Value → List va_E → Prop} {av : List Value} {σ : List va_E} (hc : zC1 av = true) (hl : av.length ≤ 6) (h : zX gM_walk false pM kM_walk cuts d Q 400 true 0 (zArgs 6 av) [] σ 0 0) : zRuns gM_walk d av σ Q := zEnter (by decide +kernel) hc hl (zX_s (fun q => by cases q) PM KM_walk 400 true 0 _ _ _ _ _ h)
theorem w_M_walk (cuts : List Nat) {d : Nat} {Q : Option Value → List va_E → Prop} {pc : Nat} {ls : List (Option Value)} {st : List Value} {σ : List va_E} {uc us : Nat} (h : zX gM_walk false pM kM_walk cuts d Q 400 true pc ls st σ uc us) : zGood gM_walk d Q pc ls st σ uc us := zX_s (fun q => by cases q) PM KM_walk 400 true pc _ _ _ _ _ h
theorem m_M_sets (cuts : List Nat) {d : Nat} {Q : Option Value → List va_E → Prop} {av : List Value} {σ : List va_E} (hc : zC1 av = true) (hl : av.length ≤ 3) (h : zX gM_sets false pM kM_sets cuts d Q 400 true 0 (zArgs 3 av) [] σ 0 0) : zRuns gM_sets d av σ Q := zEnter (by decide +kernel) hc hl (zX_s (fun q => by cases q) PM KM_sets 400 true 0 _ _ _ _ _ h)
theorem w_M_sets (cuts : List Nat) {d : Nat} {Q : Option Value → List va_E → Prop} {pc : Nat} {ls : List (Option Value)} {st : List Value} {σ : List va_E} {uc us : Nat} (h : zX gM_sets false pM kM_sets cuts d Q 400 true pc ls st σ uc us) : zGood gM_sets d Q pc ls st σ uc us := zX_s (fun q => by cases q) PM KM_sets 400 true pc _ _ _ _ _ h
theorem m_M_sunset (cuts : List Nat) {d : Nat} {Q : Option Value → List va_E → Prop} {av : List Value} {σ : List va_E} (hc : zC1 av = true) (hl : av.length ≤ 1) (h : zX gM_sunset false pM kM_sunset cuts d Q 400 true 0 (zArgs 1 av) [] σ 0 0) : zRuns gM_sunset d av σ Q := zEnter (by decide +kernel) hc hl (zX_s (fun q => by cases q) PM KM_sunset 400 true 0 _ _ _ _ _ h)
theorem w_M_sunset (cuts : List Nat) {d : Nat} {Q : Option Value → List va_E → Prop} {pc : Nat} {ls : List (Option Value)} {st : List Value} {σ : List va_E} {uc us : Nat} (h : zX gM_sunset false pM kM_sunset cuts d Q 400 true pc ls st σ uc us) : zGood gM_sunset d Q pc ls st σ uc us := zX_s (fun q => by cases q) PM KM_sunset 400 true pc _ _ _ _ _ h
theorem m_M_draw (cuts : List Nat) {d : Nat} {Q : Option Value → List va_E → Prop} {av : List Value} {σ : List va_E} (hc : zC1 av = true) (hl : av.length ≤ 2) (h : zX gM_draw false pM kM_draw cuts d Q 400 true 0 (zArgs 2 av) [] σ 0 0) : zRuns gM_draw d av σ Q := zEnter (by decide +kernel) hc hl (zX_s (fun q => by cases q) PM KM_draw 400 true 0 _ _ _ _ _ h)
theorem w_M_draw (cuts : List Nat) {d : Nat} {Q : Option Value → List va_E → Prop} {pc : Nat} {ls : List (Option Value)} {st : List Value} {σ : List va_E} {uc us : Nat} (h : zX gM_draw false pM kM_draw cuts d Q 400 true pc ls st σ uc us) : zGood gM_draw d Q pc ls st σ uc us := zX_s (fun q => by cases q) PM KM_draw 400 true pc _ _ _ _ _ h
theorem m_M_member (cuts : List Nat) {d : Nat} {Q : Option Value → List va_E → Prop} {av : List Value} {σ : List va_E} (hc : zC1 av = true) (hl : av.length ≤ 4) (h : zX gM_member false pM kM_member cuts d Q 400 true 0 (zArgs 4 av) [] σ 0 0) : zRuns gM_member d av σ Q := zEnter (by decide +kernel) hc hl (zX_s (fun q => by cases q) PM KM_member 400 true 0 _ _ _ _ _ h)
theorem w_M_member (cuts : List Nat) {d : Nat} {Q : Option Value → List va_E → Prop} {pc : Nat} {ls : List (Option Value)} {st : List Value} {σ : List va_E} {uc us : Nat} (h : zX gM_member false pM kM_member cuts d Q 400 true pc ls st σ uc us) : zGood gM_member d Q pc ls st σ uc us := zX_s (fun q => by cases q) PM KM_member 400 true pc _ _ _ _ _ h
theorem m_M_drift (cuts : List Nat) {d : Nat} {Q : Option Value → List va_E → Prop} {av : List Value} {σ : List va_E} (hc : zC1 av = true) (hl : av.length ≤ 5) (h : zX gM_drift false pM kM_drift cuts d Q 400 true 0 (zArgs 5 av) [] σ 0 0) : zRuns gM_drift d av σ Q := zEnter (by decide +kernel) hc hl (zX_s (fun q => by cases q) PM KM_drift 400 true 0 _ _ _ _ _ h)
theorem w_M_drift (cuts : List Nat) {d : Nat} {Q : Option Value → List va_E → Prop} {pc : Nat} {ls : List (Option Value)} {st : List Value} {σ : List va_E} {uc us : Nat} (h : zX gM_drift false pM kM_drift cuts d Q 400 true pc ls st σ uc us) : zGood gM_drift d Q pc ls st σ uc us := zX_s (fun q => by cases q) PM KM_drift 400 true pc _ _ _ _ _ h
theorem m_M_undo (cuts : List Nat) {d : Nat} {Q : Option Value → List va_E → Prop} {av : List Value} {σ : List va_E} (hc : zC1 av = true) (hl : av.length ≤ 2) (h : zX gM_undo false pM kM_undo cuts d Q 400 true 0 (zArgs 2 av) [] σ 0 0) : zRuns gM_undo d av σ Q := zEnter (by decide +kernel) hc hl (zX_s (fun q => by cases q) PM KM_undo 400 true 0 _ _ _ _ _ h)
theorem w_M_undo (cuts : List Nat) {d : Nat} {Q : Option Value → List va_E → Prop} {pc : Nat} {ls : List (Option Value)} {st : List Value} {σ : List va_E} {uc us : Nat} (h : zX gM_undo false pM kM_undo cuts d Q 400 true pc ls st σ uc us) : zGood gM_undo d Q pc ls st σ uc us := zX_s (fun q => by cases q) PM KM_undo 400 true pc _ _ _ _ _ h
theorem m_M_may (cuts : List Nat) {d : Nat} {Q : Option Value → List va_E → Prop} {av : List Value} {σ : List va_E} (hc : zC1 av = true) (hl : av.length ≤ 2) (h : zX gM_may false pM kM_may cuts d Q 400 true 0 (zArgs 2 av) [] σ 0 0) : zRuns gM_may d av σ Q := zEnter (by decide +kernel) hc hl (zX_s (fun q => by cases q) PM KM_may 400 true 0 _ _ _ _ _ h)
theorem w_M_may (cuts : List Nat) {d : Nat} {Q : Option Value → List va_E → Prop} {pc : Nat} {ls : List (Option Value)} {st : List Value} {σ : List va_E} {uc us : Nat} (h : zX gM_may false pM kM_may cuts d Q 400 true pc ls st σ uc us) : zGood gM_may d Q pc ls st σ uc us := zX_s (fun q => by cases q) PM KM_may 400 true pc _ _ _ _ _ h
theorem m_M_orphans (cuts : List Nat) {d : Nat} {Q : Option Value → List va_E → Prop} {av : List Value} {σ : List va_E} (hc : zC1 av = true) (hl : av.length ≤ 3) (h : zX gM_orphans false pM kM_orphans cuts d Q 400 true 0 (zArgs 3 av) [] σ 0 0) : zRuns gM_orphans d av σ Q := zEnter (by decide +kernel) hc hl (zX_s (fun q => by cases q) PM KM_orphans 400 true 0 _ _ _ _ _ h)
theorem w_M_orphans (cuts : List Nat) {d : Nat} {Q : Option Value → List va_E → Prop} {pc : Nat} {ls : List (Option Value)} {st : List Value} {σ : List va_E} {uc us : Nat} (h : zX gM_orphans false pM kM_orphans cuts d Q 400 true pc ls st σ uc us) : zGood gM_orphans d Q pc ls st σ uc us := zX_s (fun q => by cases q) PM KM_orphans 400 true pc _ _ _ _ _ h
theorem m_M_canBe (cuts : List Nat) {d : Nat} {Q : Option Value → List va_E → Prop} {av : List Value} {σ : List va_E} (hc : zC1 av = true) (hl : av.length ≤ 6) (h : zX gM_canBe false pM kM_canBe cuts d Q 400 true 0 (zArgs 6 av) [] σ 0 0) : zRuns gM_canBe d av σ Q := zEnter (by decide +kernel) hc hl (zX_s (fun q => by cases q) PM KM_canBe 400 true 0 _ _ _ _ _ h)
theorem w_M_canBe (cuts : List Nat) {d : Nat} {Q : Option Value → List va_E → Prop} {pc : Nat} {ls : List (Option Value)} {st : List Value} {σ : List va_E} {uc us : Nat} (h : zX gM_canBe false pM kM_canBe cuts d Q 400 true pc ls st σ uc us) : zGood gM_canBe d Q pc ls st σ uc us := zX_s (fun q => by cases q) PM KM_canBe 400 true pc _ _ _ _ _ h
theorem m_M_costs (cuts : List Nat) {d : Nat} {Q : Option Value → List va_E → Prop} {av : List Value} {σ : List va_E} (hc : zC1 av = true) (hl : av.length ≤ 5) (h : zX gM_costs false pM kM_costs cuts d Q 400 true 0 (zArgs 5 av) [] σ 0 0) : zRuns gM_costs d av σ Q := zEnter (by decide +kernel) hc hl (zX_s (fun q => by cases q) PM KM_costs 400 true 0 _ _ _ _ _ h)
theorem w_M_costs (cuts : List Nat) {d : Nat} {Q : Option Value → List va_E → Prop} {pc : Nat} {ls : List (Option Value)} {st : List Value} {σ : List va_E} {uc us : Nat} (h : zX gM_costs false pM kM_costs cuts d Q 400 true pc ls st σ uc us) : zGood gM_costs d Q pc ls st σ uc us := zX_s (fun q => by cases q) PM KM_costs 400 true pc _ _ _ _ _ h
theorem m_M_counts (cuts : List Nat) {d : Nat} {Q : Option Value → List va_E → Prop} {av : List Value} {σ : List va_E} (hc : zC1 av = true) (hl : av.length ≤ 2) (h : zX gM_counts false pM kM_counts cuts d Q 400 true 0 (zArgs 2 av) [] σ 0 0) : zRuns gM_counts d av σ Q := zEnter (by decide +kernel) hc hl (zX_s (fun q => by cases q) PM KM_counts 400 true 0 _ _ _ _ _ h)
theorem w_M_counts (cuts : List Nat) {d : Nat} {Q : Option Value → List va_E → Prop} {pc : Nat} {ls : List (Option Value)} {st : List Value} {σ : List va_E} {uc us : Nat} (h : zX gM_counts false pM kM_counts cuts d Q 400 true pc ls st σ uc us) : zGood gM_counts d Q pc ls st σ uc us := zX_s (fun q => by cases q) PM KM_counts 400 true pc _ _ _ _ _ h
theorem m_M_shares (cuts : List Nat) {d : Nat} {Q : Option Value → List va_E → Prop} {av : List Value} {σ : List va_E} (hc : zC1 av = true) (hl : av.length ≤ 4) (h : zX gM_shares false pM kM_shares cuts d Q 400 true 0 (zArgs 4 av) [] σ 0 0) : zRuns gM_shares d av σ Q := zEnter (by decide +kernel) hc hl (zX_s (fun q => by cases q) PM KM_shares 400 true 0 _ _ _ _ _ h)
theorem w_M_shares (cuts : List Nat) {d : Nat} {Q : Option Value → List va_E → Prop} {pc : Nat} {ls : List (Option Value)} {st : List Value} {σ : List va_E} {uc us : Nat} (h : zX gM_shares false pM kM_shares cuts d Q 400 true pc ls st σ uc us) : zGood gM_shares d Q pc ls st σ uc us := zX_s (fun q => by cases q) PM KM_shares 400 true pc _ _ _ _ _ h
theorem m_M_shared (cuts : List Nat) {d : Nat} {Q : Option Value → List va_E → Prop} {av : List Value} {σ : List va_E} (hc : zC1 av = true) (hl : av.length ≤ 2) (h : zX gM_shared false pM kM_shared cuts d Q 400 true 0 (zArgs 2 av) [] σ 0 0) : zRuns gM_shared d av σ Q := zEnter (by decide +kernel) hc hl (zX_s (fun q => by cases q) PM KM_shared 400 true 0 _ _ _ _ _ h)
theorem w_M_shared (cuts : List Nat) {d : Nat} {Q : Option Value → List va_E → Prop} {pc : Nat} {ls : List (Option Value)} {st : List Value} {σ : List va_E} {uc us : Nat} (h : zX gM_shared false pM kM_shared cuts d Q 400 true pc ls st σ uc us) : zGood gM_shared d Q pc ls st σ uc us := zX_s (fun q => by cases q) PM KM_shared 400 true pc _ _ _ _ _ h
theorem m_M_cheapest (cuts : List Nat) {d : Nat} {Q : Option Value → List va_E → Prop} {av : List Value} {σ : List va_E} (hc : zC1 av = true) (hl : av.length ≤ 8) (h : zX gM_cheapest false pM kM_cheapest cuts d Q 400 true 0 (zArgs 8 av) [] σ 0 0) : zRuns gM_cheapest d av σ Q := zEnter (by decide +kernel) hc hl (zX_s (fun q => by cases q) PM KM_cheapest 400 true 0 _ _ _ _ _ h)
theorem w_M_cheapest (cuts : List Nat) {d : Nat} {Q : Option Value → List va_E → Prop} {pc : Nat} {ls : List (Option Value)} {st : List Value} {σ : List va_E} {uc us : Nat} (h : zX gM_cheapest false pM kM_cheapest cuts d Q 400 true pc ls st σ uc us) : zGood gM_cheapest d Q pc ls st σ uc us := zX_s (fun q => by cases q) PM KM_cheapest 400 true pc _ _ _ _ _ h
theorem m_M_culprits (cuts : List Nat) {d : Nat} {Q : Option Value → List va_E → Prop} {av : List Value} {σ : List va_E} (hc : zC1 av = true) (hl : av.length ≤ 4) (h : zX gM_culprits false pM kM_culprits cuts d Q 400 true 0 (zArgs 4 av) [] σ 0 0) : zRuns gM_culprits d av σ Q := zEnter (by decide +kernel) hc hl (zX_s (fun q => by cases q) PM KM_culprits 400 true 0 _ _ _ _ _ h)
theorem w_M_culprits (cuts : List Nat) {d : Nat} {Q : Option Value → List va_E → Prop} {pc : Nat} {ls : List (Option Value)} {st : List Value} {σ : List va_E} {uc us : Nat} (h : zX gM_culprits false pM kM_culprits cuts d Q 400 true pc ls st σ uc us) : zGood gM_culprits d Q pc ls st σ uc us := zX_s (fun q => by cases q) PM KM_culprits 400 true pc _ _ _ _ _ h
theorem m_M_idle (cuts : List Nat) {d : Nat} {Q : Option Value → List va_E → Prop} {av : List Value} {σ : List va_E} (hc : zC1 av = true) (hl : av.length ≤ 3) (h : zX gM_idle false pM kM_idle cuts d Q 400 true 0 (zArgs 3 av) [] σ 0 0) : zRuns gM_idle d av σ Q := zEnter (by decide +kernel) hc hl (zX_s (fun q => by cases q) PM KM_idle 400 true 0 _ _ _ _ _ h)
theorem w_M_idle (cuts : List Nat) {d : Nat} {Q : Option Value → List va_E → Prop} {pc : Nat} {ls : List (Option Value)} {st : List Value} {σ : List va_E} {uc us : Nat} (h : zX gM_idle false pM kM_idle cuts d Q 400 true pc ls st σ uc us) : zGood gM_idle d Q pc ls st σ uc us := zX_s (fun q => by cases q) PM KM_idle 400 true pc _ _ _ _ _ h
theorem m_M_nearer (cuts : List Nat) {d : Nat} {Q : Option Value → List va_E → Prop} {av : List Value} {σ : List va_E} (hc : zC1 av = true) (hl : av.length ≤ 8) (h : zX gM_nearer false pM kM_nearer cuts d Q 400 true 0 (zArgs 8 av) [] σ 0 0) : zRuns gM_nearer d av σ Q := zEnter (by decide +kernel) hc hl (zX_s (fun q => by cases q) PM KM_nearer 400 true 0 _ _ _ _ _ h)
theorem w_M_nearer (cuts : List Nat) {d : Nat} {Q : Option Value → List va_E → Prop} {pc : Nat} {ls : List (Option Value)} {st : List Value} {σ : List va_E} {uc us : Nat} (h : zX gM_nearer false pM kM_nearer cuts d Q 400 true pc ls st σ uc us) : zGood gM_nearer d Q pc ls st σ uc us := zX_s (fun q => by cases q) PM KM_nearer 400 true pc _ _ _ _ _ h
theorem m_M_root (cuts : List Nat) {d : Nat} {Q : Option Value → List va_E → Prop} {av : List Value} {σ : List va_E} (hc : zC1 av = true) (hl : av.length ≤ 3) (h : zX gM_root false pM kM_root cuts d Q 400 true 0 (zArgs 3 av) [] σ 0 0) : zRuns gM_root d av σ Q := zEnter (by decide +kernel) hc hl (zX_s (fun q => by cases q) PM KM_root 400 true 0 _ _ _ _ _ h)
theorem w_M_root (cuts : List Nat) {d : Nat} {Q : Option Value → List va_E → Prop} {pc : Nat} {ls : List (Option Value)} {st : List Value} {σ : List va_E} {uc us : Nat} (h : zX gM_root false pM kM_root cuts d Q 400 true pc ls st σ uc us) : zGood gM_root d Q pc ls st σ uc us := zX_s (fun q => by cases q) PM KM_root 400 true pc _ _ _ _ _ h
theorem m_M_chain (cuts : List Nat) {d : Nat} {Q : Option Value → List va_E → Prop} {av : List Value} {σ : List va_E} (hc : zC1 av = true) (hl : av.length ≤ 6) (h : zX gM_chain false pM kM_chain cuts d Q 400 true 0 (zArgs 6 av) [] σ 0 0) : zRuns gM_chain d av σ Q := zEnter (by decide +kernel) hc hl (zX_s (fun q => by cases q) PM KM_chain 400 true 0 _ _ _ _ _ h)
theorem w_M_chain (cuts : List Nat) {d : Nat} {Q : Option Value → List va_E → Prop} {pc : Nat} {ls : List (Option Value)} {st : List Value} {σ : List va_E} {uc us : Nat} (h : zX gM_chain false pM kM_chain cuts d Q 400 true pc ls st σ uc us) : zGood gM_chain d Q pc ls st σ uc us := zX_s (fun q => by cases q) PM KM_chain 400 true pc _ _ _ _ _ h
theorem m_M_quiet (cuts : List Nat) {d : Nat} {Q : Option Value → List va_E → Prop} {av : List Value} {σ : List va_E} (hc : zC1 av = true) (hl : av.length ≤ 6) (h : zX gM_quiet false pM kM_quiet cuts d Q 400 true 0 (zArgs 6 av) [] σ 0 0) : zRuns gM_quiet d av σ Q := zEnter (by decide +kernel) hc hl (zX_s (fun q => by cases q) PM KM_quiet 400 true 0 _ _ _ _ _ h)
theorem w_M_quiet (cuts : List Nat) {d : Nat} {Q : Option Value → List va_E → Prop} {pc : Nat} {ls : List (Option Value)} {st : List Value} {σ : List va_E} {uc us : Nat} (h : zX gM_quiet false pM kM_quiet cuts d Q 400 true pc ls st σ uc us) : zGood gM_quiet d Q pc ls st σ uc us := zX_s (fun q => by cases q) PM KM_quiet 400 true pc _ _ _ _ _ h
theorem m_M_see (cuts : List Nat) {d : Nat} {Q : Option Value → List va_E → Prop} {av : List Value} {σ : List va_E} (hc : zC1 av = true) (hl : av.length ≤ 4) (h : zX gM_see false pM kM_see cuts d Q 400 true 0 (zArgs 4 av) [] σ 0 0) : zRuns gM_see d av σ Q := zEnter (by decide +kernel) hc hl (zX_s (fun q => by cases q) PM KM_see 400 true 0 _ _ _ _ _ h)
theorem w_M_see (cuts : List Nat) {d : Nat} {Q : Option Value → List va_E → Prop} {pc : Nat} {ls : List (Option Value)} {st : List Value} {σ : List va_E} {uc us : Nat} (h : zX gM_see false pM kM_see cuts d Q 400 true pc ls st σ uc us) : zGood gM_see d Q pc ls st σ uc us := zX_s (fun q => by cases q) PM KM_see 400 true pc _ _ _ _ _ h
theorem m_M_alibi (cuts : List Nat) {d : Nat} {Q : Option Value → List va_E → Prop} {av : List Value} {σ : List va_E} (hc : zC1 av = true) (hl : av.length ≤ 6) (h : zX gM_alibi false pM kM_alibi cuts d Q 400 true 0 (zArgs 6 av) [] σ 0 0) : zRuns gM_alibi d av σ Q := zEnter (by decide +kernel) hc hl (zX_s (fun q => by cases q) PM KM_alibi 400 true 0 _ _ _ _ _ h)
theorem w_M_alibi (cuts : List Nat) {d : Nat} {Q : Option Value → List va_E → Prop} {pc : Nat} {ls : List (Option Value)} {st : List Value} {σ : List va_E} {uc us : Nat} (h : zX gM_alibi false pM kM_alibi cuts d Q 400 true pc ls st σ uc us) : zGood gM_alibi d Q pc ls st σ uc us := zX_s (fun q => by cases q) PM KM_alibi 400 true pc _ _ _ _ _ h
theorem m_M_write (cuts : List Nat) {d : Nat} {Q : Option Value → List va_E → Prop} {av : List Value} {σ : List va_E} (hc : zC1 av = true) (hl : av.length ≤ 3) (h : zX gM_write false pM kM_write cuts d Q 400 true 0 (zArgs 3 av) [] σ 0 0) : zRuns gM_write d av σ Q := zEnter (by decide +kernel) hc hl (zX_s (fun q => by cases q) PM KM_write 400 true 0 _ _ _ _ _ h)
theorem w_M_write (cuts : List Nat) {d : Nat} {Q : Option Value → List va_E → Prop} {pc : Nat} {ls : List (Option Value)} {st : List Value} {σ : List va_E} {uc us : Nat} (h : zX gM_write false pM kM_write cuts d Q 400 true pc ls st σ uc us) : zGood gM_write d Q pc ls st σ uc us := zX_s (fun q => by cases q) PM KM_write 400 true pc _ _ _ _ _ h
theorem m_M_judge (cuts : List Nat) {d : Nat} {Q : Option Value → List va_E → Prop} {av : List Value} {σ : List va_E} (hc : zC1 av = true) (hl : av.length ≤ 2) (h : zX gM_judge false pM kM_judge cuts d Q 400 true 0 (zArgs 2 av) [] σ 0 0) : zRuns gM_judge d av σ Q := zEnter (by decide +kernel) hc hl (zX_s (fun q => by cases q) PM KM_judge 400 true 0 _ _ _ _ _ h)
theorem w_M_judge (cuts : List Nat) {d : Nat} {Q : Option Value → List va_E → Prop} {pc : Nat} {ls : List (Option Value)} {st : List Value} {σ : List va_E} {uc us : Nat} (h : zX gM_judge false pM kM_judge cuts d Q 400 true pc ls st σ uc us) : zGood gM_judge d Q pc ls st σ uc us := zX_s (fun q => by cases q) PM KM_judge 400 true pc _ _ _ _ _ h
theorem m_M_tear (cuts : List Nat) {d : Nat} {Q : Option Value → List va_E → Prop} {av : List Value} {σ : List va_E} (hc : zC1 av = true) (hl : av.length ≤ 2) (h : zX gM_tear false pM kM_tear cuts d Q 400 true 0 (zArgs 2 av) [] σ 0 0) : zRuns gM_tear d av σ Q := zEnter (by decide +kernel) hc hl (zX_s (fun q => by cases q) PM KM_tear 400 true 0 _ _ _ _ _ h)
theorem w_M_tear (cuts : List Nat) {d : Nat} {Q : Option Value → List va_E → Prop} {pc : Nat} {ls : List (Option Value)} {st : List Value} {σ : List va_E} {uc us : Nat} (h : zX gM_tear false pM kM_tear cuts d Q 400 true pc ls st σ uc us) : zGood gM_tear d Q pc ls st σ uc us := zX_s (fun q => by cases q) PM KM_tear 400 true pc _ _ _ _ _ h
theorem m_M_seed (cuts : List Nat) {d : Nat} {Q : Option Value → List va_E → Prop} {av : List Value} {σ : List va_E} (hc : zC1 av = true) (hl : av.length ≤ 3) (h : zX gM_seed false pM kM_seed cuts d Q 400 true 0 (zArgs 3 av) [] σ 0 0) : zRuns gM_seed d av σ Q := zEnter (by decide +kernel) hc hl (zX_s (fun q => by cases q) PM KM_seed 400 true 0 _ _ _ _ _ h)
theorem w_M_seed (cuts : List Nat) {d : Nat} {Q : Option Value → List va_E → Prop} {pc : Nat} {ls : List (Option Value)} {st : List Value} {σ : List va_E} {uc us : Nat} (h : zX gM_seed false pM kM_seed cuts d Q 400 true pc ls st σ uc us) : zGood gM_seed d Q pc ls st σ uc us := zX_s (fun q => by cases q) PM KM_seed 400 true pc _ _ _ _ _ h
theorem m_M_keep (cuts : List Nat) {d : Nat} {Q : Option Value → List va_E → Prop} {av : List Value} {σ : List va_E} (hc : zC1 av = true) (hl : av.length ≤ 2) (h : zX gM_keep false pM kM_keep cuts d Q 400 true 0 (zArgs 2 av) [] σ 0 0) : zRuns gM_keep d av σ Q := zEnter (by decide +kernel) hc hl (zX_s (fun q => by cases q) PM KM_keep 400 true 0 _ _ _ _ _ h)
theorem w_M_keep (cuts : List Nat) {d : Nat} {Q : Option Value → List va_E → Prop} {pc : Nat} {ls : List (Option Value)} {st : List Value} {σ : List va_E} {uc us : Nat} (h : zX gM_keep false pM kM_keep cuts d Q 400 true pc ls st σ uc us) : zGood gM_keep d Q pc ls st σ uc us := zX_s (fun q => by cases q) PM KM_keep 400 true pc _ _ _ _ _ h
theorem m_M_goBack (cuts : List Nat) {d : Nat} {Q : Option Value → List va_E → Prop} {av : List Value} {σ : List va_E} (hc : zC1 av = true) (hl : av.length ≤ 2) (h : zX gM_goBack false pM kM_goBack cuts d Q 400 true 0 (zArgs 2 av) [] σ 0 0) : zRuns gM_goBack d av σ Q := zEnter (by decide +kernel) hc hl (zX_s (fun q => by cases q) PM KM_goBack 400 true 0 _ _ _ _ _ h)
theorem w_M_goBack (cuts : List Nat) {d : Nat} {Q : Option Value → List va_E → Prop} {pc : Nat} {ls : List (Option Value)} {st : List Value} {σ : List va_E} {uc us : Nat} (h : zX gM_goBack false pM kM_goBack cuts d Q 400 true pc ls st σ uc us) : zGood gM_goBack d Q pc ls st σ uc us := zX_s (fun q => by cases q) PM KM_goBack 400 true pc _ _ _ _ _ h
theorem m_JI_bitCount (cuts : List Nat) {d : Nat} {Q : Option Value → List va_E → Prop} {av : List Value} {σ : List va_E} (hc : zC1 av = true) (hl : av.length ≤ 1) (h : zX gJI_bitCount false pJI kJI_bitCount cuts d Q 400 true 0 (zArgs 1 av) [] σ 0 0) : zRuns gJI_bitCount d av σ Q := zEnterF (by decide +kernel) hc hl (zX_s (fun q => by cases q) PJI KJI_bitCount 400 true 0 _ _ _ _ _ h)
theorem w_JI_bitCount (cuts : List Nat) {d : Nat} {Q : Option Value → List va_E → Prop} {pc : Nat} {ls : List (Option Value)} {st : List Value} {σ : List va_E} {uc us : Nat} (h : zX gJI_bitCount false pJI kJI_bitCount cuts d Q 400 true pc ls st σ uc us) : zGood gJI_bitCount d Q pc ls st σ uc us := zX_s (fun q => by cases q) PJI KJI_bitCount 400 true pc _ _ _ _ _ h
theorem m_JM_floorMod (cuts : List Nat) {d : Nat} {Q : Option Value → List va_E → Prop} {av : List Value} {σ : List va_E} (hc : zC1 av = true) (hl : av.length ≤ 3) (h : zX gJM_floorMod false pJM kJM_floorMod cuts d Q 400 true 0 (zArgs 3 av) [] σ 0 0) : zRuns gJM_floorMod d av σ Q := zEnterF (by decide +kernel) hc hl (zX_s (fun q => by cases q) PJM KJM_floorMod 400 true 0 _ _ _ _ _ h)
theorem w_JM_floorMod (cuts : List Nat) {d : Nat} {Q : Option Value → List va_E → Prop} {pc : Nat} {ls : List (Option Value)} {st : List Value} {σ : List va_E} {uc us : Nat} (h : zX gJM_floorMod false pJM kJM_floorMod cuts d Q 400 true pc ls st σ uc us) : zGood gJM_floorMod d Q pc ls st σ uc us := zX_s (fun q => by cases q) PJM KJM_floorMod 400 true pc _ _ _ _ _ h
theorem m_JM_abs (cuts : List Nat) {d : Nat} {Q : Option Value → List va_E → Prop} {av : List Value} {σ : List va_E} (hc : zC1 av = true) (hl : av.length ≤ 1) (h : zX gJM_abs false pJM kJM_abs cuts d Q 400 true 0 (zArgs 1 av) [] σ 0 0) : zRuns gJM_abs d av σ Q := zEnterF (by decide +kernel) hc hl (zX_s (fun q => by cases q) PJM KJM_abs 400 true 0 _ _ _ _ _ h)
theorem w_JM_abs (cuts : List Nat) {d : Nat} {Q : Option Value → List va_E → Prop} {pc : Nat} {ls : List (Option Value)} {st : List Value} {σ : List va_E} {uc us : Nat} (h : zX gJM_abs false pJM kJM_abs cuts d Q 400 true pc ls st σ uc us) : zGood gJM_abs d Q pc ls st σ uc us := zX_s (fun q => by cases q) PJM KJM_abs 400 true pc _ _ _ _ _ h
theorem m_JM_max (cuts : List Nat) {d : Nat} {Q : Option Value → List va_E → Prop} {av : List Value} {σ : List va_E} (hc : zC1 av = true) (hl : av.length ≤ 2) (h : zX gJM_max false pJM kJM_max cuts d Q 400 true 0 (zArgs 2 av) [] σ 0 0) : zRuns gJM_max d av σ Q := zEnterF (by decide +kernel) hc hl (zX_s (fun q => by cases q) PJM KJM_max 400 true 0 _ _ _ _ _ h)
theorem w_JM_max (cuts : List Nat) {d : Nat} {Q : Option Value → List va_E → Prop} {pc : Nat} {ls : List (Option Value)} {st : List Value} {σ : List va_E} {uc us : Nat} (h : zX gJM_max false pJM kJM_max cuts d Q 400 true pc ls st σ uc us) : zGood gJM_max d Q pc ls st σ uc us := zX_s (fun q => by cases q) PJM KJM_max 400 true pc _ _ _ _ _ h
theorem m_JM_min (cuts : List Nat) {d : Nat} {Q : Option Value → List va_E → Prop} {av : List Value} {σ : List va_E} (hc : zC1 av = true) (hl : av.length ≤ 2) (h : zX gJM_min false pJM kJM_min cuts d Q 400 true 0 (zArgs 2 av) [] σ 0 0) : zRuns gJM_min d av σ Q := zEnterF (by decide +kernel) hc hl (zX_s (fun q => by cases q) PJM KJM_min 400 true 0 _ _ _ _ _ h)
theorem w_JM_min (cuts : List Nat) {d : Nat} {Q : Option Value → List va_E → Prop} {pc : Nat} {ls : List (Option Value)} {st : List Value} {σ : List va_E} {uc us : Nat} (h : zX gJM_min false pJM kJM_min cuts d Q 400 true pc ls st σ uc us) : zGood gJM_min d Q pc ls st σ uc us := zX_s (fun q => by cases q) PJM KJM_min 400 true pc _ _ _ _ _ h
end
section
/-! small methods of no object; numbers -/
theorem z_up {P : Nat → Prop} (N : Nat) (h : ∀ j, j ≤ N → (j < N → P (j + 1)) → P j) : ∀ j, j ≤ N → P j := by
  have key : ∀ k j, j + k = N → P j := by
    intro k
    induction k with
    | zero => intro j hj; exact h j (by omega) (fun q => absurd q (by omega))
    | succ k ih => intro j hj; exact h j (by omega) (fun _ => ih (j + 1) (by omega))
  intro j hj
  exact key (N - j) j (by omega)
theorem z_in {n : Nat} (hn : n < 2 ^ 31) {i : Int32} (h0 : ¬ i < 0) (h1 : ¬ Int32.ofNat n ≤ i) : vp_in i n := by
  obtain ⟨j, hj, rfl⟩ := nI_of h0
  refine vp_in_nI (Nat.not_le.mp fun q => h1 ?_) hn
  exact nI_le q hj
def bI (b : Bool) : Int32 := match b with
  | true => 1
  | false => 0
theorem bI_0 {b : Bool} (h : bI b = 0) : b = false := by cases b <;> first | rfl | (exact absurd h (by decide))
theorem bI_1 {b : Bool} (h : ¬ bI b = 0) : b = true := by cases b <;> first | rfl | (exact absurd rfl h)
theorem bI_dec {p : Prop} [Decidable p] (h : p) : bI (decide p) = 1 := by rw [decide_eq_true h]; rfl
theorem bI_ndec {p : Prop} [Decidable p] (h : ¬ p) : bI (decide p) = 0 := by rw [decide_eq_false h]; rfl
theorem c_at {d : Nat} {σ : List va_E} {r n j : Nat} {f : Nat → Int32} {i : Int32} (h : σ[r]? = some (.inl (0, n, .inl f))) (hn : n < 2 ^ 31) (hi : i = nI j) (hj : j < n) : zRuns gB_at (d + 1) [.ref r, .int i] σ (fun v σ' => v = some (.int (f j)) ∧ σ' = σ) := by
  subst hi
  have e : zNth σ r = some (.inl (0, n, .inl f)) := by rw [zNth_eq]; exact h
  refine m_B_at [] rfl (Nat.le_of_ble_eq_true rfl) ?_
  refine ⟨fun h1 => absurd h1 (nI_pos (by omega)), fun _ => ?_⟩
  show zLng σ r _
  unfold zLng
  rw [e]
  refine ⟨fun h1 => absurd h1 (nI_ge hj hn), fun _ => ?_⟩
  show zArr σ r 0 _
  unfold zArr
  rw [e]
  refine ⟨vp_in_nI hj hn, ?_⟩
  exact ⟨by rw [nI_clamp (by omega)], rfl⟩
theorem c_put {d : Nat} {σ : List va_E} {r n j : Nat} {f : Nat → Int32} {i v : Int32} (h : σ[r]? = some (.inl (0, n, .inl f))) (hn : n < 2 ^ 31) (hi : i = nI j) (hj : j < n) : zRuns gB_put (d + 1) [.ref r, .int i, .int v] σ (fun v' σ' => v' = none ∧ σ' = σ.set r (.inl (0, n, .inl (upd f j v)))) := by
  subst hi
  have e : zNth σ r = some (.inl (0, n, .inl f)) := by rw [zNth_eq]; exact h
  refine m_B_put [] rfl (Nat.le_of_ble_eq_true rfl) ?_
  refine ⟨fun h1 => absurd h1 (nI_pos (by omega)), fun _ => ?_⟩
  show zLng σ r _
  unfold zLng
  rw [e]
  refine ⟨fun h1 => absurd h1 (nI_ge hj hn), fun _ => ?_⟩
  show zArr σ r 0 _
  unfold zArr
  rw [e]
  refine ⟨vp_in_nI hj hn, ?_⟩
  exact ⟨rfl, by rw [nI_clamp (by omega)]⟩
theorem c_isIn {d : Nat} {σ : List va_E} {x : Int32} {j : Nat} {i : Int32} (hi : i = nI j) (hj : j < 31) : zRuns gB_isIn (d + 1) [.int x, .int i] σ (fun v σ' => v = some (.int (bI (decide ((x >>> (i &&& 31)) &&& 1 = 1)))) ∧ σ' = σ) := by
  subst hi
  refine m_B_isIn [] rfl (Nat.le_of_ble_eq_true rfl) ?_
  refine ⟨fun h1 => absurd h1 (nI_pos (by omega)), fun _ => ?_⟩
  refine ⟨fun h1 => absurd h1 (nI_nlt (a := 30) (b := j) (by omega) (by omega)), fun _ => ?_⟩
  refine ⟨fun h1 => ?_, fun h1 => ?_⟩
  · exact ⟨rfl, by rw [bI_dec h1], rfl⟩
  · exact ⟨rfl, by rw [bI_ndec h1], rfl⟩
theorem c_isWithin {d : Nat} {σ : List va_E} {x lo hi : Int32} : zRuns gB_isWithin (d + 1) [.int x, .int lo, .int hi] σ (fun v σ' => v = some (.int (bI (decide (lo ≤ x ∧ x ≤ hi)))) ∧ σ' = σ) := by
  refine m_B_isWithin [] rfl (Nat.le_of_ble_eq_true rfl) ?_
  refine ⟨fun h1 => ?_, fun h1 => ?_⟩
  · exact ⟨rfl, by rw [bI_ndec (fun q => Int32.lt_irrefl (Int32.lt_of_lt_of_le h1 q.1))], rfl⟩
  · refine ⟨fun h2 => ?_, fun h2 => ?_⟩
    · exact ⟨rfl, by rw [bI_ndec (fun q => Int32.lt_irrefl (Int32.lt_of_lt_of_le h2 q.2))], rfl⟩
    · exact ⟨rfl, by rw [bI_dec ⟨Int32.not_lt.mp h1, Int32.not_lt.mp h2⟩], rfl⟩
theorem c_copyRow {d : Nat} {σ : List va_E} {r1 r2 n1 n2 : Nat} {f1 f2 : Nat → Int32} (h1 : σ[r1]? = some (.inl (0, n1, .inl f1))) (h2 : σ[r2]? = some (.inl (0, n2, .inl f2))) (hne : r1 ≠ r2) (hn : n1 ≤ n2) (hn2 : n2 < 2 ^ 31) :
    zRuns gB_copyRow (d + 1) [.ref r1, .ref r2] σ (fun v σ' => v = none ∧ σ' = σ.set r2 (.inl (0, n2, .inl (fun j => if j < n1 then f1 j else f2 j)))) := by
  refine m_B_copyRow [11] rfl (Nat.le_of_ble_eq_true rfl) ?_
  refine ⟨trivial, ?_⟩
  have hlen : r2 < σ.length := (List.getElem?_eq_some_iff.mp h2).1
  have loop := z_up (P := fun k => ∀ (x : Int32), x = nI k → zGood gB_copyRow (d + 1) (fun v σ' => v = none ∧ σ' = σ.set r2 (.inl (0, n2, .inl (fun j => if j < n1 then f1 j else f2 j)))) 11 [some (.ref r1), some (.ref r2), some (.int x)] [] (σ.set r2 (.inl (0, n2, .inl (fun j => if j < k then f1 j else f2 j)))) 0 0) n1 (fun k hk ih x hx => ?_) 0 (Nat.zero_le _) 0 nI_0.symm
  · have e0 : σ.set r2 (.inl (0, n2, .inl (fun j => if j < 0 then f1 j else f2 j))) = σ := by
      apply List.ext_getElem?
      intro j
      rw [List.getElem?_set]
      by_cases e : r2 = j
      · subst e; rw [if_pos rfl, if_pos hlen, h2]; simp
      · simp [e]
    rw [e0] at loop
    exact loop
  · subst hx
    have e1 : zNth (σ.set r2 (.inl (0, n2, .inl (fun j => if j < k then f1 j else f2 j)))) r1 = some (.inl (0, n1, .inl f1)) := by rw [zNth_eq, List.getElem?_set, if_neg (Ne.symm hne)]; exact h1
    have e2 : zNth (σ.set r2 (.inl (0, n2, .inl (fun j => if j < k then f1 j else f2 j)))) r2 = some (.inl (0, n2, .inl (fun j => if j < k then f1 j else f2 j))) := by rw [zNth_eq, List.getElem?_set, if_pos rfl, if_pos hlen]
    refine w_B_copyRow [11] ?_
    show zLng _ r1 _
    unfold zLng
    rw [e1]
    refine ⟨fun q => ?_, fun q => ?_⟩
    · have : k = n1 := Nat.le_antisymm hk (Nat.not_lt.mp fun z => nI_ge z (by omega) q)
      subst this
      exact ⟨rfl, rfl⟩
    · have hlt : k < n1 := Nat.not_le.mp fun z => q (nI_le z (by omega))
      show zLng _ r2 _
      unfold zLng
      rw [e2]
      refine ⟨fun q2 => absurd q2 (nI_ge (by omega) hn2), fun _ => ?_⟩
      show zArr _ r1 0 _
      unfold zArr
      rw [e1]
      refine ⟨vp_in_nI hlt (by omega), ?_⟩
      show zArr _ r2 0 _
      unfold zArr
      rw [e2]
      refine ⟨vp_in_nI (by omega) hn2, ?_⟩
      refine ⟨trivial, ?_⟩
      have h9 := ih hlt (nI k + 1) (nI_1 k)
      rw [List.set_set]
      have e3 : upd (fun j => if j < k then f1 j else f2 j) (nI k).toNatClampNeg (f1 (nI k).toNatClampNeg) = (fun j => if j < k + 1 then f1 j else f2 j) := by
        rw [nI_clamp (by omega)]
        funext j
        unfold upd
        by_cases e : j = k
        · subst e; simp
        · by_cases e2 : j < k
          · simp [e, e2, Nat.lt_succ_of_lt e2]
          · simp [e, e2, show ¬ j < k + 1 by omega]
      rw [e3]
      exact h9

theorem c_abs {d : Nat} {σ : List va_E} {x : Int32} : zRuns gJM_abs (d + 1) [.int x] σ (fun v σ' => v = some (.int (if 0 ≤ x then x else -x)) ∧ σ' = σ) := by
  refine m_JM_abs [] rfl (Nat.le_of_ble_eq_true rfl) ?_
  refine ⟨fun h => ?_, fun h => ?_⟩
  · exact ⟨by rw [if_pos h], rfl⟩
  · exact ⟨by rw [if_neg h], rfl⟩
theorem c_max {d : Nat} {σ : List va_E} {x y : Int32} : zRuns gJM_max (d + 1) [.int x, .int y] σ (fun v σ' => v = some (.int (if x < y then y else x)) ∧ σ' = σ) := by
  refine m_JM_max [] rfl (Nat.le_of_ble_eq_true rfl) ?_
  refine ⟨fun h => ?_, fun h => ?_⟩
  · exact ⟨by rw [if_pos h], rfl⟩
  · exact ⟨by rw [if_neg h], rfl⟩
theorem c_min {d : Nat} {σ : List va_E} {x y : Int32} : zRuns gJM_min (d + 1) [.int x, .int y] σ (fun v σ' => v = some (.int (if y < x then y else x)) ∧ σ' = σ) := by
  refine m_JM_min [] rfl (Nat.le_of_ble_eq_true rfl) ?_
  refine ⟨fun h => ?_, fun h => ?_⟩
  · exact ⟨by rw [if_pos h], rfl⟩
  · exact ⟨by rw [if_neg h], rfl⟩
def zPop32 (x : Int32) : Int32 :=
  let u (x : Int32) (k : Int32) : Int32 := (x.toUInt32 >>> (k.toUInt32 &&& Int32.toUInt32 31)).toInt32
  let a := x - (u x 1 &&& 1431655765)
  let b := (a &&& 858993459) + (u a 2 &&& 858993459)
  let c := (b + u b 4) &&& 252645135
  let e := c + u c 8
  let f := e + u e 16
  f &&& 63
theorem c_bitCount {d : Nat} {σ : List va_E} {x : Int32} : zRuns gJI_bitCount (d + 1) [.int x] σ (fun v σ' => v = some (.int (zPop32 x)) ∧ σ' = σ) := by
  refine m_JI_bitCount [] rfl (Nat.le_of_ble_eq_true rfl) ?_
  exact ⟨rfl, rfl⟩
end
section
/-! the state: S k j is what cell k holds at place j -/
abbrev zS : Type := Nat → Nat → Int32
/-- one number put -/
def zU (S : zS) (k j : Nat) (v : Int32) : zS := va_up S k (upd (S k) j v)
/-- one row put -/
def zUr (S : zS) (k : Nat) (f : Nat → Int32) : zS := va_up S k f
theorem zU_k {S : zS} {k j a : Nat} {v : Int32} (h : a ≠ k) : zU S k j v a = S a := va_up_ne _ _ h
theorem zU_s {S : zS} {k j : Nat} {v : Int32} : zU S k j v k = upd (S k) j v := va_up_self _ _ _
theorem zUr_k {S : zS} {k a : Nat} {f : Nat → Int32} (h : a ≠ k) : zUr S k f a = S a := va_up_ne _ _ h
theorem zUr_s {S : zS} {k : Nat} {f : Nat → Int32} : zUr S k f k = f := va_up_self _ _ _
theorem upd_s {f : Nat → Int32} {k : Nat} {x : Int32} : upd f k x k = x := if_pos rfl
theorem upd_n {f : Nat → Int32} {k j : Nat} {x : Int32} (h : j ≠ k) : upd f k x j = f j := if_neg h
def encC (S : zS) : List va_E := [.inr (8, [.ref 1, .ref 3, .ref 14, .ref 25, .ref 27, .ref 28, .ref 39, .ref 71, .ref 77, .ref 79, .int (S 0 10), .int (S 0 11)]),
  .inr (7, [.ref 2, .int (S 1 1), .int (S 1 2), .int (S 1 3), .int (S 1 4), .int (S 1 5)]),
  .inl (0, 230, .inl (S 2)),
  .inr (1, [.int (S 3 0), .int (S 3 1), .int (S 3 2), .int (S 3 3), .int (S 3 4), .ref 4, .ref 5, .ref 6, .ref 7, .ref 8, .ref 9, .ref 10, .ref 11, .ref 12, .ref 13]),
  .inl (0, 7, .inl (S 4)),
  .inl (0, 7, .inl (S 5)),
  .inl (0, 7, .inl (S 6)),
  .inl (0, 42, .inl (S 7)),
  .inl (0, 4, .inl (S 8)),
  .inl (0, 4, .inl (S 9)),
  .inl (0, 4, .inl (S 10)),
  .inl (0, 4, .inl (S 11)),
  .inl (0, 4, .inl (S 12)),
  .inl (0, 4, .inl (S 13)),
  .inr (1, [.int (S 14 0), .int (S 14 1), .int (S 14 2), .int (S 14 3), .int (S 14 4), .ref 15, .ref 16, .ref 17, .ref 18, .ref 19, .ref 20, .ref 21, .ref 22, .ref 23, .ref 24]),
  .inl (0, 7, .inl (S 15)),
  .inl (0, 7, .inl (S 16)),
  .inl (0, 7, .inl (S 17)),
  .inl (0, 42, .inl (S 18)),
  .inl (0, 4, .inl (S 19)),
  .inl (0, 4, .inl (S 20)),
  .inl (0, 4, .inl (S 21)),
  .inl (0, 4, .inl (S 22)),
  .inl (0, 4, .inl (S 23)),
  .inl (0, 4, .inl (S 24)),
  .inr (6, [.ref 26]),
  .inl (0, 55, .inl (S 26)),
  .inr (0, [.ref 14, .ref 25]),
  .inr (5, [.ref 14, .ref 25, .ref 27, .ref 29, .ref 30, .ref 31, .ref 32, .ref 33, .ref 34, .ref 35, .ref 36, .ref 37, .ref 38, .int (S 28 13)]),
  .inl (0, 7, .inl (S 29)),
  .inl (0, 28, .inl (S 30)),
  .inl (0, 4, .inl (S 31)),
  .inl (0, 88, .inl (S 32)),
  .inl (0, 88, .inl (S 33)),
  .inl (0, 4, .inl (S 34)),
  .inl (0, 5, .inl (S 35)),
  .inl (0, 7, .inl (S 36)),
  .inl (0, 4, .inl (S 37)),
  .inl (0, 4, .inl (S 38)),
  .inr (4, [.ref 40, .int (S 39 1), .int (S 39 2)]),
  .inl (2, 30, .inr (.inr (.inr (.inr (fun j => if j < 30 then some (41 + j) else none))))),
  .inl (0, 55, .inl (S 41)),
  .inl (0, 55, .inl (S 42)),
  .inl (0, 55, .inl (S 43)),
  .inl (0, 55, .inl (S 44)),
  .inl (0, 55, .inl (S 45)),
  .inl (0, 55, .inl (S 46)),
  .inl (0, 55, .inl (S 47)),
  .inl (0, 55, .inl (S 48)),
  .inl (0, 55, .inl (S 49)),
  .inl (0, 55, .inl (S 50)),
  .inl (0, 55, .inl (S 51)),
  .inl (0, 55, .inl (S 52)),
  .inl (0, 55, .inl (S 53)),
  .inl (0, 55, .inl (S 54)),
  .inl (0, 55, .inl (S 55)),
  .inl (0, 55, .inl (S 56)),
  .inl (0, 55, .inl (S 57)),
  .inl (0, 55, .inl (S 58)),
  .inl (0, 55, .inl (S 59)),
  .inl (0, 55, .inl (S 60)),
  .inl (0, 55, .inl (S 61)),
  .inl (0, 55, .inl (S 62)),
  .inl (0, 55, .inl (S 63)),
  .inl (0, 55, .inl (S 64)),
  .inl (0, 55, .inl (S 65)),
  .inl (0, 55, .inl (S 66)),
  .inl (0, 55, .inl (S 67)),
  .inl (0, 55, .inl (S 68)),
  .inl (0, 55, .inl (S 69)),
  .inl (0, 55, .inl (S 70)),
  .inr (3, [.ref 72, .ref 73, .ref 74, .int (S 71 3), .ref 75, .ref 76, .int (S 71 6)]),
  .inl (0, 6, .inl (S 72)),
  .inl (0, 6, .inl (S 73)),
  .inl (0, 6, .inl (S 74)),
  .inl (0, 20, .inl (S 75)),
  .inl (0, 20, .inl (S 76)),
  .inr (2, [.ref 78, .int (S 77 1), .int (S 77 2)]),
  .inl (0, 55, .inl (S 78)),
  .inr (2, [.ref 80, .int (S 79 1), .int (S 79 2)]),
  .inl (0, 55, .inl (S 80))]
def encM (S : zS) : List va_E := [.inr (9, [.ref 1, .int (S 0 1), .int (S 0 2), .int (S 0 3), .int (S 0 4), .int (S 0 5), .int (S 0 6), .int (S 0 7), .ref 2, .ref 3, .ref 4, .int (S 0 11), .int (S 0 12), .int (S 0 13), .int (S 0 14), .ref 5, .ref 6, .ref 7, .ref 8, .ref 9, .int (S 0 20), .ref 10, .ref 11, .ref 12, .int (S 0 24), .ref 13, .int (S 0 26), .ref 14, .int (S 0 28), .int (S 0 29), .int (S 0 30), .ref 15, .ref 16, .ref 17, .ref 18, .int (S 0 35)]),
  .inl (0, 230, .inl (S 1)),
  .inl (0, 21, .inl (S 2)),
  .inl (0, 42, .inl (S 3)),
  .inl (0, 24, .inl (S 4)),
  .inl (0, 21, .inl (S 5)),
  .inl (0, 42, .inl (S 6)),
  .inl (0, 24, .inl (S 7)),
  .inl (0, 55, .inl (S 8)),
  .inl (0, 1650, .inl (S 9)),
  .inl (0, 110, .inl (S 10)),
  .inl (0, 2, .inl (S 11)),
  .inl (1, 2, .inl (S 12)),
  .inl (0, 18, .inl (S 13)),
  .inl (0, 40, .inl (S 14)),
  .inl (0, 92, .inl (S 15)),
  .inl (0, 4, .inl (S 16)),
  .inl (0, 4, .inl (S 17)),
  .inl (0, 4, .inl (S 18))]
theorem z_ad {a b : Int32} {i j : Nat} (ha : a = nI i) (hb : b = nI j) : a + b = nI (i + j) := by rw [ha, hb, nI_add]
theorem z_mu {a b : Int32} {i j : Nat} (ha : a = nI i) (hb : b = nI j) : a * b = nI (i * j) := by rw [ha, hb, pk_mul]
theorem z_ld {nx : zNx} {pc : Nat} {ls : List (Option Value)} {r : List Value} {σ : List va_E} {uc us n k : Nat} {i : Int32} {f : Nat → Int32} (e : i = nI k) (hk : k < n) (hn : n < 2 ^ 31) (h : nx pc ls (.int (f k) :: r) σ uc us) : vp_in i n ∧ nx pc ls (.int (f i.toNatClampNeg) :: r) σ uc us := by
  subst e
  exact ⟨vp_in_nI hk hn, by rw [nI_clamp (by omega)]; exact h⟩
theorem z_st {nx : zNx} {pc : Nat} {ls : List (Option Value)} {r : List Value} {σ : List va_E} {uc us n k a t : Nat} {i x : Int32} {f : Nat → Int32} (e : i = nI k) (hk : k < n) (hn : n < 2 ^ 31) (h : nx pc ls r (σ.set a (.inl (t, n, .inl (upd f k x)))) uc us) : vp_in i n ∧ nx pc ls r (σ.set a (.inl (t, n, .inl (upd f i.toNatClampNeg x)))) uc us := by
  subst e
  exact ⟨vp_in_nI hk hn, by rw [nI_clamp (by omega)]; exact h⟩
theorem z_call {nx : zNx} {g : zG} {d pc uc us : Nat} {ls : List (Option Value)} {av rest : List Value} {σ σ1 : List va_E} {v1 : Option Value} (h : zRuns g d av σ (fun v σ' => v = v1 ∧ σ' = σ1)) (k : nx pc ls (v1.toList ++ rest) σ1 uc us) : True ∧ zRuns g d av σ (fun v σ' => nx pc ls (v.toList ++ rest) σ' uc us) := ⟨trivial, h.eq k⟩
theorem z_callE {nx : zNx} {g : zG} {d pc uc us : Nat} {ls : List (Option Value)} {av rest : List Value} {σ : List va_E} {P : Option Value → List va_E → Prop} (h : zRuns g d av σ P) (k : ∀ v σ', P v σ' → nx pc ls (v.toList ++ rest) σ' uc us) : True ∧ zRuns g d av σ (fun v σ' => nx pc ls (v.toList ++ rest) σ' uc us) := ⟨trivial, h.mono k⟩
theorem q0 : (0 : Int32) = nI 0 := rfl
theorem q1 : (1 : Int32) = nI 1 := rfl
theorem q2 : (2 : Int32) = nI 2 := rfl
theorem q3 : (3 : Int32) = nI 3 := rfl
theorem q4 : (4 : Int32) = nI 4 := rfl
theorem q5 : (5 : Int32) = nI 5 := rfl
theorem q6 : (6 : Int32) = nI 6 := rfl
theorem q7 : (7 : Int32) = nI 7 := rfl
theorem q8 : (8 : Int32) = nI 8 := rfl
theorem q9 : (9 : Int32) = nI 9 := rfl
theorem q10 : (10 : Int32) = nI 10 := rfl
theorem q11 : (11 : Int32) = nI 11 := rfl
theorem q12 : (12 : Int32) = nI 12 := rfl
theorem q13 : (13 : Int32) = nI 13 := rfl
theorem q18 : (18 : Int32) = nI 18 := rfl
theorem q20 : (20 : Int32) = nI 20 := rfl
theorem q22 : (22 : Int32) = nI 22 := rfl
theorem q23 : (23 : Int32) = nI 23 := rfl
theorem q28 : (28 : Int32) = nI 28 := rfl
theorem q29 : (29 : Int32) = nI 29 := rfl
theorem q30 : (30 : Int32) = nI 30 := rfl
theorem q41 : (41 : Int32) = nI 41 := rfl
theorem q42 : (42 : Int32) = nI 42 := rfl
theorem q48 : (48 : Int32) = nI 48 := rfl
theorem q49 : (49 : Int32) = nI 49 := rfl
theorem q53 : (53 : Int32) = nI 53 := rfl
theorem q54 : (54 : Int32) = nI 54 := rfl
theorem q55 : (55 : Int32) = nI 55 := rfl
theorem q60 : (60 : Int32) = nI 60 := rfl
theorem q88 : (88 : Int32) = nI 88 := rfl
theorem q92 : (92 : Int32) = nI 92 := rfl
theorem q100 : (100 : Int32) = nI 100 := rfl
theorem q230 : (230 : Int32) = nI 230 := rfl
theorem bI_and (b : Bool) : bI b &&& 1 = bI b := by cases b <;> decide
end
section
/-! the reference, its questions: what each answers, over its own numbers -/
def hasB (x i : Int32) : Bool := decide ((x >>> (i &&& 31)) &&& 1 = 1)
def onesU (x : Int32) : Nat → Int32
  | 0 => 0
  | j + 1 => onesU x j + ((x >>> (nI j &&& 31)) &&& 1)
def offF (a b : Int32) : Int32 := if a ≤ b then b - a else a - b
def okM (M : zS) (n k : Nat) : Prop := n ≤ 7 ∧ k ≤ 4 ∧ M 0 6 = nI n ∧ M 0 7 = nI k ∧ (∃ j, j ≤ 6 ∧ M 0 4 = nI j) ∧
  (∀ m, m < n → (∃ p, p ≤ 15 ∧ M 2 (3 * m) = nI p) ∧ (∃ p, p ≤ 63 ∧ M 2 (3 * m + 1) = nI p) ∧ (∃ p, 1 ≤ p ∧ p ≤ 99 ∧ M 2 (3 * m + 2) = nI p)) ∧
  (∀ x, x < k → (∃ p, p < 6 ∧ M 4 (6 * x) = nI p) ∧ (∃ p, p < 6 ∧ M 4 (6 * x + 1) = nI p) ∧ (∃ p, p ≤ 15 ∧ M 4 (6 * x + 2) = nI p) ∧ (∃ p, p ≤ 5 ∧ M 4 (6 * x + 3) = nI p) ∧ (∃ p, 1 ≤ p ∧ p ≤ 2 ∧ M 4 (6 * x + 4) = nI p) ∧ (M 4 (6 * x + 5) = -1 ∨ ∃ p, p < x ∧ M 4 (6 * x + 5) = nI p))
section M1
variable {d : Nat} {M : zS} {n k : Nat} {σ : List va_E}
theorem c_M_in {x lo hi : Int32} : zRuns gM_in d [.int x, .int lo, .int hi] σ (fun v σ' => v = some (.int (bI (decide (lo ≤ x ∧ x ≤ hi)))) ∧ σ' = σ) := by
  refine m_M_in [] rfl (Nat.le_of_ble_eq_true rfl) ?_
  refine ⟨fun h1 => ?_, fun h1 => ?_⟩
  · exact ⟨rfl, by rw [bI_ndec (fun q => Int32.lt_irrefl (Int32.lt_of_lt_of_le h1 q.1))], rfl⟩
  · refine ⟨fun h2 => ?_, fun h2 => ?_⟩
    · exact ⟨rfl, by rw [bI_ndec (fun q => Int32.lt_irrefl (Int32.lt_of_lt_of_le h2 q.2))], rfl⟩
    · exact ⟨rfl, by rw [bI_dec ⟨Int32.not_lt.mp h1, Int32.not_lt.mp h2⟩], rfl⟩
theorem c_M_has {x i : Int32} : zRuns gM_has d [.int x, .int i] σ (fun v σ' => v = some (.int (bI (hasB x i))) ∧ σ' = σ) := by
  refine m_M_has [] rfl (Nat.le_of_ble_eq_true rfl) ?_
  refine ⟨fun h1 => ?_, fun h1 => ?_⟩
  · exact ⟨rfl, by unfold hasB; rw [bI_dec h1], rfl⟩
  · exact ⟨rfl, by unfold hasB; rw [bI_ndec h1], rfl⟩
theorem c_M_ones {x : Int32} : zRuns gM_ones d [.int x] σ (fun v σ' => v = some (.int (onesU x 7)) ∧ σ' = σ) := by
  refine m_M_ones [4] rfl (Nat.le_of_ble_eq_true rfl) ?_
  refine ⟨trivial, ?_⟩
  refine z_up (P := fun j => ∀ i a, i = nI j → a = onesU x j → zGood gM_ones d (fun v σ' => v = some (.int (onesU x 7)) ∧ σ' = σ) 4 [some (.int x), some (.int a), some (.int i)] [] σ 0 0) 7 (fun j hj ih i a hi ha => ?_) 0 (Nat.zero_le _) 0 0 nI_0.symm rfl
  subst hi; subst ha
  refine w_M_ones [4] ?_
  refine ⟨fun q => ?_, fun q => ?_⟩
  · have : j = 7 := Nat.le_antisymm hj (Nat.not_lt.mp fun z => nI_ge z (by omega) q)
    subst this
    exact ⟨rfl, rfl⟩
  · exact ⟨trivial, ih (Nat.not_le.mp fun z => q (nI_le z (by omega))) _ _ (nI_1 j) rfl⟩
theorem c_M_off {x y : Int32} : zRuns gM_off d [.int x, .int y] σ (fun v σ' => v = some (.int (offF x y)) ∧ σ' = σ) := by
  refine m_M_off [] rfl (Nat.le_of_ble_eq_true rfl) ?_
  refine ⟨fun h => ?_, fun h => ?_⟩
  · exact ⟨by unfold offF; rw [if_pos h], rfl⟩
  · exact ⟨by unfold offF; rw [if_neg h], rfl⟩
def wh (M : zS) (m x : Nat) : Int32 := M 8 (13 + 6 * m + (M 4 (6 * x + 1)).toNatClampNeg)
theorem okM_T (I : okM M n k) {x : Nat} (hx : x < k) : ∃ t, t < 6 ∧ M 4 (6 * x + 1) = nI t := (I.2.2.2.2.2.2 x hx).2.1
theorem c_M_whereIs (I : okM M n k) {m x : Nat} (hm : m < n) (hx : x < k) : zRuns gM_whereIs d [.ref 0, .int (nI m), .int (nI x)] (encM M) (fun v σ' => v = some (.int (wh M m x)) ∧ σ' = encM M) := by
  obtain ⟨t, ht, et⟩ := okM_T I hx
  have h7 := I.1; have h4 := I.2.1
  refine m_M_whereIs [] rfl (Nat.le_of_ble_eq_true rfl) ?_
  refine z_ld (z_ad (z_mu q6 rfl) q1) (by omega) (by decide) ?_
  refine z_ld (z_ad (z_ad q13 (z_mu q6 rfl)) et) (by omega) (by decide) ?_
  exact ⟨by unfold wh; rw [et, nI_clamp (by omega)], rfl⟩
def nearB (M : zS) (m x : Nat) : Bool := decide (wh M m x ≠ -1) && decide (offF (wh M m x) (M 4 (6 * x)) < 2)
theorem c_M_isNear (I : okM M n k) {m x : Nat} (hm : m < n) (hx : x < k) : zRuns gM_isNear (d + 1) [.ref 0, .int (nI m), .int (nI x)] (encM M) (fun v σ' => v = some (.int (bI (nearB M m x))) ∧ σ' = encM M) := by
  have h7 := I.1; have h4 := I.2.1
  refine m_M_isNear [] rfl (Nat.le_of_ble_eq_true rfl) ?_
  refine z_call (c_M_whereIs I hm hx) ?_
  refine ⟨fun h => ?_, fun h => ?_⟩
  · exact ⟨rfl, by simp [nearB, h, bI], rfl⟩
  · refine z_call (c_M_whereIs I hm hx) ?_
    refine z_ld (z_mu q6 rfl) (by omega) (by decide) ?_
    refine z_call c_M_off ?_
    refine ⟨fun h2 => ?_, fun h2 => ?_⟩
    · exact ⟨rfl, by simp [nearB, h, Int32.not_lt.mpr h2, bI], rfl⟩
    · exact ⟨rfl, by simp [nearB, h, Int32.not_le.mp h2, bI], rfl⟩
def canB (M : zS) (m x : Nat) : Bool := decide (M 4 (6 * x + 2) &&& (M 2 (3 * m) ^^^ -1) = 0)
theorem c_M_can (I : okM M n k) {m x : Nat} (hm : m < n) (hx : x < k) : zRuns gM_can d [.ref 0, .int (nI m), .int (nI x)] (encM M) (fun v σ' => v = some (.int (bI (canB M m x))) ∧ σ' = encM M) := by
  have h7 := I.1; have h4 := I.2.1
  refine m_M_can [] rfl (Nat.le_of_ble_eq_true rfl) ?_
  refine z_ld (z_ad (z_mu q6 rfl) q2) (by omega) (by decide) ?_
  refine z_ld (z_mu q3 rfl) (by omega) (by decide) ?_
  refine ⟨fun h => ?_, fun h => ?_⟩
  · exact ⟨rfl, by unfold canB; rw [bI_dec h], rfl⟩
  · exact ⟨rfl, by unfold canB; rw [bI_ndec h], rfl⟩
def belF (M : zS) (m x : Nat) (p w : Int32) : Int32 := 1 + (if hasB (M 2 (3 * m + 1)) (M 4 (6 * x + 3)) then 2 else 0) + (if p = M 4 (6 * x) then 2 else 0) - w
theorem c_M_beliefAt (I : okM M n k) {m x : Nat} {p w : Int32} (hm : m < n) (hx : x < k) : zRuns gM_beliefAt (d + 1) [.ref 0, .int (nI m), .int (nI x), .int p, .int w] (encM M) (fun v σ' => v = some (.int (belF M m x p w)) ∧ σ' = encM M) := by
  have h7 := I.1; have h4 := I.2.1
  refine m_M_beliefAt [] rfl (Nat.le_of_ble_eq_true rfl) ?_
  refine z_ld (z_ad (z_mu q3 rfl) q1) (by omega) (by decide) ?_
  refine z_ld (z_ad (z_mu q6 rfl) q3) (by omega) (by decide) ?_
  refine z_call c_M_has ?_
  refine ⟨fun h => ?_, fun h => ?_⟩
  · refine z_ld (z_mu q6 rfl) (by omega) (by decide) ?_
    refine ⟨fun h2 => ?_, fun h2 => ?_⟩
    · exact ⟨by simp [belF, bI_0 h, h2], rfl⟩
    · exact ⟨by simp [belF, bI_0 h, h2], rfl⟩
  · refine z_ld (z_mu q6 rfl) (by omega) (by decide) ?_
    refine ⟨fun h2 => ?_, fun h2 => ?_⟩
    · exact ⟨by simp [belF, bI_1 h, h2], rfl⟩
    · exact ⟨by simp [belF, bI_1 h, h2], rfl⟩
end M1
end
section
theorem z_b {A B : Prop} {b : Bool} (ht : b = false → A) (hf : b = true → B) : (bI b = 0 → A) ∧ (¬ bI b = 0 → B) := ⟨fun h => ht (bI_0 h), fun h => hf (bI_1 h)⟩
theorem z0a (m : Nat) : (0 : Int32) + nI m = nI m := by rw [q0, nI_add, Nat.zero_add]
theorem z_end {a : Int32} {j N : Nat} (e : a = nI N) (hj : j ≤ N) (hN : N < 2 ^ 31) (q : a ≤ nI j) : j = N := by
  subst e
  exact Nat.le_antisymm hj (Nat.not_lt.mp fun z => nI_ge z hN q)
theorem z_go {a : Int32} {j N : Nat} (e : a = nI N) (hj : j ≤ N) (hN : N < 2 ^ 31) (q : ¬ a ≤ nI j) : j < N := by
  subst e
  exact Nat.not_le.mp fun z => q (nI_le z (by omega))
def ixB (n : Nat) (m : Int32) : Bool := decide (0 ≤ m ∧ m < nI n)
theorem ixB_t {n : Nat} {m : Int32} (hn : n < 2 ^ 31) (h : ixB n m = true) : ∃ j, j < n ∧ m = nI j := by
  obtain ⟨h1, h2⟩ := of_decide_eq_true h
  obtain ⟨j, hj, rfl⟩ := nI_of (Int32.not_lt.mpr h1)
  exact ⟨j, Nat.not_le.mp fun z => nI_nlt z (by omega) h2, rfl⟩
theorem ixB_m {n : Nat} {m : Int32} (hn : n < 2 ^ 30) : decide (0 ≤ m ∧ m ≤ nI n - 1) = ixB n m := by
  unfold ixB
  congr 1
  have e : (nI n - nI 1).toInt = (n : Int) - 1 := pk_sub_toInt hn (by decide)
  have e2 : nI n - 1 = nI n - nI 1 := rfl
  rw [e2, Int32.le_iff_toInt_le, Int32.le_iff_toInt_le, Int32.lt_iff_toInt_lt, e, nI_toInt (by omega)]
  apply propext
  constructor
  · intro h; exact ⟨h.1, by omega⟩
  · intro h; exact ⟨h.1, by omega⟩
def bits (p : Nat → Bool) : Nat → Int32
  | 0 => 0
  | j + 1 => bits p j ||| (if p j then (1 <<< (nI j &&& 31)) else 0)
theorem bits_t {p : Nat → Bool} {j : Nat} (h : p j = true) : bits p j ||| (1 <<< (nI j &&& 31)) = bits p (j + 1) := by simp [bits, h]
theorem bits_f {p : Nat → Bool} {j : Nat} (h : p j = false) : bits p j ||| 0 = bits p (j + 1) := by simp [bits, h]
theorem bits_c {p : Nat → Bool} {j : Nat} (h : p j = false) : bits p j = bits p (j + 1) := by simp [bits, h]
theorem bits_congr {p q : Nat → Bool} : ∀ {n : Nat}, (∀ j, j < n → p j = q j) → bits p n = bits q n
  | 0, _ => rfl
  | n + 1, h => by
    have h1 : bits p n = bits q n := bits_congr fun j hj => h j (by omega)
    simp only [bits]
    rw [h1, h n (by omega)]
def allU (p : Nat → Bool) : Nat → Bool
  | 0 => true
  | j + 1 => allU p j && p j
def fitsB (M : zS) (m x : Nat) (w : Int32) : Bool := nearB M m x && (canB M m x && decide (M 0 4 ≤ belF M m x (wh M m x) w))
def farB (M : zS) (x y : Nat) : Bool := decide (¬ offF (M 4 (6 * x)) (M 4 (6 * y)) ≤ offF (M 4 (6 * x + 1)) (M 4 (6 * y + 1)))
def freeF (M : zS) (x : Nat) : Int32 := M 4 (6 * x + 4) - onesU (M 8 (7 + x)) 7
def allFreeU (M : zS) : Nat → Int32
  | 0 => 0
  | j + 1 => allFreeU M j + freeF M j
def blamesF (M : zS) (k m : Nat) : Int32 := bits (fun x => hasB (M 8 (7 + x)) (nI m)) k
def mayB (M : zS) (k m x : Nat) : Bool := (decide (0 < freeF M x) && (!hasB (M 8 (7 + x)) (nI m) && fitsB M m x (M 8 m))) && allU (fun y => !(hasB (M 8 (7 + y)) (nI m) && farB M x y)) k
def mayForF (M : zS) (n k x : Nat) : Int32 := bits (fun m => mayB M k m x) n
section M2
variable {d : Nat} {M : zS} {n k : Nat} {σ : List va_E}
theorem c_M_fits (I : okM M n k) {m x : Nat} {w : Int32} (hm : m < n) (hx : x < k) : zRuns gM_fits (d + 2) [.ref 0, .int (nI m), .int (nI x), .int w] (encM M) (fun v σ' => v = some (.int (bI (fitsB M m x w))) ∧ σ' = encM M) := by
  refine m_M_fits [] rfl (Nat.le_of_ble_eq_true rfl) ?_
  refine z_call (c_M_isNear I hm hx) ?_
  refine z_b (fun h => ?_) (fun h => ?_)
  · exact ⟨rfl, by simp [fitsB, h, bI], rfl⟩
  refine z_call (c_M_can I hm hx) ?_
  refine z_b (fun h2 => ?_) (fun h2 => ?_)
  · exact ⟨rfl, by simp [fitsB, h, h2, bI], rfl⟩
  refine z_call (c_M_whereIs I hm hx) ?_
  refine z_call (c_M_beliefAt I hm hx) ?_
  refine ⟨fun h3 => ?_, fun h3 => ?_⟩
  · exact ⟨rfl, by simp [fitsB, h, h2, Int32.not_le.mpr h3, bI], rfl⟩
  · exact ⟨rfl, by simp [fitsB, h, h2, Int32.not_lt.mp h3, bI], rfl⟩
theorem c_M_areFar (I : okM M n k) {x y : Nat} (hx : x < k) (hy : y < k) : zRuns gM_areFar (d + 1) [.ref 0, .int (nI x), .int (nI y)] (encM M) (fun v σ' => v = some (.int (bI (farB M x y))) ∧ σ' = encM M) := by
  have h4 := I.2.1
  refine m_M_areFar [] rfl (Nat.le_of_ble_eq_true rfl) ?_
  refine z_ld (z_mu q6 rfl) (by omega) (by decide) ?_
  refine z_ld (z_mu q6 rfl) (by omega) (by decide) ?_
  refine z_call c_M_off ?_
  refine z_ld (z_ad (z_mu q6 rfl) q1) (by omega) (by decide) ?_
  refine z_ld (z_ad (z_mu q6 rfl) q1) (by omega) (by decide) ?_
  refine z_call c_M_off ?_
  refine ⟨fun h3 => ?_, fun h3 => ?_⟩
  · exact ⟨rfl, by unfold farB; rw [bI_ndec (fun q => q h3)], rfl⟩
  · exact ⟨rfl, by unfold farB; rw [bI_dec h3], rfl⟩
theorem c_M_blamedFor (I : okM M n k) {x : Nat} (hx : x < k) : zRuns gM_blamedFor d [.ref 0, .int (nI x)] (encM M) (fun v σ' => v = some (.int (M 8 (7 + x))) ∧ σ' = encM M) := by
  have h4 := I.2.1
  refine m_M_blamedFor [] rfl (Nat.le_of_ble_eq_true rfl) ?_
  refine z_ld (z_ad q7 rfl) (by omega) (by decide) ?_
  exact ⟨rfl, rfl⟩
theorem c_M_free (I : okM M n k) {x : Nat} (hx : x < k) : zRuns gM_free (d + 1) [.ref 0, .int (nI x)] (encM M) (fun v σ' => v = some (.int (freeF M x)) ∧ σ' = encM M) := by
  have h4 := I.2.1
  refine m_M_free [] rfl (Nat.le_of_ble_eq_true rfl) ?_
  refine z_ld (z_ad (z_mu q6 rfl) q4) (by omega) (by decide) ?_
  refine z_call (c_M_blamedFor I hx) ?_
  refine z_call c_M_ones ?_
  exact ⟨rfl, rfl⟩
theorem c_M_allFree (I : okM M n k) : zRuns gM_allFree (d + 2) [.ref 0] (encM M) (fun v σ' => v = some (.int (allFreeU M k)) ∧ σ' = encM M) := by
  have h4 := I.2.1
  refine m_M_allFree [4] rfl (Nat.le_of_ble_eq_true rfl) ?_
  refine ⟨trivial, ?_⟩
  refine z_up (P := fun j => ∀ i a, i = nI j → a = allFreeU M j → zGood gM_allFree (d + 2) (fun v σ' => v = some (.int (allFreeU M k)) ∧ σ' = encM M) 4 [some (.ref 0), some (.int a), some (.int i)] [] (encM M) 0 0) k (fun j hj ih i a hi ha => ?_) 0 (Nat.zero_le _) 0 0 nI_0.symm rfl
  subst hi; subst ha
  refine w_M_allFree [4] ?_
  refine ⟨fun q => ?_, fun q => ?_⟩
  · have e := z_end I.2.2.2.1 hj (by omega) q
    subst e
    exact ⟨rfl, rfl⟩
  · have hlt := z_go I.2.2.2.1 hj (by omega) q
    refine z_call (c_M_free I hlt) ?_
    exact ⟨trivial, ih hlt _ _ (nI_1 j) rfl⟩
theorem c_M_blamesOf (I : okM M n k) {m : Nat} : zRuns gM_blamesOf (d + 2) [.ref 0, .int (nI m)] (encM M) (fun v σ' => v = some (.int (blamesF M k m)) ∧ σ' = encM M) := by
  have h4 := I.2.1
  refine m_M_blamesOf [4] rfl (Nat.le_of_ble_eq_true rfl) ?_
  refine ⟨trivial, ?_⟩
  refine z_up (P := fun j => ∀ i a, i = nI j → a = blamesF M j m → zGood gM_blamesOf (d + 2) (fun v σ' => v = some (.int (blamesF M k m)) ∧ σ' = encM M) 4 [some (.ref 0), some (.int (nI m)), some (.int a), some (.int i)] [] (encM M) 0 0) k (fun j hj ih i a hi ha => ?_) 0 (Nat.zero_le _) 0 0 nI_0.symm rfl
  subst hi; subst ha
  refine w_M_blamesOf [4] ?_
  refine ⟨fun q => ?_, fun q => ?_⟩
  · have e := z_end I.2.2.2.1 hj (by omega) q
    subst e
    exact ⟨rfl, rfl⟩
  · have hlt := z_go I.2.2.2.1 hj (by omega) q
    refine z_call (c_M_blamedFor I hlt) ?_
    refine z_call c_M_has ?_
    refine z_b (fun h => ?_) (fun h => ?_)
    · refine ⟨trivial, ih hlt _ _ (nI_1 j) ?_⟩
      exact bits_f (p := fun x => hasB (M 8 (7 + x)) (nI m)) h
    · refine ⟨trivial, ih hlt _ _ (nI_1 j) ?_⟩
      exact bits_t (p := fun x => hasB (M 8 (7 + x)) (nI m)) h
theorem c_M_mayBe (I : okM M n k) {m x : Nat} (hm : m < n) (hx : x < k) : zRuns gM_mayBe (d + 3) [.ref 0, .int (nI m), .int (nI x)] (encM M) (fun v σ' => v = some (.int (bI (mayB M k m x))) ∧ σ' = encM M) := by
  have h7 := I.1; have h4 := I.2.1
  have loop : ∀ (b : Bool), (decide (0 < freeF M x) && (!hasB (M 8 (7 + x)) (nI m) && fitsB M m x (M 8 m))) = b → zGood gM_mayBe (d + 3) (fun v σ' => v = some (.int (bI (mayB M k m x))) ∧ σ' = encM M) 46 [some (.ref 0), some (.int (nI m)), some (.int (nI x)), some (.int (bI b)), some (.int 0)] [] (encM M) 0 0 := by
    intro b hb
    refine z_up (P := fun j => ∀ i a, i = nI j → a = bI (b && allU (fun y => !(hasB (M 8 (7 + y)) (nI m) && farB M x y)) j) → zGood gM_mayBe (d + 3) (fun v σ' => v = some (.int (bI (mayB M k m x))) ∧ σ' = encM M) 46 [some (.ref 0), some (.int (nI m)), some (.int (nI x)), some (.int a), some (.int i)] [] (encM M) 0 0) k (fun j hj ih i a hi ha => ?_) 0 (Nat.zero_le _) 0 (bI b) nI_0.symm (by simp [allU])
    subst hi; subst ha
    refine w_M_mayBe [46] ?_
    refine ⟨fun q => ?_, fun q => ?_⟩
    · have e := z_end I.2.2.2.1 hj (by omega) q
      subst e
      refine ⟨bI_and _, ?_, rfl⟩
      unfold mayB
      rw [hb]
    · have hlt := z_go I.2.2.2.1 hj (by omega) q
      refine z_b (fun h => ?_) (fun h => ?_)
      · refine ⟨trivial, ih hlt _ _ (nI_1 j) ?_⟩
        simp only [allU]
        rw [← Bool.and_assoc, h]
        rfl
      · refine z_call (c_M_blamedFor I hlt) ?_
        refine z_call c_M_has ?_
        refine z_b (fun h2 => ?_) (fun h2 => ?_)
        · refine ⟨trivial, ih hlt _ _ (nI_1 j) ?_⟩
          simp only [allU]
          rw [← Bool.and_assoc, h, h2]
          rfl
        · refine z_call (c_M_areFar I hx hlt) ?_
          refine z_b (fun h3 => ?_) (fun h3 => ?_)
          · refine ⟨trivial, ih hlt _ _ (nI_1 j) ?_⟩
            simp only [allU]
            rw [← Bool.and_assoc, h, h2, h3]
            rfl
          · refine ⟨trivial, ih hlt _ _ (nI_1 j) ?_⟩
            simp only [allU]
            rw [← Bool.and_assoc, h, h2, h3]
            rfl
  refine m_M_mayBe [46] rfl (Nat.le_of_ble_eq_true rfl) ?_
  refine z_call (c_M_free I hx) ?_
  refine ⟨fun h => ?_, fun h => ?_⟩
  · exact ⟨trivial, loop false (by simp [Int32.not_lt.mpr h])⟩
  have h0 : 0 < freeF M x := Int32.not_le.mp h
  refine z_call (c_M_blamedFor I hx) ?_
  refine z_call c_M_has ?_
  refine z_b (fun h2 => ?_) (fun h2 => ?_)
  · refine z_ld (z0a m) (by omega) (by decide) ?_
    refine z_call (c_M_fits I hm hx) ?_
    refine z_b (fun h3 => ?_) (fun h3 => ?_)
    · exact ⟨trivial, loop false (by simp [h3])⟩
    · exact ⟨trivial, loop true (by simp [h0, h2, h3])⟩
  · exact ⟨trivial, loop false (by simp [h2])⟩
theorem c_M_mayFor (I : okM M n k) {x : Nat} (hx : x < k) : zRuns gM_mayFor (d + 4) [.ref 0, .int (nI x)] (encM M) (fun v σ' => v = some (.int (mayForF M n k x)) ∧ σ' = encM M) := by
  have h7 := I.1
  refine m_M_mayFor [4] rfl (Nat.le_of_ble_eq_true rfl) ?_
  refine ⟨trivial, ?_⟩
  refine z_up (P := fun j => ∀ i a, i = nI j → a = bits (fun m => mayB M k m x) j → zGood gM_mayFor (d + 4) (fun v σ' => v = some (.int (mayForF M n k x)) ∧ σ' = encM M) 4 [some (.ref 0), some (.int (nI x)), some (.int a), some (.int i)] [] (encM M) 0 0) n (fun j hj ih i a hi ha => ?_) 0 (Nat.zero_le _) 0 0 nI_0.symm rfl
  subst hi; subst ha
  refine w_M_mayFor [4] ?_
  refine ⟨fun q => ?_, fun q => ?_⟩
  · have e := z_end I.2.2.1 hj (by omega) q
    subst e
    exact ⟨rfl, rfl⟩
  · have hlt := z_go I.2.2.1 hj (by omega) q
    refine z_call (c_M_mayBe I hlt hx) ?_
    refine z_b (fun h => ?_) (fun h => ?_)
    · refine ⟨trivial, ih hlt _ _ (nI_1 j) ?_⟩
      exact bits_f (p := fun m => mayB M k m x) h
    · refine ⟨trivial, ih hlt _ _ (nI_1 j) ?_⟩
      exact bits_t (p := fun m => mayB M k m x) h
theorem c_M_isMan (I : okM M n k) {m : Int32} : zRuns gM_isMan (d + 1) [.ref 0, .int m] (encM M) (fun v σ' => v = some (.int (bI (ixB n m))) ∧ σ' = encM M) := by
  have h7 := I.1
  refine m_M_isMan [] rfl (Nat.le_of_ble_eq_true rfl) ?_
  refine z_call c_M_in ?_
  refine ⟨bI_and _, ?_, rfl⟩
  rw [I.2.2.1, ixB_m (by omega)]
theorem c_M_isMishap (I : okM M n k) {x : Int32} : zRuns gM_isMishap (d + 1) [.ref 0, .int x] (encM M) (fun v σ' => v = some (.int (bI (ixB k x))) ∧ σ' = encM M) := by
  have h7 := I.2.1
  refine m_M_isMishap [] rfl (Nat.le_of_ble_eq_true rfl) ?_
  refine z_call c_M_in ?_
  refine ⟨bI_and _, ?_, rfl⟩
  rw [I.2.2.2.1, ixB_m (by omega)]
end M2
end
section
theorem z_le {x y : Int32} {A B : Prop} {a b : Nat} (hx : x = nI a) (hy : y = nI b) (ha : a < 2 ^ 31) (hb : b < 2 ^ 31) (f : a ≤ b → A) (g : b < a → B) : (x ≤ y → A) ∧ (¬ x ≤ y → B) := by
  subst hx; subst hy
  exact ⟨fun q => f ((nI_leI ha hb).mp q), fun q => g (Nat.not_le.mp fun z => q ((nI_leI ha hb).mpr z))⟩
theorem z_lt {x y : Int32} {A B : Prop} {a b : Nat} (hx : x = nI a) (hy : y = nI b) (ha : a < 2 ^ 31) (hb : b < 2 ^ 31) (f : a < b → A) (g : b ≤ a → B) : (x < y → A) ∧ (¬ x < y → B) := by
  subst hx; subst hy
  exact ⟨fun q => f ((nI_ltI ha hb).mp q), fun q => g (Nat.not_lt.mp fun z => q ((nI_ltI ha hb).mpr z))⟩
theorem z_eq {x y : Int32} {A B : Prop} {a b : Nat} (hx : x = nI a) (hy : y = nI b) (ha : a < 2 ^ 31) (hb : b < 2 ^ 31) (f : a = b → A) (g : a ≠ b → B) : (x = y → A) ∧ (¬ x = y → B) := by
  subst hx; subst hy
  exact ⟨fun q => f ((nI_eq ha hb).mp q), fun q => g (fun z => q ((nI_eq ha hb).mpr z))⟩
theorem z_dec {A B : Prop} {p : Prop} [Decidable p] (f : ¬ p → A) (g : p → B) : (bI (decide p) = 0 → A) ∧ (¬ bI (decide p) = 0 → B) := z_b (fun h => f (of_decide_eq_false h)) (fun h => g (of_decide_eq_true h))
/-- a number between two -/
theorem z_rng {x : Int32} {N : Nat} (hN : N < 2 ^ 31) (h : 0 ≤ x ∧ x ≤ nI N) : ∃ j, j ≤ N ∧ x = nI j := by
  obtain ⟨j, hj, rfl⟩ := nI_of (Int32.not_lt.mpr h.1)
  exact ⟨j, (nI_leI hj hN).mp h.2, rfl⟩
abbrev kUNK : Int32 := -1000000001
abbrev kOUT : Int32 := -1000000002
abbrev kNOT : Int32 := -1000000003
abbrev kFUL : Int32 := -1000000004
def pMan (M : zS) (n k : Nat) (m w : Int32) : Int32 := if ixB n m = false then kUNK else if ¬ (0 ≤ w ∧ w ≤ 10) then kOUT else
  if w.toNatClampNeg < 3 then M 2 (3 * m.toNatClampNeg + w.toNatClampNeg) else if w.toNatClampNeg = 3 then M 8 m.toNatClampNeg else if w.toNatClampNeg = 4 then blamesF M k m.toNatClampNeg else M 8 (13 + 6 * m.toNatClampNeg + (w.toNatClampNeg - 5))
def pMishap (M : zS) (k : Nat) (x w : Int32) : Int32 := if ixB k x = false then kUNK else if ¬ (0 ≤ w ∧ w ≤ 6) then kOUT else if w.toNatClampNeg < 6 then M 4 (6 * x.toNatClampNeg + w.toNatClampNeg) else M 8 (7 + x.toNatClampNeg)
def pBelief (M : zS) (n k : Nat) (m x : Int32) : Int32 := if ixB n m = false then kUNK else if ixB k x = false then kUNK else
  if (nearB M m.toNatClampNeg x.toNatClampNeg && canB M m.toNatClampNeg x.toNatClampNeg) = false then 0 else 10 + belF M m.toNatClampNeg x.toNatClampNeg (wh M m.toNatClampNeg x.toNatClampNeg) (M 8 m.toNatClampNeg)
def pTold (M : zS) (k : Nat) (w : Int32) : Int32 := if w = Int32.ofNat 0 then (if M 0 3 = 0 then 0 else 1) else if w = Int32.ofNat 1 then M 0 4 else if w = Int32.ofNat 2 then M 0 5 else if w = Int32.ofNat 3 then M 0 6 else if w = Int32.ofNat 4 then M 0 7 else if w = Int32.ofNat 5 then M 0 1 else if w = Int32.ofNat 6 then M 8 12 else if w = Int32.ofNat 7 then M 8 11 else if w = Int32.ofNat 8 then allFreeU M k else if w = Int32.ofNat 9 then M 0 26 else if w = Int32.ofNat 10 then M 0 28 else if w = Int32.ofNat 11 then M 0 20 else kOUT
def pMay (M : zS) (n k : Nat) (x : Int32) : Int32 := if ixB k x = false then kUNK else mayForF M n k x.toNatClampNeg
def pOrphans (M : zS) (n k : Nat) : Int32 := bits (fun x => decide (0 < freeF M x) && decide (mayForF M n k x = 0)) k
def pCulprits (M : zS) (n k : Nat) (x : Int32) : Int32 := if ixB k x = false then kUNK else bits (fun m => canB M m x.toNatClampNeg && decide (wh M m x.toNatClampNeg = M 4 (6 * x.toNatClampNeg))) n
def pIdle (M : zS) (n k : Nat) : Int32 := bits (fun m => decide (blamesF M k m = 0)) n
section M3
variable {d : Nat} {M : zS} {n k : Nat} {σ : List va_E}
theorem c_M_man (I : okM M n k) {m w : Int32} : zRuns gM_man (d + 3) [.ref 0, .int m, .int w] (encM M) (fun v σ' => v = some (.int (pMan M n k m w)) ∧ σ' = encM M) := by
  have h7 := I.1; have h4 := I.2.1
  refine m_M_man [] rfl (Nat.le_of_ble_eq_true rfl) ?_
  refine z_call (c_M_isMan I) ?_
  refine z_b (fun h => ?_) (fun h => ?_)
  · exact ⟨by simp [pMan, h], rfl⟩
  obtain ⟨i, hi, rfl⟩ := ixB_t (by omega) h
  refine z_call c_M_in ?_
  refine z_dec (fun h2 => ?_) (fun h2 => ?_)
  · exact ⟨by simp only [pMan, h]; rw [if_neg (by decide), if_pos h2], rfl⟩
  obtain ⟨q, hq, rfl⟩ := z_rng (N := 10) (by decide) h2
  have ei : (nI i).toNatClampNeg = i := nI_clamp (by omega)
  have eq : (nI q).toNatClampNeg = q := nI_clamp (by omega)
  have e0 : pMan M n k (nI i) (nI q) = if q < 3 then M 2 (3 * i + q) else if q = 3 then M 8 i else if q = 4 then blamesF M k i else M 8 (13 + 6 * i + (q - 5)) := by
    unfold pMan
    rw [h, if_neg (by decide), if_neg (fun z => z h2), ei, eq]
  rw [e0]
  refine z_le q3 rfl (by decide) (by omega) (fun h3 => ?_) (fun h3 => ?_)
  · refine z_eq rfl q3 (by omega) (by decide) (fun h5 => ?_) (fun h5 => ?_)
    · refine z_ld (z0a i) (by omega) (by decide) ?_
      exact ⟨by rw [if_neg (by omega), if_pos h5], rfl⟩
    refine z_eq rfl q4 (by omega) (by decide) (fun h6 => ?_) (fun h6 => ?_)
    · refine z_call (c_M_blamesOf I) ?_
      exact ⟨by rw [if_neg (by omega), if_neg h5, if_pos h6], rfl⟩
    · refine z_ld (k := 13 + 6 * i + (q - 5)) ?_ (by omega) (by decide) ?_
      · rw [show (13 : Int32) + 6 * nI i + nI q = nI (13 + 6 * i + q) from z_ad (z_ad q13 (z_mu q6 rfl)) rfl, q5, pk_sub (by omega)]
        congr 1
        omega
      · exact ⟨by rw [if_neg (by omega), if_neg h5, if_neg h6], rfl⟩
  · refine z_ld (z_ad (z_mu q3 rfl) rfl) (by omega) (by decide) ?_
    exact ⟨by rw [if_pos h3], rfl⟩
theorem c_M_mishap (I : okM M n k) {x w : Int32} : zRuns gM_mishap (d + 3) [.ref 0, .int x, .int w] (encM M) (fun v σ' => v = some (.int (pMishap M k x w)) ∧ σ' = encM M) := by
  have h7 := I.1; have h4 := I.2.1
  refine m_M_mishap [] rfl (Nat.le_of_ble_eq_true rfl) ?_
  refine z_call (c_M_isMishap I) ?_
  refine z_b (fun h => ?_) (fun h => ?_)
  · exact ⟨by simp [pMishap, h], rfl⟩
  obtain ⟨i, hi, rfl⟩ := ixB_t (by omega) h
  refine z_call c_M_in ?_
  refine z_dec (fun h2 => ?_) (fun h2 => ?_)
  · exact ⟨by simp only [pMishap, h]; rw [if_neg (by decide), if_pos h2], rfl⟩
  obtain ⟨q, hq, rfl⟩ := z_rng (N := 6) (by decide) h2
  have ei : (nI i).toNatClampNeg = i := nI_clamp (by omega)
  have eq : (nI q).toNatClampNeg = q := nI_clamp (by omega)
  have e0 : pMishap M k (nI i) (nI q) = if q < 6 then M 4 (6 * i + q) else M 8 (7 + i) := by
    unfold pMishap
    rw [h, if_neg (by decide), if_neg (fun z => z h2), ei, eq]
  rw [e0]
  refine z_le q6 rfl (by decide) (by omega) (fun h3 => ?_) (fun h3 => ?_)
  · refine z_call (c_M_blamedFor I hi) ?_
    exact ⟨by rw [if_neg (by omega)], rfl⟩
  · refine z_ld (z_ad (z_mu q6 rfl) rfl) (by omega) (by decide) ?_
    exact ⟨by rw [if_pos h3], rfl⟩
theorem c_M_belief (I : okM M n k) {m x : Int32} : zRuns gM_belief (d + 3) [.ref 0, .int m, .int x] (encM M) (fun v σ' => v = some (.int (pBelief M n k m x)) ∧ σ' = encM M) := by
  have h7 := I.1; have h4 := I.2.1
  refine m_M_belief [] rfl (Nat.le_of_ble_eq_true rfl) ?_
  refine z_call (c_M_isMan I) ?_
  refine z_b (fun h => ?_) (fun h => ?_)
  · exact ⟨by simp [pBelief, h], rfl⟩
  refine z_call (c_M_isMishap I) ?_
  refine z_b (fun h1 => ?_) (fun h1 => ?_)
  · exact ⟨by simp [pBelief, h, h1], rfl⟩
  obtain ⟨i, hi, rfl⟩ := ixB_t (by omega) h
  obtain ⟨j, hj, rfl⟩ := ixB_t (by omega) h1
  have ei : (nI i).toNatClampNeg = i := nI_clamp (by omega)
  have ej : (nI j).toNatClampNeg = j := nI_clamp (by omega)
  have e0 : pBelief M n k (nI i) (nI j) = if (nearB M i j && canB M i j) = false then 0 else 10 + belF M i j (wh M i j) (M 8 i) := by
    unfold pBelief
    rw [h, h1, if_neg (by decide), if_neg (by decide), ei, ej]
  rw [e0]
  refine z_call (c_M_isNear I hi hj) ?_
  refine z_b (fun h2 => ?_) (fun h2 => ?_)
  · exact ⟨by simp [h2], rfl⟩
  refine z_call (c_M_can I hi hj) ?_
  refine z_b (fun h3 => ?_) (fun h3 => ?_)
  · exact ⟨by simp [h3], rfl⟩
  refine z_call (c_M_whereIs I hi hj) ?_
  refine z_ld (z0a i) (by omega) (by decide) ?_
  refine z_call (c_M_beliefAt I hi hj) ?_
  exact ⟨by simp [h2, h3], rfl⟩
theorem c_M_told (I : okM M n k) {w : Int32} : zRuns gM_told (d + 3) [.ref 0, .int w] (encM M) (fun v σ' => v = some (.int (pTold M k w)) ∧ σ' = encM M) := by
  refine m_M_told [] rfl (Nat.le_of_ble_eq_true rfl) ?_
  refine ⟨fun h => ?_, fun h0 => ?_⟩
  · subst h
    refine ⟨fun h => ?_, fun h => ?_⟩
    · exact ⟨by rw [show pTold M k (Int32.ofNat 0) = if M 0 3 = 0 then 0 else 1 from rfl, if_pos h], rfl⟩
    · exact ⟨by rw [show pTold M k (Int32.ofNat 0) = if M 0 3 = 0 then 0 else 1 from rfl, if_neg h], rfl⟩
  refine ⟨fun h => ?_, fun h1 => ?_⟩
  · subst h; exact ⟨rfl, rfl⟩
  refine ⟨fun h => ?_, fun h2 => ?_⟩
  · subst h; exact ⟨rfl, rfl⟩
  refine ⟨fun h => ?_, fun h3 => ?_⟩
  · subst h; exact ⟨rfl, rfl⟩
  refine ⟨fun h => ?_, fun h4 => ?_⟩
  · subst h; exact ⟨rfl, rfl⟩
  refine ⟨fun h => ?_, fun h5 => ?_⟩
  · subst h; exact ⟨rfl, rfl⟩
  refine ⟨fun h => ?_, fun h6 => ?_⟩
  · subst h
    refine z_ld (k := 12) q12 (by omega) (by decide) ?_
    exact ⟨rfl, rfl⟩
  refine ⟨fun h => ?_, fun h7 => ?_⟩
  · subst h
    refine z_ld (k := 11) q11 (by omega) (by decide) ?_
    exact ⟨rfl, rfl⟩
  refine ⟨fun h => ?_, fun h8 => ?_⟩
  · subst h
    refine z_call (c_M_allFree I) ?_
    exact ⟨rfl, rfl⟩
  refine ⟨fun h => ?_, fun h9 => ?_⟩
  · subst h; exact ⟨rfl, rfl⟩
  refine ⟨fun h => ?_, fun h10 => ?_⟩
  · subst h; exact ⟨rfl, rfl⟩
  refine ⟨fun h => ?_, fun h11 => ?_⟩
  · subst h; exact ⟨rfl, rfl⟩
  exact ⟨by unfold pTold; rw [if_neg h0, if_neg h1, if_neg h2, if_neg h3, if_neg h4, if_neg h5, if_neg h6, if_neg h7, if_neg h8, if_neg h9, if_neg h10, if_neg h11], rfl⟩
theorem c_M_fault : zRuns gM_fault d [.ref 0] (encM M) (fun v σ' => v = some (.int (M 0 2)) ∧ σ' = encM M) := by
  refine m_M_fault [] rfl (Nat.le_of_ble_eq_true rfl) ?_
  exact ⟨rfl, rfl⟩
theorem c_M_may (I : okM M n k) {x : Int32} : zRuns gM_may (d + 5) [.ref 0, .int x] (encM M) (fun v σ' => v = some (.int (pMay M n k x)) ∧ σ' = encM M) := by
  have h7 := I.1; have h4 := I.2.1
  refine m_M_may [] rfl (Nat.le_of_ble_eq_true rfl) ?_
  refine z_call (c_M_isMishap I) ?_
  refine z_b (fun h => ?_) (fun h => ?_)
  · exact ⟨by simp [pMay, h], rfl⟩
  obtain ⟨i, hi, rfl⟩ := ixB_t (by omega) h
  refine z_call (c_M_mayFor I hi) ?_
  exact ⟨by unfold pMay; rw [h, if_neg (by decide), nI_clamp (by omega)], rfl⟩
theorem c_M_orphans (I : okM M n k) : zRuns gM_orphans (d + 5) [.ref 0] (encM M) (fun v σ' => v = some (.int (pOrphans M n k)) ∧ σ' = encM M) := by
  have h4 := I.2.1
  refine m_M_orphans [4] rfl (Nat.le_of_ble_eq_true rfl) ?_
  refine ⟨trivial, ?_⟩
  refine z_up (P := fun j => ∀ i a, i = nI j → a = bits (fun x => decide (0 < freeF M x) && decide (mayForF M n k x = 0)) j → zGood gM_orphans (d + 5) (fun v σ' => v = some (.int (pOrphans M n k)) ∧ σ' = encM M) 4 [some (.ref 0), some (.int a), some (.int i)] [] (encM M) 0 0) k (fun j hj ih i a hi ha => ?_) 0 (Nat.zero_le _) 0 0 nI_0.symm rfl
  subst hi; subst ha
  refine w_M_orphans [4] ?_
  refine ⟨fun q => ?_, fun q => ?_⟩
  · have e := z_end I.2.2.2.1 hj (by omega) q
    subst e
    exact ⟨rfl, rfl⟩
  · have hlt := z_go I.2.2.2.1 hj (by omega) q
    refine z_call (c_M_free I hlt) ?_
    refine ⟨fun h => ?_, fun h => ?_⟩
    · refine ⟨trivial, ih hlt _ _ (nI_1 j) ?_⟩
      exact bits_f (p := fun x => decide (0 < freeF M x) && decide (mayForF M n k x = 0)) (by simp [Int32.not_lt.mpr h])
    · refine z_call (c_M_mayFor I hlt) ?_
      refine ⟨fun h2 => ?_, fun h2 => ?_⟩
      · refine ⟨trivial, ih hlt _ _ (nI_1 j) ?_⟩
        exact bits_t (p := fun x => decide (0 < freeF M x) && decide (mayForF M n k x = 0)) (by simp [Int32.not_le.mp h, h2])
      · refine ⟨trivial, ih hlt _ _ (nI_1 j) ?_⟩
        exact bits_f (p := fun x => decide (0 < freeF M x) && decide (mayForF M n k x = 0)) (by simp [h2])
theorem c_M_culprits (I : okM M n k) {x : Int32} : zRuns gM_culprits (d + 3) [.ref 0, .int x] (encM M) (fun v σ' => v = some (.int (pCulprits M n k x)) ∧ σ' = encM M) := by
  have h7 := I.1; have h4 := I.2.1
  refine m_M_culprits [15] rfl (Nat.le_of_ble_eq_true rfl) ?_
  refine z_call (c_M_isMishap I) ?_
  refine z_b (fun h => ?_) (fun h => ?_)
  · exact ⟨by simp [pCulprits, h], rfl⟩
  obtain ⟨y, hy, rfl⟩ := ixB_t (by omega) h
  have e0 : pCulprits M n k (nI y) = bits (fun m => canB M m y && decide (wh M m y = M 4 (6 * y))) n := by
    unfold pCulprits
    rw [h, if_neg (by decide), nI_clamp (by omega)]
  rw [e0]
  refine ⟨trivial, ?_⟩
  refine z_up (P := fun j => ∀ i a, i = nI j → a = bits (fun m => canB M m y && decide (wh M m y = M 4 (6 * y))) j → zGood gM_culprits (d + 3) (fun v σ' => v = some (.int (bits (fun m => canB M m y && decide (wh M m y = M 4 (6 * y))) n)) ∧ σ' = encM M) 15 [some (.ref 0), some (.int (nI y)), some (.int a), some (.int i)] [] (encM M) 0 0) n (fun j hj ih i a hi ha => ?_) 0 (Nat.zero_le _) 0 0 nI_0.symm rfl
  subst hi; subst ha
  refine w_M_culprits [15] ?_
  refine ⟨fun q => ?_, fun q => ?_⟩
  · have e := z_end I.2.2.1 hj (by omega) q
    subst e
    exact ⟨rfl, rfl⟩
  · have hlt := z_go I.2.2.1 hj (by omega) q
    refine z_call (c_M_can I hlt hy) ?_
    refine z_b (fun h => ?_) (fun h => ?_)
    · refine ⟨trivial, ih hlt _ _ (nI_1 j) ?_⟩
      exact bits_f (p := fun m => canB M m y && decide (wh M m y = M 4 (6 * y))) (by simp [h])
    · refine z_call (c_M_whereIs I hlt hy) ?_
      refine z_ld (z_mu q6 rfl) (by omega) (by decide) ?_
      refine ⟨fun h2 => ?_, fun h2 => ?_⟩
      · refine ⟨trivial, ih hlt _ _ (nI_1 j) ?_⟩
        exact bits_t (p := fun m => canB M m y && decide (wh M m y = M 4 (6 * y))) (by simp [h, h2])
      · refine ⟨trivial, ih hlt _ _ (nI_1 j) ?_⟩
        exact bits_f (p := fun m => canB M m y && decide (wh M m y = M 4 (6 * y))) (by simp [h2])
theorem c_M_idle (I : okM M n k) : zRuns gM_idle (d + 3) [.ref 0] (encM M) (fun v σ' => v = some (.int (pIdle M n k)) ∧ σ' = encM M) := by
  have h4 := I.1
  refine m_M_idle [4] rfl (Nat.le_of_ble_eq_true rfl) ?_
  refine ⟨trivial, ?_⟩
  refine z_up (P := fun j => ∀ i a, i = nI j → a = bits (fun m => decide (blamesF M k m = 0)) j → zGood gM_idle (d + 3) (fun v σ' => v = some (.int (pIdle M n k)) ∧ σ' = encM M) 4 [some (.ref 0), some (.int a), some (.int i)] [] (encM M) 0 0) n (fun j hj ih i a hi ha => ?_) 0 (Nat.zero_le _) 0 0 nI_0.symm rfl
  subst hi; subst ha
  refine w_M_idle [4] ?_
  refine ⟨fun q => ?_, fun q => ?_⟩
  · have e := z_end I.2.2.1 hj (by omega) q
    subst e
    exact ⟨rfl, rfl⟩
  · have hlt := z_go I.2.2.1 hj (by omega) q
    refine z_call (c_M_blamesOf I) ?_
    refine ⟨fun h2 => ?_, fun h2 => ?_⟩
    · refine ⟨trivial, ih hlt _ _ (nI_1 j) ?_⟩
      exact bits_t (p := fun m => decide (blamesF M k m = 0)) (by simp [h2])
    · refine ⟨trivial, ih hlt _ _ (nI_1 j) ?_⟩
      exact bits_f (p := fun m => decide (blamesF M k m = 0)) (by simp [h2])
end M3
end
section
/-! the reference, its deeds -/
def cpyF (f g : Nat → Int32) (a b : Nat) : Nat → Int32 := fun j => if b ≤ j ∧ j < b + 55 then f (a + (j - b)) else g j
section M4
variable {d : Nat} {M : zS} {n k : Nat} {σ : List va_E}
theorem c_M_copies {r1 r2 n1 n2 a b : Nat} {f g : Nat → Int32} {ia ib : Int32} (ea : ia = nI a) (eb : ib = nI b) (h1 : σ[r1]? = some (.inl (0, n1, .inl f))) (h2 : σ[r2]? = some (.inl (0, n2, .inl g))) (hne : r1 ≠ r2) (ha : a + 55 ≤ n1) (hb : b + 55 ≤ n2) (hn1 : n1 < 2 ^ 31) (hn2 : n2 < 2 ^ 31) :
    zRuns gM_copies d [.ref r1, .int ia, .ref r2, .int ib] σ (fun v σ' => v = none ∧ σ' = σ.set r2 (.inl (0, n2, .inl (cpyF f g a b)))) := by
  subst ea; subst eb
  refine m_M_copies [3] rfl (Nat.le_of_ble_eq_true rfl) ?_
  refine ⟨trivial, ?_⟩
  have hlen : r2 < σ.length := (List.getElem?_eq_some_iff.mp h2).1
  have loop := z_up (P := fun j => ∀ (x : Int32), x = nI j → zGood gM_copies d (fun v σ' => v = none ∧ σ' = σ.set r2 (.inl (0, n2, .inl (cpyF f g a b)))) 3 [some (.ref r1), some (.int (nI a)), some (.ref r2), some (.int (nI b)), some (.int x)] [] (σ.set r2 (.inl (0, n2, .inl (fun i => if b ≤ i ∧ i < b + j then f (a + (i - b)) else g i)))) 0 0) 55 (fun j hj ih x hx => ?_) 0 (Nat.zero_le _) 0 nI_0.symm
  · have e0 : σ.set r2 (.inl (0, n2, .inl (fun i => if b ≤ i ∧ i < b + 0 then f (a + (i - b)) else g i))) = σ := by
      apply List.ext_getElem?
      intro j
      rw [List.getElem?_set]
      by_cases e : r2 = j
      · subst e
        rw [if_pos rfl, if_pos hlen, h2]
        have : (fun i => if b ≤ i ∧ i < b + 0 then f (a + (i - b)) else g i) = g := funext fun i => if_neg (by omega)
        rw [this]
      · simp [e]
    rw [e0] at loop
    exact loop
  · subst hx
    generalize hσ : σ.set r2 (.inl (0, n2, .inl (fun i => if b ≤ i ∧ i < b + j then f (a + (i - b)) else g i))) = τ
    have e1 : zNth τ r1 = some (.inl (0, n1, .inl f)) := by rw [← hσ, zNth_eq, List.getElem?_set, if_neg (Ne.symm hne)]; exact h1
    have e2 : zNth τ r2 = some (.inl (0, n2, .inl (fun i => if b ≤ i ∧ i < b + j then f (a + (i - b)) else g i))) := by rw [← hσ, zNth_eq, List.getElem?_set, if_pos rfl, if_pos hlen]
    refine w_M_copies [3] ?_
    refine z_le (a := 55) (b := j) rfl rfl (by decide) (by omega) (fun q => ?_) (fun q => ?_)
    · have : j = 55 := by omega
      subst this
      exact ⟨rfl, hσ.symm⟩
    · show zArr τ r1 0 _
      unfold zArr
      rw [e1]
      refine z_ld (z_ad rfl rfl) (by omega) hn1 ?_
      show zArr τ r2 0 _
      unfold zArr
      rw [e2]
      refine z_st (z_ad rfl rfl) (by omega) hn2 ?_
      refine ⟨trivial, ?_⟩
      have h9 := ih q (nI j + 1) (nI_1 j)
      rw [← hσ, List.set_set]
      have e3 : upd (fun i => if b ≤ i ∧ i < b + j then f (a + (i - b)) else g i) (b + j) (f (a + j)) = (fun i => if b ≤ i ∧ i < b + (j + 1) then f (a + (i - b)) else g i) := by
        funext i
        unfold upd
        by_cases e : i = b + j
        · subst e
          rw [if_pos rfl, if_pos (by omega)]
          congr 1
          omega
        · rw [if_neg e]
          show (if b ≤ i ∧ i < b + j then f (a + (i - b)) else g i) = _
          by_cases e2 : b ≤ i ∧ i < b + j
          · rw [if_pos e2, if_pos (by omega)]
          · rw [if_neg e2, if_neg (by omega)]
      rw [e3]
      exact h9
def shfF (f : Nat → Int32) : Nat → Int32 := fun j => if j < 1595 then f (j + 55) else f j
def notesF (M : zS) (de : Nat) : zS := if de = 30 then zU (zUr M 9 (cpyF (M 8) (shfF (M 9)) 0 1595)) 0 20 (nI 30) else zU (zUr M 9 (cpyF (M 8) (M 9) 0 (55 * de))) 0 20 (nI (de + 1))
theorem c_M_notes {de : Nat} (hd : M 0 20 = nI de) (hde : de ≤ 30) : zRuns gM_notes (d + 1) [.ref 0] (encM M) (fun v σ' => v = none ∧ σ' = encM (notesF M de)) := by
  refine m_M_notes [11] rfl (Nat.le_of_ble_eq_true rfl) ?_
  refine z_eq (b := 30) hd q30 (by omega) (by decide) (fun q => ?_) (fun q => ?_)
  · refine ⟨trivial, ?_⟩
    have e0 : M = zUr M 9 (fun j => if j < 0 then M 9 (j + 55) else M 9 j) := by
      funext c
      by_cases e : c = 9
      · subst e; rw [zUr_s]; funext j; simp
      · rw [zUr_k e]
    have loop := z_up (P := fun j => ∀ (x : Int32), x = nI j → zGood gM_notes (d + 1) (fun v σ' => v = none ∧ σ' = encM (notesF M de)) 11 [some (.ref 0), some (.int x)] [] (encM (zUr M 9 (fun i => if i < j then M 9 (i + 55) else M 9 i))) 0 0) 1595 (fun j hj ih x hx => ?_) 0 (Nat.zero_le _) 0 nI_0.symm
    · rw [← e0] at loop
      exact loop
    · subst hx
      refine w_M_notes [11] ?_
      refine z_le (a := 1595) (b := j) rfl rfl (by decide) (by omega) (fun q1 => ?_) (fun q1 => ?_)
      · have : j = 1595 := by omega
        subst this
        have hd2 : M 0 20 - 1 = nI 29 := by rw [hd, q]; decide
        refine z_call (c_M_copies (a := 0) (b := 1595) (r1 := 8) (r2 := 9) q0 (by show (55 : Int32) * (M 0 20 - 1) = _; rw [hd2]; decide) rfl rfl (by decide) (by decide) (by decide) (by decide) (by decide)) ?_
        refine ⟨rfl, ?_⟩
        have hd3 : M 0 20 - 1 + 1 = nI 30 := by rw [hd2]; decide
        unfold notesF
        rw [if_pos q, ← hd3]
        rfl
      · refine z_ld (k := j + 55) (by show nI j + 55 = _; rw [show (55 : Int32) = nI 55 from rfl, nI_add]) (by omega) (by decide) ?_
        refine z_st (k := j) rfl (by omega) (by decide) ?_
        refine ⟨trivial, ?_⟩
        have h9 := ih q1 (nI j + 1) (nI_1 j)
        have e3 : (fun i => if i < j + 1 then M 9 (i + 55) else M 9 i) = upd (fun i => if i < j then M 9 (i + 55) else M 9 i) j ((fun i => if i < j then M 9 (i + 55) else M 9 i) (j + 55)) := by
          funext i
          unfold upd
          by_cases e : i = j
          · subst e; simp; intro z; omega
          · by_cases e2 : i < j
            · simp [e, e2, Nat.lt_succ_of_lt e2]
            · simp [e, e2, show ¬ i < j + 1 by omega]
        rw [e3] at h9
        exact h9
  · refine z_call (c_M_copies (a := 0) (b := 55 * de) (r1 := 8) (r2 := 9) q0 (by show (55 : Int32) * M 0 20 = _; rw [hd]; exact z_mu q55 rfl) rfl rfl (by decide) (by decide) (by omega) (by decide) (by decide)) ?_
    refine ⟨rfl, ?_⟩
    unfold notesF
    rw [if_neg q, ← nI_1, ← hd]
    rfl
def pFeed (M : zS) (l : Int32) : Int32 := if ¬ (0 ≤ l ∧ l ≤ 255) then kOUT else if M 0 1 = 230 then kFUL else M 0 1 + 1
def gFeed (M : zS) (l : Int32) : zS := if ¬ (0 ≤ l ∧ l ≤ 255) then M else if M 0 1 = 230 then M else zU (zU M 1 (M 0 1).toNatClampNeg l) 0 1 (M 0 1 + 1)
theorem c_M_feed {l : Int32} {t : Nat} (ht : t ≤ 230) (h : M 0 1 = nI t) : zRuns gM_feed (d + 1) [.ref 0, .int l] (encM M) (fun v σ' => v = some (.int (pFeed M l)) ∧ σ' = encM (gFeed M l)) := by
  refine m_M_feed [] rfl (Nat.le_of_ble_eq_true rfl) ?_
  refine z_call c_M_in ?_
  refine z_dec (fun h2 => ?_) (fun h2 => ?_)
  · exact ⟨by unfold pFeed; rw [if_pos h2], by unfold gFeed; rw [if_pos h2]⟩
  refine ⟨fun h3 => ?_, fun h3 => ?_⟩
  · exact ⟨by unfold pFeed; rw [if_neg (fun z => z h2), if_pos h3], by unfold gFeed; rw [if_neg (fun z => z h2), if_pos h3]⟩
  have hlt : t < 230 := by
    have : t ≠ 230 := fun z => h3 (by rw [h, z]; rfl)
    omega
  refine z_st h hlt (by decide) ?_
  refine ⟨by unfold pFeed; rw [if_neg (fun z => z h2), if_neg h3], ?_⟩
  unfold gFeed
  rw [if_neg (fun z => z h2), if_neg h3, h, nI_clamp (by omega), ← h]
  rfl
def blamesNow (M : zS) (m x : Nat) : Nat → Int32 := upd (upd (upd (M 8) (7 + x) (M 8 (7 + x) ||| (1 <<< (nI m &&& 31)))) m (M 8 m + (if M 8 m < 9 then 1 else 0))) 11 (M 8 11 + M 2 (3 * m + 2))
theorem c_M_blames {m x : Nat} (hm : m < 7) (hx : x < 4) : zRuns gM_blames d [.ref 0, .int (nI m), .int (nI x)] (encM M) (fun v σ' => v = none ∧ σ' = encM (zUr M 8 (blamesNow M m x))) := by
  have e1 : ∀ v, upd (M 8) (7 + x) v m = M 8 m := fun v => upd_n (by omega)
  have e2 : ∀ v w, upd (upd (M 8) (7 + x) v) m w 11 = M 8 11 := fun v w => by rw [upd_n (by omega), upd_n (by omega)]
  refine m_M_blames [] rfl (Nat.le_of_ble_eq_true rfl) ?_
  refine z_ld (z_ad q7 rfl) (by omega) (by decide) ?_
  refine z_st (z_ad q7 rfl) (by omega) (by decide) ?_
  refine z_ld (z0a m) (by omega) (by decide) ?_
  refine z_ld (z0a m) (by omega) (by decide) ?_
  rw [e1]
  refine ⟨fun h => ?_, fun h => ?_⟩
  · refine z_st (z0a m) (by omega) (by decide) ?_
    refine z_ld (k := 11) q11 (by decide) (by decide) ?_
    refine z_ld (z_ad (z_mu q3 rfl) q2) (by omega) (by decide) ?_
    refine z_st (k := 11) q11 (by decide) (by decide) ?_
    rw [e2]
    refine ⟨rfl, ?_⟩
    unfold blamesNow
    rw [if_neg (fun z => Int32.lt_irrefl (Int32.lt_of_lt_of_le z h))]
    rfl
  · refine z_st (z0a m) (by omega) (by decide) ?_
    refine z_ld (k := 11) q11 (by decide) (by decide) ?_
    refine z_ld (z_ad (z_mu q3 rfl) q2) (by omega) (by decide) ?_
    refine z_st (k := 11) q11 (by decide) (by decide) ?_
    rw [e2]
    refine ⟨rfl, ?_⟩
    unfold blamesNow
    rw [if_pos (Int32.not_le.mp h)]
    rfl
end M4
end
section
theorem notesF_k {M : zS} {de c : Nat} (h0 : c ≠ 0) (h9 : c ≠ 9) : notesF M de c = M c := by
  unfold notesF
  by_cases e : de = 30
  · rw [if_pos e, zU_k h0, zUr_k h9]
  · rw [if_neg e, zU_k h0, zUr_k h9]
theorem notesF_0 {M : zS} {de j : Nat} (h : j ≠ 20) : notesF M de 0 j = M 0 j := by
  unfold notesF
  by_cases e : de = 30
  · rw [if_pos e, zU_s, upd_n h, zUr_k (by decide)]
  · rw [if_neg e, zU_s, upd_n h, zUr_k (by decide)]
theorem okM_of {M N : zS} {n k : Nat} (I : okM M n k) (h4 : N 0 4 = M 0 4) (h6 : N 0 6 = M 0 6) (h7 : N 0 7 = M 0 7) (h2 : N 2 = M 2) (hh : N 4 = M 4) : okM N n k := by
  unfold okM
  rw [h4, h6, h7, h2, hh]
  exact I
theorem okM_notes {M : zS} {n k de : Nat} (I : okM M n k) : okM (notesF M de) n k := okM_of I (notesF_0 (by decide)) (notesF_0 (by decide)) (notesF_0 (by decide)) (notesF_k (by decide) (by decide)) (notesF_k (by decide) (by decide))
theorem okM_now {M : zS} {n k : Nat} {f : Nat → Int32} (I : okM M n k) : okM (zUr M 8 f) n k := I
theorem okM_seed {M : zS} {n k : Nat} {v : Int32} (I : okM M n k) : okM (zU M 0 24 v) n k := okM_of I rfl rfl rfl rfl rfl
def pBlame (M : zS) (n k : Nat) (m x : Int32) : Int32 := if ixB n m = false then kUNK else if ixB k x = false then kUNK else if mayB M k m.toNatClampNeg x.toNatClampNeg = false then kNOT else M 2 (3 * m.toNatClampNeg + 2)
def gBlame (M : zS) (n k : Nat) (m x : Int32) : zS := if ixB n m = false then M else if ixB k x = false then M else if mayB M k m.toNatClampNeg x.toNatClampNeg = false then M else
  zUr (notesF M (M 0 20).toNatClampNeg) 8 (blamesNow M m.toNatClampNeg x.toNatClampNeg)
def clearNow (M : zS) (m x : Nat) : Nat → Int32 := upd (upd (M 8) (7 + x) (M 8 (7 + x) &&& ((1 <<< (nI m &&& 31)) ^^^ (-1)))) m (M 8 m - (if 0 < M 8 m then 1 else 0))
def pClear (M : zS) (n k : Nat) (m x : Int32) : Int32 := if ixB n m = false then kUNK else if ixB k x = false then kUNK else if hasB (M 8 (7 + x.toNatClampNeg)) m = false then kNOT else M 8 m.toNatClampNeg - (if 0 < M 8 m.toNatClampNeg then 1 else 0)
def gClear (M : zS) (n k : Nat) (m x : Int32) : zS := if ixB n m = false then M else if ixB k x = false then M else if hasB (M 8 (7 + x.toNatClampNeg)) m = false then M else zUr (notesF M (M 0 20).toNatClampNeg) 8 (clearNow M m.toNatClampNeg x.toNatClampNeg)
def pWalk (M : zS) (n : Nat) (m h p : Int32) : Int32 := if ixB n m = false then kUNK else if ¬ (0 ≤ h ∧ h ≤ 5) then kOUT else if ¬ (0 ≤ p ∧ p ≤ 5) then kOUT else M 8 (13 + 6 * m.toNatClampNeg + h.toNatClampNeg)
def gWalk (M : zS) (n : Nat) (m h p : Int32) : zS := if ixB n m = false then M else if ¬ (0 ≤ h ∧ h ≤ 5) then M else if ¬ (0 ≤ p ∧ p ≤ 5) then M else zUr (notesF M (M 0 20).toNatClampNeg) 8 (upd (M 8) (13 + 6 * m.toNatClampNeg + h.toNatClampNeg) p)
def decF (M : zS) (k i : Nat) : Int32 := M 8 i - (if blamesF M k i = 0 ∧ 0 < M 8 i then 1 else 0)
def sets1 (M : zS) (n k : Nat) : Nat → Int32 := fun i => if i < n then decF M k i else M 8 i
def sets2 (M : zS) (n k j : Nat) : Nat → Int32 := fun i => if 7 ≤ i ∧ i < 7 + j then 0 else sets1 M n k i
def sets3 (M : zS) (n k j : Nat) : Nat → Int32 := fun i => if 13 ≤ i ∧ i < 13 + j then M 3 (i - 13) else sets2 M n k 4 i
def paidF (M : zS) (k : Nat) : Int32 := M 0 5 * allFreeU M k
def setsNow (M : zS) (n k : Nat) : Nat → Int32 := upd (upd (sets3 M n k 42) 11 (M 8 11 + paidF M k)) 12 (M 8 12 + 1)
theorem blamesF_congr {M N : zS} {k m : Nat} (h : ∀ x, x < k → N 8 (7 + x) = M 8 (7 + x)) : blamesF N k m = blamesF M k m := bits_congr fun j hj => by rw [h j hj]
section M5
variable {d : Nat} {M : zS} {n k : Nat} {σ : List va_E}
theorem c_M_blame (I : okM M n k) {m x : Int32} {de : Nat} (hd : M 0 20 = nI de) (hde : de ≤ 30) : zRuns gM_blame (d + 4) [.ref 0, .int m, .int x] (encM M) (fun v σ' => v = some (.int (pBlame M n k m x)) ∧ σ' = encM (gBlame M n k m x)) := by
  have h7 := I.1; have h4 := I.2.1
  refine m_M_blame [] rfl (Nat.le_of_ble_eq_true rfl) ?_
  refine z_call (c_M_isMan I) ?_
  refine z_b (fun h => ?_) (fun h => ?_)
  · exact ⟨by simp [pBlame, h], by simp [gBlame, h]⟩
  refine z_call (c_M_isMishap I) ?_
  refine z_b (fun h1 => ?_) (fun h1 => ?_)
  · exact ⟨by simp [pBlame, h, h1], by simp [gBlame, h, h1]⟩
  obtain ⟨i, hi, rfl⟩ := ixB_t (by omega) h
  obtain ⟨j, hj, rfl⟩ := ixB_t (by omega) h1
  have ei : (nI i).toNatClampNeg = i := nI_clamp (by omega)
  have ej : (nI j).toNatClampNeg = j := nI_clamp (by omega)
  have ed : (M 0 20).toNatClampNeg = de := by rw [hd, nI_clamp (by omega)]
  have e0 : pBlame M n k (nI i) (nI j) = if mayB M k i j = false then kNOT else M 2 (3 * i + 2) := by
    unfold pBlame; rw [h, h1, if_neg (by decide), if_neg (by decide), ei, ej]
  have e1 : gBlame M n k (nI i) (nI j) = if mayB M k i j = false then M else zUr (notesF M de) 8 (blamesNow M i j) := by
    unfold gBlame; rw [h, h1, if_neg (by decide), if_neg (by decide), ei, ej, ed]
  rw [e0, e1]
  refine z_call (c_M_mayBe I hi hj) ?_
  refine z_b (fun h2 => ?_) (fun h2 => ?_)
  · exact ⟨by rw [if_pos h2], by rw [if_pos h2]⟩
  rw [if_neg (by rw [h2]; decide), if_neg (by rw [h2]; decide)]
  refine z_call (c_M_notes hd hde) ?_
  refine z_call (c_M_blames (by omega) (by omega)) ?_
  refine z_ld (z_ad (z_mu q3 rfl) q2) (by omega) (by decide) ?_
  have e2 : notesF M de 2 = M 2 := notesF_k (by decide) (by decide)
  have e8 : notesF M de 8 = M 8 := notesF_k (by decide) (by decide)
  refine ⟨?_, ?_⟩
  · show some (Value.int (notesF M de 2 (3 * i + 2))) = _
    rw [e2]
  · have e9 : blamesNow (notesF M de) i j = blamesNow M i j := by unfold blamesNow; rw [e8, e2]
    rw [e9]
theorem c_M_clear (I : okM M n k) {m x : Int32} {de : Nat} (hd : M 0 20 = nI de) (hde : de ≤ 30) : zRuns gM_clear (d + 4) [.ref 0, .int m, .int x] (encM M) (fun v σ' => v = some (.int (pClear M n k m x)) ∧ σ' = encM (gClear M n k m x)) := by
  have h7 := I.1; have h4 := I.2.1
  refine m_M_clear [] rfl (Nat.le_of_ble_eq_true rfl) ?_
  refine z_call (c_M_isMan I) ?_
  refine z_b (fun h => ?_) (fun h => ?_)
  · exact ⟨by simp [pClear, h], by simp [gClear, h]⟩
  refine z_call (c_M_isMishap I) ?_
  refine z_b (fun h1 => ?_) (fun h1 => ?_)
  · exact ⟨by simp [pClear, h, h1], by simp [gClear, h, h1]⟩
  obtain ⟨i, hi, rfl⟩ := ixB_t (by omega) h
  obtain ⟨j, hj, rfl⟩ := ixB_t (by omega) h1
  have ei : (nI i).toNatClampNeg = i := nI_clamp (by omega)
  have ej : (nI j).toNatClampNeg = j := nI_clamp (by omega)
  have ed : (M 0 20).toNatClampNeg = de := by rw [hd, nI_clamp (by omega)]
  have e0 : pClear M n k (nI i) (nI j) = if hasB (M 8 (7 + j)) (nI i) = false then kNOT else M 8 i - (if 0 < M 8 i then 1 else 0) := by
    unfold pClear; rw [h, h1, if_neg (by decide), if_neg (by decide), ei, ej]
  have e1 : gClear M n k (nI i) (nI j) = if hasB (M 8 (7 + j)) (nI i) = false then M else zUr (notesF M de) 8 (clearNow M i j) := by
    unfold gClear; rw [h, h1, if_neg (by decide), if_neg (by decide), ei, ej, ed]
  rw [e0, e1]
  refine z_call (c_M_blamedFor I hj) ?_
  refine z_call c_M_has ?_
  refine z_b (fun h2 => ?_) (fun h2 => ?_)
  · exact ⟨by rw [if_pos h2], by rw [if_pos h2]⟩
  rw [if_neg (show ¬ hasB (M 8 (7 + j)) (nI i) = false by rw [h2]; decide), if_neg (show ¬ hasB (M 8 (7 + j)) (nI i) = false by rw [h2]; decide)]
  refine z_call (c_M_notes hd hde) ?_
  have e8 : notesF M de 8 = M 8 := notesF_k (by decide) (by decide)
  have f1 : ∀ v, upd (notesF M de 8) (7 + j) v i = M 8 i := fun v => by rw [e8]; exact upd_n (by omega)
  refine z_ld (z_ad q7 rfl) (by omega) (by decide) ?_
  refine z_st (z_ad q7 rfl) (by omega) (by decide) ?_
  refine z_ld (z0a i) (by omega) (by decide) ?_
  refine z_ld (z0a i) (by omega) (by decide) ?_
  rw [f1]
  refine ⟨fun h3 => ?_, fun h3 => ?_⟩
  · refine z_st (z0a i) (by omega) (by decide) ?_
    refine z_ld (z0a i) (by omega) (by decide) ?_
    refine ⟨?_, ?_⟩
    · rw [upd_s, if_neg (fun z => Int32.lt_irrefl (Int32.lt_of_lt_of_le z h3))]
    · unfold clearNow
      rw [if_neg (fun z => Int32.lt_irrefl (Int32.lt_of_lt_of_le z h3)), ← e8]
      rfl
  · refine z_st (z0a i) (by omega) (by decide) ?_
    refine z_ld (z0a i) (by omega) (by decide) ?_
    refine ⟨?_, ?_⟩
    · rw [upd_s, if_pos (Int32.not_le.mp h3)]
    · unfold clearNow
      rw [if_pos (Int32.not_le.mp h3), ← e8]
      rfl
theorem c_M_walk (I : okM M n k) {m h p : Int32} {de : Nat} (hd : M 0 20 = nI de) (hde : de ≤ 30) : zRuns gM_walk (d + 4) [.ref 0, .int m, .int h, .int p] (encM M) (fun v σ' => v = some (.int (pWalk M n m h p)) ∧ σ' = encM (gWalk M n m h p)) := by
  have h7 := I.1; have h4 := I.2.1
  refine m_M_walk [] rfl (Nat.le_of_ble_eq_true rfl) ?_
  refine z_call (c_M_isMan I) ?_
  refine z_b (fun h0 => ?_) (fun h0 => ?_)
  · exact ⟨by simp [pWalk, h0], by simp [gWalk, h0]⟩
  refine z_call c_M_in ?_
  refine z_dec (fun h1 => ?_) (fun h1 => ?_)
  · exact ⟨by unfold pWalk; rw [h0, if_neg (by decide), if_pos h1], by unfold gWalk; rw [h0, if_neg (by decide), if_pos h1]⟩
  refine z_call c_M_in ?_
  refine z_dec (fun h2 => ?_) (fun h2 => ?_)
  · exact ⟨by unfold pWalk; rw [h0, if_neg (by decide), if_neg (fun z => z h1), if_pos h2], by unfold gWalk; rw [h0, if_neg (by decide), if_neg (fun z => z h1), if_pos h2]⟩
  obtain ⟨i, hi, rfl⟩ := ixB_t (by omega) h0
  obtain ⟨j, hj, rfl⟩ := z_rng (N := 5) (by decide) h1
  have ei : (nI i).toNatClampNeg = i := nI_clamp (by omega)
  have ej : (nI j).toNatClampNeg = j := nI_clamp (by omega)
  have ed : (M 0 20).toNatClampNeg = de := by rw [hd, nI_clamp (by omega)]
  have e0 : pWalk M n (nI i) (nI j) p = M 8 (13 + 6 * i + j) := by
    unfold pWalk; rw [h0, if_neg (by decide), if_neg (fun z => z h1), if_neg (fun z => z h2), ei, ej]
  have e1 : gWalk M n (nI i) (nI j) p = zUr (notesF M de) 8 (upd (M 8) (13 + 6 * i + j) p) := by
    unfold gWalk; rw [h0, if_neg (by decide), if_neg (fun z => z h1), if_neg (fun z => z h2), ei, ej, ed]
  rw [e0, e1]
  refine z_call (c_M_notes hd hde) ?_
  have e8 : notesF M de 8 = M 8 := notesF_k (by decide) (by decide)
  refine z_ld (z_ad (z_ad q13 (z_mu q6 rfl)) rfl) (by omega) (by decide) ?_
  refine z_st (z_ad (z_ad q13 (z_mu q6 rfl)) rfl) (by omega) (by decide) ?_
  rw [e8]
  exact ⟨rfl, rfl⟩
theorem c_M_sets (I : okM M n k) : zRuns gM_sets (d + 3) [.ref 0] (encM M) (fun v σ' => v = some (.int (paidF M k)) ∧ σ' = encM (zUr M 8 (setsNow M n k))) := by
  have h7 := I.1; have h4 := I.2.1
  refine m_M_sets [12, 63, 86] rfl (Nat.le_of_ble_eq_true rfl) ?_
  refine z_call (c_M_allFree I) ?_
  refine ⟨trivial, ?_⟩
  have s0 : M = zUr M 8 (fun i => if i < 0 then decF M k i else M 8 i) := by
    funext c
    by_cases e : c = 8
    · subst e; rw [zUr_s]; funext j; simp
    · rw [zUr_k e]
  have l3 := z_up (P := fun j => ∀ x, x = nI j → zGood gM_sets (d + 3) (fun v σ' => v = some (.int (paidF M k)) ∧ σ' = encM (zUr M 8 (setsNow M n k))) 86 [some (.ref 0), some (.int (paidF M k)), some (.int x)] [] (encM (zUr M 8 (sets3 M n k j))) 0 0) 42 (fun j hj ih x hx => by
    subst hx
    refine w_M_sets [86] ?_
    refine z_le (a := 42) (b := j) rfl rfl (by decide) (by omega) (fun q => ?_) (fun q => ?_)
    · have : j = 42 := by omega
      subst this
      have g1 : sets3 M n k 42 11 = M 8 11 := by
        unfold sets3 sets2 sets1
        rw [if_neg (by omega), if_neg (by omega), if_neg (by omega)]
      have g2 : sets3 M n k 42 12 = M 8 12 := by
        unfold sets3 sets2 sets1
        rw [if_neg (by omega), if_neg (by omega), if_neg (by omega)]
      refine z_ld (k := 11) q11 (by decide) (by decide) ?_
      refine z_st (k := 11) q11 (by decide) (by decide) ?_
      refine z_ld (k := 12) q12 (by decide) (by decide) ?_
      refine z_st (k := 12) q12 (by decide) (by decide) ?_
      refine ⟨rfl, ?_⟩
      unfold setsNow
      rw [← g1, ← g2]
      rfl
    · refine z_ld (k := j) rfl (by omega) (by decide) ?_
      refine z_st (z_ad q13 rfl) (by omega) (by decide) ?_
      refine ⟨trivial, ?_⟩
      have h9 := ih q (nI j + 1) (nI_1 j)
      have e3 : sets3 M n k (j + 1) = upd (sets3 M n k j) (13 + j) (M 3 j) := by
        funext i
        unfold upd
        by_cases e : i = 13 + j
        · subst e
          rw [if_pos rfl]
          unfold sets3
          rw [if_pos (by omega)]
          congr 1
          omega
        · rw [if_neg e]
          unfold sets3
          by_cases e2 : 13 ≤ i ∧ i < 13 + j
          · rw [if_pos e2, if_pos (by omega)]
          · rw [if_neg e2, if_neg (by omega)]
      rw [e3] at h9
      exact h9) 0 (Nat.zero_le _) 0 nI_0.symm
  have t3 : sets3 M n k 0 = sets2 M n k 4 := by
    funext i
    unfold sets3
    rw [if_neg (by omega)]
  rw [t3] at l3
  have l2 := z_up (P := fun j => ∀ x, x = nI j → zGood gM_sets (d + 3) (fun v σ' => v = some (.int (paidF M k)) ∧ σ' = encM (zUr M 8 (setsNow M n k))) 63 [some (.ref 0), some (.int (paidF M k)), some (.int x)] [] (encM (zUr M 8 (sets2 M n k j))) 0 0) 4 (fun j hj ih x hx => by
    subst hx
    refine w_M_sets [63, 86] ?_
    refine z_le (a := 4) (b := j) rfl rfl (by decide) (by omega) (fun q => ?_) (fun q => ?_)
    · have : j = 4 := by omega
      subst this
      exact ⟨trivial, l3⟩
    · refine z_st (z_ad q7 rfl) (by omega) (by decide) ?_
      refine ⟨trivial, ?_⟩
      have h9 := ih q (nI j + 1) (nI_1 j)
      have e3 : sets2 M n k (j + 1) = upd (sets2 M n k j) (7 + j) 0 := by
        funext i
        unfold upd
        by_cases e : i = 7 + j
        · subst e
          rw [if_pos rfl]
          unfold sets2
          rw [if_pos (by omega)]
        · rw [if_neg e]
          unfold sets2
          by_cases e2 : 7 ≤ i ∧ i < 7 + j
          · rw [if_pos e2, if_pos (by omega)]
          · rw [if_neg e2, if_neg (by omega)]
      rw [e3] at h9
      exact h9) 0 (Nat.zero_le _) 0 nI_0.symm
  have t2 : sets2 M n k 0 = sets1 M n k := by
    funext i
    unfold sets2
    rw [if_neg (by omega)]
  rw [t2] at l2
  have l1 := z_up (P := fun j => ∀ x, x = nI j → zGood gM_sets (d + 3) (fun v σ' => v = some (.int (paidF M k)) ∧ σ' = encM (zUr M 8 (setsNow M n k))) 12 [some (.ref 0), some (.int (paidF M k)), some (.int x)] [] (encM (zUr M 8 (fun i => if i < j then decF M k i else M 8 i))) 0 0) n (fun j hj ih x hx => by
    subst hx
    refine w_M_sets [12, 63] ?_
    refine ⟨fun q => ?_, fun q => ?_⟩
    · have e := z_end I.2.2.1 hj (by omega) q
      subst e
      exact ⟨trivial, l2⟩
    · have hlt := z_go I.2.2.1 hj (by omega) q
      have g1 : (fun i => if i < j then decF M k i else M 8 i) j = M 8 j := if_neg (Nat.lt_irrefl j)
      have g2 : blamesF (zUr M 8 (fun i => if i < j then decF M k i else M 8 i)) k j = blamesF M k j := blamesF_congr fun x hx => by
        rw [zUr_s]
        exact if_neg (by omega)
      have h9 := ih hlt (nI j + 1) (nI_1 j)
      have e3 : (fun i => if i < j + 1 then decF M k i else M 8 i) = upd (fun i => if i < j then decF M k i else M 8 i) j (decF M k j) := by
        funext i
        unfold upd
        by_cases e : i = j
        · subst e; simp
        · by_cases e2 : i < j
          · simp [e, e2, Nat.lt_succ_of_lt e2]
          · simp [e, e2, show ¬ i < j + 1 by omega]
      rw [e3] at h9
      refine z_ld (z0a j) (by omega) (by decide) ?_
      refine z_call (c_M_blamesOf (okM_now I)) ?_
      rw [g2, zUr_s, if_neg (Nat.lt_irrefl j)]
      refine ⟨fun h5 => ?_, fun h5 => ?_⟩
      · refine z_ld (z0a j) (by omega) (by decide) ?_
        rw [zUr_s, if_neg (Nat.lt_irrefl j)]
        refine ⟨fun h6 => ?_, fun h6 => ?_⟩
        · refine z_st (z0a j) (by omega) (by decide) ?_
          refine ⟨trivial, ?_⟩
          have e4 : decF M k j = M 8 j - 0 := by unfold decF; rw [if_neg (fun z => Int32.lt_irrefl (Int32.lt_of_lt_of_le z.2 h6))]
          rw [e4] at h9
          exact h9
        · refine z_st (z0a j) (by omega) (by decide) ?_
          refine ⟨trivial, ?_⟩
          have e4 : decF M k j = M 8 j - 1 := by unfold decF; rw [if_pos ⟨h5, Int32.not_le.mp h6⟩]
          rw [e4] at h9
          exact h9
      · refine z_st (z0a j) (by omega) (by decide) ?_
        refine ⟨trivial, ?_⟩
        have e4 : decF M k j = M 8 j - 0 := by unfold decF; rw [if_neg (fun z => h5 z.1)]
        rw [e4] at h9
        exact h9) 0 (Nat.zero_le _) 0 nI_0.symm
  rw [← s0] at l1
  exact l1
def pSunset (M : zS) (k : Nat) : Int32 := if M 0 3 = 0 then kNOT else if 9000 < M 8 12 then kFUL else paidF M k
def gSunset (M : zS) (n k : Nat) : zS := if M 0 3 = 0 then M else if 9000 < M 8 12 then M else zUr (notesF M (M 0 20).toNatClampNeg) 8 (setsNow M n k)
theorem paidF_notes {de : Nat} : paidF (notesF M de) k = paidF M k := by
  have e8 : notesF M de 8 = M 8 := notesF_k (by decide) (by decide)
  have e4 : notesF M de 4 = M 4 := notesF_k (by decide) (by decide)
  have : ∀ j, allFreeU (notesF M de) j = allFreeU M j := by
    intro j
    induction j with
    | zero => rfl
    | succ j ih => unfold allFreeU freeF; rw [ih, e8, e4]
  unfold paidF
  rw [this, notesF_0 (by decide)]
theorem setsNow_notes {de : Nat} : setsNow (notesF M de) n k = setsNow M n k := by
  have e8 : notesF M de 8 = M 8 := notesF_k (by decide) (by decide)
  have e3 : notesF M de 3 = M 3 := notesF_k (by decide) (by decide)
  unfold setsNow sets3 sets2 sets1 decF blamesF
  rw [e8, e3, paidF_notes]
theorem c_M_sunset (I : okM M n k) {de : Nat} (hd : M 0 20 = nI de) (hde : de ≤ 30) : zRuns gM_sunset (d + 4) [.ref 0] (encM M) (fun v σ' => v = some (.int (pSunset M k)) ∧ σ' = encM (gSunset M n k)) := by
  refine m_M_sunset [] rfl (Nat.le_of_ble_eq_true rfl) ?_
  have ed : (M 0 20).toNatClampNeg = de := by rw [hd, nI_clamp (by omega)]
  refine ⟨fun h => ?_, fun h => ?_⟩
  · exact ⟨by unfold pSunset; rw [if_pos h], by unfold gSunset; rw [if_pos h]⟩
  refine z_ld (k := 12) q12 (by decide) (by decide) ?_
  refine ⟨fun h2 => ?_, fun h2 => ?_⟩
  · refine z_call (c_M_notes hd hde) ?_
    refine z_call (c_M_sets (okM_notes I)) ?_
    have h3 : ¬ 9000 < M 8 12 := Int32.not_lt.mpr h2
    refine ⟨?_, ?_⟩
    · unfold pSunset; rw [if_neg h, if_neg h3, paidF_notes]
    · unfold gSunset; rw [if_neg h, if_neg h3, ed, setsNow_notes]
  · have h3 : 9000 < M 8 12 := Int32.not_le.mp h2
    exact ⟨by unfold pSunset; rw [if_neg h, if_pos h3], by unfold gSunset; rw [if_neg h, if_pos h3]⟩
end M5
end
section
def lcgM (s : Int32) : Int32 := ((s.toInt64 * 1103515245 + 12345) &&& 2147483647).toInt32
theorem lcg_eq (s : Int32) : lcgM s = (s * 1103515245 + 12345) &&& 2147483647 := by
  unfold lcgM
  simp
theorem lcg_n (s : Int32) : ∃ a, a < 2 ^ 31 ∧ lcgM s = nI a := by
  rw [lcg_eq]
  exact pk_andE _ 31 (by decide)
def drawF (s n : Int32) : Int32 := lcgM s / 65536 - lcgM s / 65536 / n * n
theorem draw_n (s : Int32) {c : Nat} (h0 : 0 < c) (hc : c < 2 ^ 31) : ∃ q, q < c ∧ drawF s (nI c) = nI q := by
  obtain ⟨a, ha, e⟩ := lcg_n s
  refine ⟨a / 65536 % c, Nat.mod_lt _ h0, ?_⟩
  unfold drawF
  rw [e, show (65536 : Int32) = nI 65536 from rfl, pk_div ha (by decide) (by decide), pk_rem (by omega) h0 hc]
def memU (s kk e : Int32) : Nat → Nat → Int32 → Int32
  | 0, _, _ => e
  | f + 1, m, c => if hasB s (nI m) then (if c = kk then nI m else memU s kk e f (m + 1) (c + 1)) else memU s kk e f (m + 1) c
def memF (s kk : Int32) : Int32 := memU s kk 0 7 0 0
theorem b_put : ∀ s, s < 128 → ∀ m, m < 7 → hasB (nI s) (nI m) = false → (nI s ||| (1 <<< (nI m &&& 31)) = nI (s + 2 ^ m) ∧ s + 2 ^ m < 128 ∧ onesU (nI (s + 2 ^ m)) 7 = onesU (nI s) 7 + 1) := by decide +kernel
theorem b_or : ∀ n, n < 7 → ∀ s, s < 2 ^ n → (nI s ||| (1 <<< (nI n &&& 31)) = nI (s + 2 ^ n) ∧ ∀ m, m < 7 → hasB (nI (s + 2 ^ n)) (nI m) = (hasB (nI s) (nI m) || decide (m = n))) := by decide +kernel
theorem b_ones : ∀ s, s < 128 → s ≠ 0 → (onesU (nI s) 7 = nI (onesU (nI s) 7).toNatClampNeg ∧ 0 < (onesU (nI s) 7).toNatClampNeg ∧ (onesU (nI s) 7).toNatClampNeg < 8) := by decide +kernel
theorem b_mem : ∀ s, s < 128 → ∀ q, q < 7 → q < (onesU (nI s) 7).toNatClampNeg → (memF (nI s) (nI q) = nI (memF (nI s) (nI q)).toNatClampNeg ∧ (memF (nI s) (nI q)).toNatClampNeg < 7 ∧ hasB (nI s) (nI (memF (nI s) (nI q)).toNatClampNeg) = true) := by decide +kernel
theorem b_zero : ∀ m, m < 7 → hasB (nI 0) (nI m) = false := by decide +kernel
theorem bits_n (p : Nat → Bool) : ∀ n, n ≤ 7 → ∃ s, s < 2 ^ n ∧ bits p n = nI s ∧ ∀ m, m < 7 → hasB (nI s) (nI m) = (decide (m < n) && p m)
  | 0, _ => ⟨0, by decide, rfl, fun m hm => by rw [b_zero m hm]; simp⟩
  | n + 1, h => by
    obtain ⟨s, hs, e, hm⟩ := bits_n p n (by omega)
    by_cases hp : p n = true
    · obtain ⟨e1, e2⟩ := b_or n (by omega) s hs
      refine ⟨s + 2 ^ n, by rw [Nat.pow_succ]; omega, ?_, fun m h7 => ?_⟩
      · simp only [bits]
        rw [e, if_pos hp, e1]
      · rw [e2 m h7, hm m h7]
        by_cases h9 : m = n
        · subst h9; simp [hp]
        · by_cases h8 : m < n
          · simp [h9, h8, show m < n + 1 by omega]
          · simp [h9, h8, show ¬ m < n + 1 by omega]
    · refine ⟨s, by rw [Nat.pow_succ]; omega, ?_, fun m h7 => ?_⟩
      · simp only [bits]
        rw [e, if_neg hp]
        simp
      · rw [hm m h7]
        by_cases h9 : m = n
        · subst h9; simp [hp]
        · by_cases h8 : m < n
          · simp [h8, show m < n + 1 by omega]
          · simp [h8, show ¬ m < n + 1 by omega]
end
section
def blStep (n k x : Nat) (M : zS) : zS := zUr (zU M 0 24 (lcgM (M 0 24))) 8 (blamesNow M (memF (mayForF M n k x) (drawF (M 0 24) (onesU (mayForF M n k x) 7))).toNatClampNeg x)
def dxU (n k x : Nat) : Nat → zS → zS
  | 0, M => M
  | f + 1, M => if mayForF M n k x = 0 then M else dxU n k x f (blStep n k x M)
def dxAll (n k : Nat) : Nat → zS → zS
  | 0, M => M
  | j + 1, M => dxU n k j 7 (dxAll n k j M)
def dayF (n k : Nat) (M : zS) : zS := zUr (dxAll n k k (notesF M (M 0 20).toNatClampNeg)) 8 (setsNow (dxAll n k k (notesF M (M 0 20).toNatClampNeg)) n k)
def driftU (n k : Nat) : Nat → zS → zS
  | 0, M => M
  | t + 1, M => dayF n k (driftU n k t M)
def freeAt (M : zS) (x f : Nat) : Prop := ∃ s c z, s < 128 ∧ M 8 (7 + x) = nI s ∧ onesU (nI s) 7 = nI c ∧ M 4 (6 * x + 4) = nI z ∧ z = c + f ∧ z ≤ 2
def okB (M : zS) (k : Nat) : Prop := ∀ x, x < k → ∃ f, freeAt M x f
theorem bits_false (n : Nat) : bits (fun _ => false) n = 0 := by
  induction n with
  | zero => rfl
  | succ n ih => simp [bits, ih]
theorem freeAt_f {M : zS} {x f : Nat} (h : freeAt M x f) : freeF M x = nI f := by
  obtain ⟨s, c, z, -, h2, h3, h4, h5, h6⟩ := h
  unfold freeF
  rw [h2, h3, h4, pk_sub (by omega)]
  congr 1
  omega
theorem free0 {M : zS} {n k x : Nat} (h : freeAt M x 0) : mayForF M n k x = 0 := by
  have e : freeF M x = nI 0 := freeAt_f h
  unfold mayForF
  rw [← bits_false n]
  exact bits_congr fun j _ => by
    unfold mayB
    rw [e]
    simp [nI_0]
theorem pick {M : zS} {n k x : Nat} (hn : n ≤ 7) (h : mayForF M n k x ≠ 0) : ∃ m, m < n ∧ memF (mayForF M n k x) (drawF (M 0 24) (onesU (mayForF M n k x) 7)) = nI m ∧ mayB M k m x = true ∧ ¬ onesU (mayForF M n k x) 7 = 0 := by
  obtain ⟨s, hs, e, hm⟩ := bits_n (fun m => mayB M k m x) n hn
  have e2 : mayForF M n k x = nI s := e
  have hs7 : s < 128 := Nat.lt_of_lt_of_le hs (Nat.pow_le_pow_right (by decide) hn)
  have hs0 : s ≠ 0 := fun z => h (by rw [e2, z]; rfl)
  obtain ⟨c1, c2, c3⟩ := b_ones s hs7 hs0
  rw [e2]
  generalize hc : (onesU (nI s) 7).toNatClampNeg = c at c1 c2 c3
  obtain ⟨q, hq, eq⟩ := draw_n (M 0 24) c2 (by omega)
  obtain ⟨d1, d2, d3⟩ := b_mem s hs7 q (by omega) (by rw [hc]; exact hq)
  rw [c1, eq]
  generalize (memF (nI s) (nI q)).toNatClampNeg = m at d1 d2 d3
  rw [hm m d2] at d3
  obtain ⟨d4, d5⟩ := Bool.and_eq_true_iff.mp d3
  exact ⟨m, of_decide_eq_true d4, d1, d5, nI_ne0 c2 (by omega)⟩
theorem blStep_ok {M : zS} {n k x f : Nat} (I : okM M n k) (B : okB M k) (hx : x < k) (h : mayForF M n k x ≠ 0) (hf : freeAt M x f) : ∃ g, f = g + 1 ∧ okB (blStep n k x M) k ∧ freeAt (blStep n k x M) x g := by
  have h7 := I.1; have h4 := I.2.1
  obtain ⟨m, hm, e1, e2, -⟩ := pick I.1 h
  have e3 : hasB (M 8 (7 + x)) (nI m) = false := by
    unfold mayB at e2
    simp only [Bool.and_eq_true, Bool.not_eq_true'] at e2
    exact e2.1.2.1
  have ey : ∀ y, y < 4 → y ≠ x → (blStep n k x M) 8 (7 + y) = M 8 (7 + y) := fun y hy hne => by
    unfold blStep
    rw [zUr_s, e1, nI_clamp (by omega)]
    unfold blamesNow
    rw [upd_n (by omega), upd_n (by omega), upd_n (by omega)]
  obtain ⟨s, c, z, hs, a1, a2, a3, a4, a5⟩ := hf
  rw [a1] at e3
  obtain ⟨b1, b2, b3⟩ := b_put s hs m (by omega) e3
  have ex : (blStep n k x M) 8 (7 + x) = nI (s + 2 ^ m) := by
    unfold blStep
    rw [zUr_s, e1, nI_clamp (by omega)]
    unfold blamesNow
    rw [upd_n (by omega), upd_n (by omega), upd_s, a1, b1]
  have hfree : f ≠ 0 := fun z0 => h (free0 ⟨s, c, z, hs, a1, a2, a3, by omega, a5⟩)
  have e4 : (blStep n k x M) 4 = M 4 := rfl
  have hg : freeAt (blStep n k x M) x (f - 1) := ⟨s + 2 ^ m, c + 1, z, b2, ex, by rw [b3, a2, nI_1], by rw [e4]; exact a3, by omega, a5⟩
  refine ⟨f - 1, by omega, fun y hy => ?_, hg⟩
  by_cases e : y = x
  · subst e; exact ⟨_, hg⟩
  · obtain ⟨f', s', c', z', d1, d2, d3, d4, d5, d6⟩ := B y hy
    exact ⟨f', s', c', z', d1, by rw [ey y (by omega) e]; exact d2, d3, by rw [e4]; exact d4, d5, d6⟩
section M7
variable {d : Nat} {M : zS} {n k : Nat} {σ : List va_E}
theorem c_M_draw {x : Int32} (hx : ¬ x = 0) : zRuns gM_draw d [.ref 0, .int x] (encM M) (fun v σ' => v = some (.int (drawF (M 0 24) x)) ∧ σ' = encM (zU M 0 24 (lcgM (M 0 24)))) := by
  refine m_M_draw [] rfl (Nat.le_of_ble_eq_true rfl) ?_
  refine ⟨by decide, ?_⟩
  refine ⟨hx, ?_⟩
  exact ⟨rfl, rfl⟩
theorem c_M_member {s kk : Int32} : zRuns gM_member (d + 1) [.int s, .int kk] σ (fun v σ' => v = some (.int (memF s kk)) ∧ σ' = σ) := by
  refine m_M_member [4] rfl (Nat.le_of_ble_eq_true rfl) ?_
  refine ⟨trivial, ?_⟩
  refine z_up (P := fun j => ∀ i c, i = nI j → memU s kk 0 (7 - j) j c = memF s kk → zGood gM_member (d + 1) (fun v σ' => v = some (.int (memF s kk)) ∧ σ' = σ) 4 [some (.int s), some (.int kk), some (.int c), some (.int i)] [] σ 0 0) 7 (fun j hj ih i c hi hc => ?_) 0 (Nat.zero_le _) 0 0 nI_0.symm rfl
  subst hi
  refine w_M_member [4] ?_
  refine z_le (a := 7) (b := j) rfl rfl (by decide) (by omega) (fun q => ?_) (fun q => ?_)
  · have : j = 7 := by omega
    subst this
    exact ⟨by rw [← hc]; rfl, rfl⟩
  · rw [show 7 - j = (7 - (j + 1)) + 1 by omega] at hc
    unfold memU at hc
    refine z_call c_M_has ?_
    refine z_b (fun h => ?_) (fun h => ?_)
    · rw [h, if_neg (by decide)] at hc
      exact ⟨trivial, ih q _ _ (nI_1 j) hc⟩
    · rw [if_pos h] at hc
      refine ⟨fun h2 => ?_, fun h2 => ?_⟩
      · rw [if_pos h2] at hc
        exact ⟨by rw [← hc], rfl⟩
      · rw [if_neg h2] at hc
        exact ⟨trivial, ih q _ _ (nI_1 j) hc⟩
def pUndo (M : zS) (u : Int32) : Int32 := if ¬ (1 ≤ u ∧ u ≤ 30) then kOUT else if ¬ u ≤ M 0 20 then kNOT else M 9 (55 * ((M 0 20).toNatClampNeg - u.toNatClampNeg) + 12)
def gUndo (M : zS) (u : Int32) : zS := if ¬ (1 ≤ u ∧ u ≤ 30) then M else if ¬ u ≤ M 0 20 then M else
  zUr (zU M 0 20 (nI ((M 0 20).toNatClampNeg - u.toNatClampNeg))) 8 (cpyF (M 9) (M 8) (55 * ((M 0 20).toNatClampNeg - u.toNatClampNeg)) 0)
theorem c_M_undo {u : Int32} {de : Nat} (hd : M 0 20 = nI de) (hde : de ≤ 30) : zRuns gM_undo (d + 1) [.ref 0, .int u] (encM M) (fun v σ' => v = some (.int (pUndo M u)) ∧ σ' = encM (gUndo M u)) := by
  refine m_M_undo [] rfl (Nat.le_of_ble_eq_true rfl) ?_
  refine z_call c_M_in ?_
  refine z_dec (fun h => ?_) (fun h => ?_)
  · exact ⟨by unfold pUndo; rw [if_pos h], by unfold gUndo; rw [if_pos h]⟩
  obtain ⟨j, hj, rfl⟩ := z_rng (N := 30) (by decide) ⟨Int32.le_trans (by decide) h.1, h.2⟩
  have hj1 : 1 ≤ j := (nI_leI (a := 1) (by decide) (by omega)).mp h.1
  refine ⟨fun h2 => ?_, fun h2 => ?_⟩
  · have hle : j ≤ de := by rw [hd] at h2; exact (nI_leI (by omega) (by omega)).mp h2
    have e1 : M 0 20 - nI j = nI (de - j) := by rw [hd, pk_sub hle]
    have ed : (M 0 20).toNatClampNeg = de := by rw [hd, nI_clamp (by omega)]
    have ej : (nI j).toNatClampNeg = j := nI_clamp (by omega)
    have p0 : pUndo M (nI j) = M 9 (55 * (de - j) + 12) := by unfold pUndo; rw [if_neg (fun z => z h), if_neg (fun z => z h2), ed, ej]
    have g0 : gUndo M (nI j) = zUr (zU M 0 20 (nI (de - j))) 8 (cpyF (M 9) (M 8) (55 * (de - j)) 0) := by unfold gUndo; rw [if_neg (fun z => z h), if_neg (fun z => z h2), ed, ej]
    rw [p0, g0]
    refine z_call (c_M_copies (a := 55 * (de - j)) (b := 0) (r1 := 9) (r2 := 8) (by show (55 : Int32) * (M 0 20 - nI j) = _; rw [e1]; exact z_mu q55 rfl) q0 rfl rfl (by decide) (by omega) (by decide) (by decide) (by decide)) ?_
    refine z_ld (k := 12) q12 (by decide) (by decide) ?_
    refine ⟨?_, ?_⟩
    · show some (Value.int (if 0 ≤ 12 ∧ 12 < 0 + 55 then M 9 (55 * (de - j) + (12 - 0)) else M 8 12)) = _
      rw [if_pos (by omega)]
    · rw [← e1]
      rfl
  · exact ⟨by unfold pUndo; rw [if_neg (fun z => z h), if_pos h2], by unfold gUndo; rw [if_neg (fun z => z h), if_pos h2]⟩
theorem drift_while {Q : Option Value → List va_E → Prop} {a y : Value} {x : Nat} (hx : x < k) : ∀ (g : Nat) (M : zS) (f : Nat), okM M n k → okB M k → freeAt M x f → f ≤ g →
    (okB (dxU n k x g M) k → zGood gM_drift (d + 6) Q 101 [some (.ref 0), some a, some y, some (.int (nI x)), some (.int 0)] [] (encM (dxU n k x g M)) 0 0) →
    zGood gM_drift (d + 6) Q 67 [some (.ref 0), some a, some y, some (.int (nI x)), some (.int (mayForF M n k x))] [] (encM M) 0 0
  | g, M, f, I, B, hf, hle, hk => by
    have h7 := I.1; have h4 := I.2.1
    refine w_M_drift [67, 101] ?_
    refine ⟨fun h => ?_, fun h => ?_⟩
    · refine ⟨trivial, ?_⟩
      have e : dxU n k x g M = M := by
        cases g with
        | zero => rfl
        | succ g => unfold dxU; rw [if_pos h]
      rw [e] at hk
      rw [h]
      exact hk B
    · obtain ⟨m, hm, e1, e2, e3⟩ := pick I.1 h
      obtain ⟨f', rfl, B', hf'⟩ := blStep_ok I B hx h hf
      cases g with
      | zero => omega
      | succ g =>
        refine z_call c_M_ones ?_
        refine z_call (c_M_draw e3) ?_
        refine z_call c_M_member ?_
        rw [e1]
        refine z_call (c_M_blames (by omega) (by omega)) ?_
        have es : zUr (zU M 0 24 (lcgM (M 0 24))) 8 (blamesNow (zU M 0 24 (lcgM (M 0 24))) m x) = blStep n k x M := by
          unfold blStep
          rw [e1, nI_clamp (by omega)]
          rfl
        rw [es]
        have I' : okM (blStep n k x M) n k := okM_now (okM_seed I)
        refine z_call (c_M_mayFor I' hx) ?_
        refine ⟨trivial, ?_⟩
        have e : dxU n k x (g + 1) M = dxU n k x g (blStep n k x M) := by rw [dxU, if_neg h]
        rw [e] at hk
        exact drift_while hx g (blStep n k x M) f' I' B' hf' (by omega) hk
theorem okM_dx {x : Nat} : ∀ (g : Nat) {M : zS}, okM M n k → okM (dxU n k x g M) n k
  | 0, M, I => I
  | g + 1, M, I => by
    unfold dxU
    by_cases h : mayForF M n k x = 0
    · rw [if_pos h]; exact I
    · rw [if_neg h]; exact okM_dx g (okM_now (okM_seed I))
theorem dx_k {x c : Nat} (h0 : c ≠ 0) (h8 : c ≠ 8) : ∀ (g : Nat) {M : zS}, dxU n k x g M c = M c
  | 0, M => rfl
  | g + 1, M => by
    unfold dxU
    by_cases h : mayForF M n k x = 0
    · rw [if_pos h]
    · rw [if_neg h, dx_k h0 h8 g]
      unfold blStep
      rw [zUr_k h8, zU_k h0]
theorem dx_0 {x j : Nat} (hj : j ≠ 24) : ∀ (g : Nat) {M : zS}, dxU n k x g M 0 j = M 0 j
  | 0, M => rfl
  | g + 1, M => by
    unfold dxU
    by_cases h : mayForF M n k x = 0
    · rw [if_pos h]
    · rw [if_neg h, dx_0 hj g]
      unfold blStep
      rw [zUr_k (by decide), zU_s, upd_n hj]
theorem okM_dxAll {M : zS} (I : okM M n k) : ∀ j, okM (dxAll n k j M) n k
  | 0 => I
  | j + 1 => okM_dx 7 (okM_dxAll I j)
theorem dxAll_0 {M : zS} {i : Nat} (hi : i ≠ 24) : ∀ j, dxAll n k j M 0 i = M 0 i
  | 0 => rfl
  | j + 1 => by unfold dxAll; rw [dx_0 hi 7, dxAll_0 hi j]
theorem dxAll_k {M : zS} {c : Nat} (h0 : c ≠ 0) (h8 : c ≠ 8) : ∀ j, dxAll n k j M c = M c
  | 0 => rfl
  | j + 1 => by unfold dxAll; rw [dx_k h0 h8 7, dxAll_k h0 h8 j]
theorem okB_notes {M : zS} {de : Nat} (B : okB M k) : okB (notesF M de) k := by
  intro x hx
  obtain ⟨f, s, c, z, h1, h2, h3, h4, h5⟩ := B x hx
  exact ⟨f, s, c, z, h1, by rw [notesF_k (by decide) (by decide)]; exact h2, h3, by rw [notesF_k (by decide) (by decide)]; exact h4, h5⟩
theorem okB_sets {M : zS} (I : okM M n k) : okB (zUr M 8 (setsNow M n k)) k := by
  have h4 := I.2.1
  intro x hx
  obtain ⟨z, z1, z2, hz⟩ := (I.2.2.2.2.2.2 x hx).2.2.2.2.1
  refine ⟨z, 0, 0, z, by decide, ?_, by decide, hz, by omega, z2⟩
  rw [zUr_s]
  unfold setsNow
  rw [upd_n (by omega), upd_n (by omega)]
  unfold sets3 sets2
  rw [if_neg (by omega), if_pos (by omega)]
  rfl
theorem notesF_de {M : zS} {de : Nat} (hde : de ≤ 30) : ∃ e, e ≤ 30 ∧ notesF M de 0 20 = nI e := by
  unfold notesF
  by_cases e : de = 30
  · rw [if_pos e, zU_s, upd_s]; exact ⟨30, by decide, rfl⟩
  · rw [if_neg e, zU_s, upd_s]; exact ⟨de + 1, by omega, rfl⟩
def okD (M : zS) (n k : Nat) : Prop := okM M n k ∧ okB M k ∧ ∃ de, de ≤ 30 ∧ M 0 20 = nI de
theorem okD_day {M : zS} (D : okD M n k) : okD (dayF n k M) n k := by
  obtain ⟨I, B, de, hde, hd⟩ := D
  have ed : (M 0 20).toNatClampNeg = de := by rw [hd, nI_clamp (by omega)]
  have I2 : okM (dxAll n k k (notesF M de)) n k := okM_dxAll (okM_notes I) k
  obtain ⟨e, he1, he2⟩ := notesF_de (M := M) hde
  unfold dayF
  rw [ed]
  exact ⟨okM_now I2, okB_sets I2, e, he1, by rw [zUr_k (by decide), dxAll_0 (by decide)]; exact he2⟩
theorem okD_drift {M : zS} (D : okD M n k) : ∀ t, okD (driftU n k t M) n k
  | 0 => D
  | t + 1 => okD_day (okD_drift D t)
def pDrift (M : zS) (n k : Nat) (a : Int32) : Int32 := if ¬ (1 ≤ a ∧ a ≤ 20) then kOUT else if M 0 3 = 0 then kNOT else if 9000 < M 8 12 then kFUL else driftU n k a.toNatClampNeg M 8 11
def gDrift (M : zS) (n k : Nat) (a : Int32) : zS := if ¬ (1 ≤ a ∧ a ≤ 20) then M else if M 0 3 = 0 then M else if 9000 < M 8 12 then M else driftU n k a.toNatClampNeg M
theorem c_M_drift (D : okD M n k) {a : Int32} : zRuns gM_drift (d + 6) [.ref 0, .int a] (encM M) (fun v σ' => v = some (.int (pDrift M n k a)) ∧ σ' = encM (gDrift M n k a)) := by
  have h7 := D.1.1; have h4 := D.1.2.1
  refine m_M_drift [41, 52, 67, 101] rfl (Nat.le_of_ble_eq_true rfl) ?_
  refine z_call c_M_in ?_
  refine z_dec (fun h => ?_) (fun h => ?_)
  · exact ⟨by unfold pDrift; rw [if_pos h], by unfold gDrift; rw [if_pos h]⟩
  refine ⟨fun h2 => ?_, fun h2 => ?_⟩
  · exact ⟨by unfold pDrift; rw [if_neg (fun z => z h), if_pos h2], by unfold gDrift; rw [if_neg (fun z => z h), if_pos h2]⟩
  refine z_ld (k := 12) q12 (by decide) (by decide) ?_
  refine ⟨fun h3 => ?_, fun h3 => ?_⟩
  · have h3' : ¬ 9000 < M 8 12 := Int32.not_lt.mpr h3
    obtain ⟨t, ht, rfl⟩ := z_rng (N := 20) (by decide) ⟨Int32.le_trans (by decide) h.1, h.2⟩
    have et : (nI t).toNatClampNeg = t := nI_clamp (by omega)
    have p0 : pDrift M n k (nI t) = driftU n k t M 8 11 := by unfold pDrift; rw [if_neg (fun z => z h), if_neg h2, if_neg h3', et]
    have g0 : gDrift M n k (nI t) = driftU n k t M := by unfold gDrift; rw [if_neg (fun z => z h), if_neg h2, if_neg h3', et]
    rw [p0, g0]
    refine ⟨trivial, ?_⟩
    refine z_up (P := fun j => ∀ i u w, i = nI j → zGood gM_drift (d + 6) (fun v σ' => v = some (.int (driftU n k t M 8 11)) ∧ σ' = encM (driftU n k t M)) 41 [some (.ref 0), some (.int (nI t)), some (.int i), u, w] [] (encM (driftU n k j M)) 0 0) t (fun j hj ih i u w hi => ?_) 0 (Nat.zero_le _) 0 none none nI_0.symm
    subst hi
    refine w_M_drift [41, 52, 67, 101] ?_
    refine z_le (a := t) (b := j) rfl rfl (by omega) (by omega) (fun q => ?_) (fun q => ?_)
    · have : j = t := by omega
      subst this
      refine z_ld (k := 11) q11 (by decide) (by decide) ?_
      exact ⟨rfl, rfl⟩
    · obtain ⟨I, B, de, hde, hd⟩ := okD_drift D j
      have ed : (driftU n k j M 0 20).toNatClampNeg = de := by rw [hd, nI_clamp (by omega)]
      refine z_call (c_M_notes hd hde) ?_
      refine ⟨trivial, ?_⟩
      have I2 : okM (notesF (driftU n k j M) de) n k := okM_notes I
      have lp := z_up (P := fun x => ∀ i u, i = nI x → okB (dxAll n k x (notesF (driftU n k j M) de)) k → zGood gM_drift (d + 6) (fun v σ' => v = some (.int (driftU n k t M 8 11)) ∧ σ' = encM (driftU n k t M)) 52 [some (.ref 0), some (.int (nI t)), some (.int (nI j)), some (.int i), u] [] (encM (dxAll n k x (notesF (driftU n k j M) de))) 0 0) k (fun x hx ihx i u hi B2 => by
        subst hi
        have I3 : okM (dxAll n k x (notesF (driftU n k j M) de)) n k := okM_dxAll I2 x
        refine w_M_drift [41, 52, 67, 101] ?_
        refine ⟨fun q2 => ?_, fun q2 => ?_⟩
        · have e := z_end I3.2.2.2.1 hx (by omega) q2
          subst e
          refine z_call (c_M_sets I3) ?_
          refine ⟨trivial, ?_⟩
          have h9 := ih q (nI j + 1) (some (.int (nI x))) u (nI_1 j)
          have e5 : driftU n x (j + 1) M = zUr (dxAll n x x (notesF (driftU n x j M) de)) 8 (setsNow (dxAll n x x (notesF (driftU n x j M) de)) n x) := by
            show dayF n x (driftU n x j M) = _
            unfold dayF
            rw [ed]
          rw [e5] at h9
          exact h9
        · have hlt := z_go I3.2.2.2.1 hx (by omega) q2
          refine z_call (c_M_mayFor I3 hlt) ?_
          refine ⟨trivial, ?_⟩
          obtain ⟨f, hf⟩ := B2 x hlt
          have hf7 : f ≤ 7 := by obtain ⟨_, _, _, _, _, _, _, h8, h9⟩ := hf; omega
          refine drift_while hlt 7 _ f I3 B2 hf hf7 (fun B3 => ?_)
          refine w_M_drift [41, 52, 67] ?_
          exact ⟨trivial, ihx hlt _ _ (nI_1 x) B3⟩) 0 (Nat.zero_le _) 0 w nI_0.symm (okB_notes B)
      exact lp
  · have h3' : 9000 < M 8 12 := Int32.not_le.mp h3
    exact ⟨by unfold pDrift; rw [if_neg (fun z => z h), if_neg h2, if_pos h3'], by unfold gDrift; rw [if_neg (fun z => z h), if_neg h2, if_pos h3']⟩
end M7
end
section
def pSee (M : zS) (n : Nat) (m h p : Int32) : Int32 := if ixB n m = false then kUNK else if ¬ (0 ≤ h ∧ h ≤ 5) then kOUT else if ¬ (0 ≤ p ∧ p ≤ 5) then kOUT else if M 0 26 = 6 then kFUL else M 0 26 + 1
def gSee (M : zS) (n : Nat) (m h p : Int32) : zS := if ixB n m = false then M else if ¬ (0 ≤ h ∧ h ≤ 5) then M else if ¬ (0 ≤ p ∧ p ≤ 5) then M else if M 0 26 = 6 then M else
  zU (zU (zU (zU M 13 (3 * (M 0 26).toNatClampNeg) m) 13 (3 * (M 0 26).toNatClampNeg + 1) h) 13 (3 * (M 0 26).toNatClampNeg + 2) p) 0 26 (M 0 26 + 1)
def pWrite (M : zS) (n k : Nat) (m x : Int32) : Int32 := if ixB n m = false then kUNK else if ixB k x = false then kUNK else if M 0 28 = 20 then kFUL else M 0 28 + 1
def gWrite (M : zS) (n k : Nat) (m x : Int32) : zS := if ixB n m = false then M else if ixB k x = false then M else if M 0 28 = 20 then M else
  zU (zU (zU M 14 (2 * (M 0 28).toNatClampNeg) m) 14 (2 * (M 0 28).toNatClampNeg + 1) x) 0 28 (M 0 28 + 1)
def fstU (p : Nat → Bool) : Nat → Nat → Int32
  | 0, _ => -1
  | f + 1, j => if p j then nI j else fstU p f (j + 1)
def wrongB (M : zS) (j : Nat) : Bool := !hasB (M 8 (7 + (M 14 (2 * j + 1)).toNatClampNeg)) (M 14 (2 * j))
def pJudge (M : zS) : Int32 := fstU (wrongB M) (M 0 28).toNatClampNeg 0
def gTear (M : zS) : zS := zU (zU M 0 26 0) 0 28 0
def pSeed (M : zS) (v : Int32) : Int32 := if 0 ≤ v then M 0 24 else kOUT
def gSeed (M : zS) (v : Int32) : zS := if 0 ≤ v then zU M 0 24 v else M
def pKeep (i : Int32) : Int32 := if ¬ (0 ≤ i ∧ i ≤ 1) then kUNK else 1
def gKeep (M : zS) (i : Int32) : zS := if ¬ (0 ≤ i ∧ i ≤ 1) then M else zU (zU (zU (zUr M 10 (cpyF (M 8) (M 10) 0 (55 * i.toNatClampNeg))) 11 i.toNatClampNeg (M 0 24)) 12 i.toNatClampNeg (vp_nar .boolean 1)) 0 20 0
def pBack (M : zS) (i : Int32) : Int32 := if ¬ (0 ≤ i ∧ i ≤ 1) then kUNK else if M 12 i.toNatClampNeg = 0 then kNOT else 1
def gBack (M : zS) (i : Int32) : zS := if ¬ (0 ≤ i ∧ i ≤ 1) then M else if M 12 i.toNatClampNeg = 0 then M else zU (zU (zUr M 8 (cpyF (M 10) (M 8) (55 * i.toNatClampNeg) 0)) 0 24 (M 11 i.toNatClampNeg)) 0 20 0
def quietU (q : Int32) : Nat → Int64
  | 0 => 1000000000
  | j + 1 => quietU q j * (100 - q).toInt64 / 100
def pQuiet (k : Nat) (a q : Int32) : Int32 := if ¬ (0 ≤ a ∧ a ≤ 60) then kOUT else if ¬ (0 ≤ q ∧ q ≤ 100) then kOUT else (quietU q (a.toNatClampNeg * k)).toInt32
def rootU (M : zS) : Nat → Nat → Nat
  | 0, x => x
  | f + 1, x => if M 4 (6 * x + 5) = -1 then x else rootU M f (M 4 (6 * x + 5)).toNatClampNeg
def chnU (M : zS) : Nat → Nat → Nat
  | 0, _ => 0
  | f + 1, x => if M 4 (6 * x + 5) = -1 then 0 else chnU M f (M 4 (6 * x + 5)).toNatClampNeg + 1
def pChain (M : zS) (k : Nat) (x w : Int32) : Int32 := if ixB k x = false then kUNK else if ¬ (0 ≤ w ∧ w ≤ 2) then kOUT else if w = 1 then nI (rootU M 4 x.toNatClampNeg) else if w = 0 then nI (chnU M 4 x.toNatClampNeg) else bits (fun y => decide (rootU M 4 y = rootU M 4 x.toNatClampNeg)) k
def orU (p : Nat → Bool) (a : Int32) : Nat → Int32
  | 0 => a
  | j + 1 => orU p a j ||| (if p j then (1 <<< (nI j &&& 31)) else 0)
def alB (M : zS) (m : Int32) (s x : Nat) : Bool := decide (M 13 (3 * s) = m) && decide (¬ offF (M 13 (3 * s + 2)) (M 4 (6 * x)) ≤ offF (M 13 (3 * s + 1)) (M 4 (6 * x + 1)))
def alU (M : zS) (k : Nat) (m : Int32) : Nat → Int32
  | 0 => 0
  | s + 1 => orU (alB M m s) (alU M k m s) k
def pAlibi (M : zS) (n k : Nat) (m : Int32) : Int32 := if ixB n m = false then kUNK else alU M k m (M 0 26).toNatClampNeg
theorem orU_t {p : Nat → Bool} {a : Int32} {j : Nat} (h : p j = true) : orU p a j ||| (1 <<< (nI j &&& 31)) = orU p a (j + 1) := by simp [orU, h]
theorem orU_f {p : Nat → Bool} {a : Int32} {j : Nat} (h : p j = false) : orU p a j ||| 0 = orU p a (j + 1) := by simp [orU, h]
section M8
variable {d : Nat} {M : zS} {n k : Nat} {σ : List va_E}
theorem c_M_see (I : okM M n k) {m h p : Int32} {s : Nat} (hs : M 0 26 = nI s) (hs6 : s ≤ 6) : zRuns gM_see (d + 2) [.ref 0, .int m, .int h, .int p] (encM M) (fun v σ' => v = some (.int (pSee M n m h p)) ∧ σ' = encM (gSee M n m h p)) := by
  have h7 := I.1
  refine m_M_see [] rfl (Nat.le_of_ble_eq_true rfl) ?_
  refine z_call (c_M_isMan I) ?_
  refine z_b (fun h0 => ?_) (fun h0 => ?_)
  · exact ⟨by simp [pSee, h0], by simp [gSee, h0]⟩
  refine z_call c_M_in ?_
  refine z_dec (fun h1 => ?_) (fun h1 => ?_)
  · exact ⟨by unfold pSee; rw [h0, if_neg (by decide), if_pos h1], by unfold gSee; rw [h0, if_neg (by decide), if_pos h1]⟩
  refine z_call c_M_in ?_
  refine z_dec (fun h2 => ?_) (fun h2 => ?_)
  · exact ⟨by unfold pSee; rw [h0, if_neg (by decide), if_neg (fun z => z h1), if_pos h2], by unfold gSee; rw [h0, if_neg (by decide), if_neg (fun z => z h1), if_pos h2]⟩
  refine ⟨fun h3 => ?_, fun h3 => ?_⟩
  · exact ⟨by unfold pSee; rw [h0, if_neg (by decide), if_neg (fun z => z h1), if_neg (fun z => z h2), if_pos h3], by unfold gSee; rw [h0, if_neg (by decide), if_neg (fun z => z h1), if_neg (fun z => z h2), if_pos h3]⟩
  have hlt : s < 6 := by
    have : s ≠ 6 := fun z => h3 (by rw [hs, z]; rfl)
    omega
  have es : (M 0 26).toNatClampNeg = s := by rw [hs, nI_clamp (by omega)]
  refine z_st (k := 3 * s) (by show (3 : Int32) * M 0 26 = _; rw [hs]; exact z_mu q3 rfl) (by omega) (by decide) ?_
  refine z_st (k := 3 * s + 1) (by show (3 : Int32) * M 0 26 + 1 = _; rw [hs]; exact z_ad (z_mu q3 rfl) q1) (by omega) (by decide) ?_
  refine z_st (k := 3 * s + 2) (by show (3 : Int32) * M 0 26 + 2 = _; rw [hs]; exact z_ad (z_mu q3 rfl) q2) (by omega) (by decide) ?_
  refine ⟨by unfold pSee; rw [h0, if_neg (by decide), if_neg (fun z => z h1), if_neg (fun z => z h2), if_neg h3], ?_⟩
  unfold gSee
  rw [h0, if_neg (by decide), if_neg (fun z => z h1), if_neg (fun z => z h2), if_neg h3, es]
  rfl
theorem c_M_write (I : okM M n k) {m x : Int32} {s : Nat} (hs : M 0 28 = nI s) (hs6 : s ≤ 20) : zRuns gM_write (d + 2) [.ref 0, .int m, .int x] (encM M) (fun v σ' => v = some (.int (pWrite M n k m x)) ∧ σ' = encM (gWrite M n k m x)) := by
  refine m_M_write [] rfl (Nat.le_of_ble_eq_true rfl) ?_
  refine z_call (c_M_isMan I) ?_
  refine z_b (fun h0 => ?_) (fun h0 => ?_)
  · exact ⟨by simp [pWrite, h0], by simp [gWrite, h0]⟩
  refine z_call (c_M_isMishap I) ?_
  refine z_b (fun h1 => ?_) (fun h1 => ?_)
  · exact ⟨by simp [pWrite, h0, h1], by simp [gWrite, h0, h1]⟩
  refine ⟨fun h3 => ?_, fun h3 => ?_⟩
  · exact ⟨by simp [pWrite, h0, h1, h3], by simp [gWrite, h0, h1, h3]⟩
  have hlt : s < 20 := by
    have : s ≠ 20 := fun z => h3 (by rw [hs, z]; rfl)
    omega
  have es : (M 0 28).toNatClampNeg = s := by rw [hs, nI_clamp (by omega)]
  refine z_st (k := 2 * s) (by show (2 : Int32) * M 0 28 = _; rw [hs]; exact z_mu q2 rfl) (by omega) (by decide) ?_
  refine z_st (k := 2 * s + 1) (by show (2 : Int32) * M 0 28 + 1 = _; rw [hs]; exact z_ad (z_mu q2 rfl) q1) (by omega) (by decide) ?_
  refine ⟨by simp [pWrite, h0, h1, h3], ?_⟩
  unfold gWrite
  rw [h0, h1, if_neg (by decide), if_neg (by decide), if_neg h3, es]
  rfl
theorem c_M_judge (I : okM M n k) {s : Nat} (hs : M 0 28 = nI s) (hs6 : s ≤ 20) (hb : ∀ e, e < s → ∃ y, y < k ∧ M 14 (2 * e + 1) = nI y) : zRuns gM_judge (d + 2) [.ref 0] (encM M) (fun v σ' => v = some (.int (pJudge M)) ∧ σ' = encM M) := by
  have h4 := I.2.1
  refine m_M_judge [2] rfl (Nat.le_of_ble_eq_true rfl) ?_
  refine ⟨trivial, ?_⟩
  have es : (M 0 28).toNatClampNeg = s := by rw [hs, nI_clamp (by omega)]
  refine z_up (P := fun j => ∀ i, i = nI j → fstU (wrongB M) (s - j) j = pJudge M → zGood gM_judge (d + 2) (fun v σ' => v = some (.int (pJudge M)) ∧ σ' = encM M) 2 [some (.ref 0), some (.int i)] [] (encM M) 0 0) s (fun j hj ih i hi hr => ?_) 0 (Nat.zero_le _) 0 nI_0.symm (by unfold pJudge; rw [es]; rfl)
  subst hi
  refine w_M_judge [2] ?_
  refine z_le (a := s) (b := j) hs rfl (by omega) (by omega) (fun q => ?_) (fun q => ?_)
  · have : j = s := by omega
    subst this
    refine ⟨?_, rfl⟩
    rw [← hr, Nat.sub_self]
    rfl
  · obtain ⟨y, hy, ey⟩ := hb j q
    rw [show s - j = (s - (j + 1)) + 1 by omega] at hr
    unfold fstU at hr
    refine z_ld (z_ad (z_mu q2 rfl) q1) (by omega) (by decide) ?_
    rw [ey]
    refine z_call (c_M_blamedFor I hy) ?_
    refine z_ld (z_mu q2 rfl) (by omega) (by decide) ?_
    refine z_call c_M_has ?_
    refine z_b (fun h => ?_) (fun h => ?_)
    · have : wrongB M j = true := by unfold wrongB; rw [ey, nI_clamp (by omega), h]; rfl
      rw [if_pos this] at hr
      exact ⟨by rw [← hr], rfl⟩
    · have : wrongB M j = false := by unfold wrongB; rw [ey, nI_clamp (by omega), h]; rfl
      rw [this, if_neg (by decide)] at hr
      exact ⟨trivial, ih q _ (nI_1 j) hr⟩
theorem c_M_tear : zRuns gM_tear d [.ref 0] (encM M) (fun v σ' => v = some (.int (M 0 26 + M 0 28)) ∧ σ' = encM (gTear M)) := by
  refine m_M_tear [] rfl (Nat.le_of_ble_eq_true rfl) ?_
  exact ⟨rfl, rfl⟩
theorem c_M_seed {v : Int32} : zRuns gM_seed d [.ref 0, .int v] (encM M) (fun r σ' => r = some (.int (pSeed M v)) ∧ σ' = encM (gSeed M v)) := by
  refine m_M_seed [] rfl (Nat.le_of_ble_eq_true rfl) ?_
  refine ⟨fun h => ?_, fun h => ?_⟩
  · refine ⟨by unfold pSeed; rw [if_pos h], ?_⟩
    unfold gSeed
    rw [if_pos h]
    rfl
  · exact ⟨by unfold pSeed; rw [if_neg h], by unfold gSeed; rw [if_neg h]⟩
theorem c_M_keep {i : Int32} : zRuns gM_keep (d + 1) [.ref 0, .int i] (encM M) (fun r σ' => r = some (.int (pKeep i)) ∧ σ' = encM (gKeep M i)) := by
  refine m_M_keep [] rfl (Nat.le_of_ble_eq_true rfl) ?_
  refine z_call c_M_in ?_
  refine z_dec (fun h => ?_) (fun h => ?_)
  · exact ⟨by unfold pKeep; rw [if_pos h], by unfold gKeep; rw [if_pos h]⟩
  obtain ⟨j, hj, rfl⟩ := z_rng (N := 1) (by decide) h
  have ej : (nI j).toNatClampNeg = j := nI_clamp (by omega)
  refine z_call (c_M_copies (a := 0) (b := 55 * j) (r1 := 8) (r2 := 10) q0 (z_mu q55 rfl) rfl rfl (by decide) (by decide) (by omega) (by decide) (by decide)) ?_
  refine z_st (k := j) rfl (by omega) (by decide) ?_
  refine z_st (k := j) rfl (by omega) (by decide) ?_
  refine ⟨by unfold pKeep; rw [if_neg (fun z => z h)], ?_⟩
  unfold gKeep
  rw [if_neg (fun z => z h), ej]
  rfl
theorem c_M_goBack {i : Int32} : zRuns gM_goBack (d + 1) [.ref 0, .int i] (encM M) (fun r σ' => r = some (.int (pBack M i)) ∧ σ' = encM (gBack M i)) := by
  refine m_M_goBack [] rfl (Nat.le_of_ble_eq_true rfl) ?_
  refine z_call c_M_in ?_
  refine z_dec (fun h => ?_) (fun h => ?_)
  · exact ⟨by unfold pBack; rw [if_pos h], by unfold gBack; rw [if_pos h]⟩
  obtain ⟨j, hj, rfl⟩ := z_rng (N := 1) (by decide) h
  have ej : (nI j).toNatClampNeg = j := nI_clamp (by omega)
  refine z_ld (k := j) rfl (by omega) (by decide) ?_
  refine ⟨fun h2 => ?_, fun h2 => ?_⟩
  · exact ⟨by unfold pBack; rw [if_neg (fun z => z h), ej, if_pos h2], by unfold gBack; rw [if_neg (fun z => z h), ej, if_pos h2]⟩
  refine z_call (c_M_copies (a := 55 * j) (b := 0) (r1 := 10) (r2 := 8) (z_mu q55 rfl) q0 rfl rfl (by decide) (by omega) (by decide) (by decide) (by decide)) ?_
  refine z_ld (k := j) rfl (by omega) (by decide) ?_
  refine ⟨by unfold pBack; rw [if_neg (fun z => z h), ej, if_neg h2], ?_⟩
  unfold gBack
  rw [if_neg (fun z => z h), ej, if_neg h2]
  rfl
theorem c_M_quiet (I : okM M n k) {a q : Int32} : zRuns gM_quiet (d + 1) [.ref 0, .int a, .int q] (encM M) (fun r σ' => r = some (.int (pQuiet k a q)) ∧ σ' = encM M) := by
  have h4 := I.2.1
  refine m_M_quiet [30] rfl (Nat.le_of_ble_eq_true rfl) ?_
  refine z_call c_M_in ?_
  refine z_dec (fun h => ?_) (fun h => ?_)
  · exact ⟨by unfold pQuiet; rw [if_pos h], rfl⟩
  refine z_call c_M_in ?_
  refine z_dec (fun h1 => ?_) (fun h1 => ?_)
  · exact ⟨by unfold pQuiet; rw [if_neg (fun z => z h), if_pos h1], rfl⟩
  obtain ⟨t, ht, rfl⟩ := z_rng (N := 60) (by decide) h
  have hb : t * k ≤ 60 * 4 := Nat.mul_le_mul ht h4
  have p0 : pQuiet k (nI t) q = (quietU q (t * k)).toInt32 := by unfold pQuiet; rw [if_neg (fun z => z h), if_neg (fun z => z h1), nI_clamp (by omega)]
  rw [p0]
  refine ⟨trivial, ?_⟩
  refine z_up (P := fun j => ∀ i v, i = nI j → v = quietU q j → zGood gM_quiet (d + 1) (fun r σ' => r = some (.int (quietU q (t * k)).toInt32) ∧ σ' = encM M) 30 [some (.ref 0), some (.int (nI t)), some (.int q), some (.long v), none, some (.int i)] [] (encM M) 0 0) (t * k) (fun j hj ih i v hi hv => ?_) 0 (Nat.zero_le _) 0 1000000000 nI_0.symm rfl
  subst hi; subst hv
  refine w_M_quiet [30] ?_
  refine z_le (a := t * k) (b := j) (z_mu rfl I.2.2.2.1) rfl (by omega) (by omega) (fun q2 => ?_) (fun q2 => ?_)
  · have : j = t * k := by omega
    subst this
    exact ⟨rfl, rfl⟩
  · refine ⟨by decide, ?_⟩
    exact ⟨trivial, ih q2 _ _ (nI_1 j) rfl⟩
theorem root_fuel (I : okM M n k) : ∀ x, x < k → ∀ f g, x < f → x < g → rootU M f x = rootU M g x := by
  intro x
  induction x using Nat.strongRecOn with
  | _ x ih =>
    intro hx f g hf hg
    cases f with
    | zero => omega
    | succ f =>
      cases g with
      | zero => omega
      | succ g =>
        unfold rootU
        by_cases h : M 4 (6 * x + 5) = -1
        · rw [if_pos h, if_pos h]
        · rw [if_neg h, if_neg h]
          rcases (I.2.2.2.2.2.2 x hx).2.2.2.2.2 with h9 | ⟨p, hp, e⟩
          · exact absurd h9 h
          · have h4 := I.2.1
            rw [e, nI_clamp (by omega)]
            exact ih p hp (by omega) f g (by omega) (by omega)
theorem chn_fuel (I : okM M n k) : ∀ x, x < k → ∀ f g, x < f → x < g → chnU M f x = chnU M g x := by
  intro x
  induction x using Nat.strongRecOn with
  | _ x ih =>
    intro hx f g hf hg
    cases f with
    | zero => omega
    | succ f =>
      cases g with
      | zero => omega
      | succ g =>
        unfold chnU
        by_cases h : M 4 (6 * x + 5) = -1
        · rw [if_pos h, if_pos h]
        · rw [if_neg h, if_neg h]
          rcases (I.2.2.2.2.2.2 x hx).2.2.2.2.2 with h9 | ⟨p, hp, e⟩
          · exact absurd h9 h
          · have h4 := I.2.1
            rw [e, nI_clamp (by omega)]
            rw [ih p hp (by omega) f g (by omega) (by omega)]
theorem root_le (I : okM M n k) : ∀ f x, x < k → rootU M f x < k
  | 0, x, hx => hx
  | f + 1, x, hx => by
    unfold rootU
    by_cases h : M 4 (6 * x + 5) = -1
    · rw [if_pos h]; exact hx
    · rw [if_neg h]
      rcases (I.2.2.2.2.2.2 x hx).2.2.2.2.2 with h9 | ⟨p, hp, e⟩
      · exact absurd h9 h
      · have h4 := I.2.1
        rw [e, nI_clamp (by omega)]
        exact root_le I f p (by omega)
theorem c_M_root (I : okM M n k) {x : Nat} (hx : x < k) : zRuns gM_root d [.ref 0, .int (nI x)] (encM M) (fun v σ' => v = some (.int (nI (rootU M 4 x))) ∧ σ' = encM M) := by
  have h4 := I.2.1
  refine m_M_root [2] rfl (Nat.le_of_ble_eq_true rfl) ?_
  refine ⟨trivial, ?_⟩
  have lp : ∀ y, y < k → rootU M 4 y = rootU M 4 x → zGood gM_root d (fun v σ' => v = some (.int (nI (rootU M 4 x))) ∧ σ' = encM M) 2 [some (.ref 0), some (.int (nI x)), some (.int (nI y))] [] (encM M) 0 0 := by
    intro y
    induction y using Nat.strongRecOn with
    | _ y ih =>
      intro hy hr
      refine w_M_root [2] ?_
      refine z_ld (z_ad (z_mu q6 rfl) q5) (by omega) (by decide) ?_
      rw [rootU] at hr
      refine ⟨fun h => ?_, fun h => ?_⟩
      · rw [if_pos h] at hr
        exact ⟨by rw [← hr], rfl⟩
      · rw [if_neg h] at hr
        rcases (I.2.2.2.2.2.2 y hy).2.2.2.2.2 with h9 | ⟨p, hp, e⟩
        · exact absurd h9 h
        · rw [e, nI_clamp (by omega), root_fuel I p (by omega) 3 4 (by omega) (by omega)] at hr
          refine z_ld (z_ad (z_mu q6 rfl) q5) (by omega) (by decide) ?_
          rw [e]
          exact ⟨trivial, ih p hp (by omega) hr⟩
  exact lp x hx rfl
end M8
end
section
def rateU (M : zS) (set : Nat) : Nat → Int32
  | 0 => 0
  | m + 1 => rateU M set m + (if hasB (nI set) (nI m) then M 2 (3 * m + 2) else 0)
/-- the first and its cost, among the sets 1 .. j: -1, none -/
def chp (p : Nat → Bool) (c : Nat → Int32) : Nat → Int32 × Int32
  | 0 => (-1, 0)
  | j + 1 => if p (j + 1) && (decide ((chp p c j).1 = -1) || decide (c (j + 1) < (chp p c j).2)) then (nI (j + 1), c (j + 1)) else chp p c j
def fillB (M : zS) (n k x set : Nat) : Bool := decide (nI set &&& (mayForF M n k x ^^^ -1) = 0) && decide (onesU (nI set) 7 = freeF M x)
def pCheap (M : zS) (n k : Nat) (x : Int32) : Int32 := if ixB k x = false then kUNK else (chp (fillB M n k x.toNatClampNeg) (fun s => rateU M s n) (2 ^ n - 1)).1
def nrB (M : zS) (m x p : Nat) : Bool := decide (offF (nI p) (M 4 (6 * x)) < 2) && decide (M 0 4 ≤ belF M m x (nI p) (M 8 m))
def nrU (M : zS) (m x : Nat) : Nat → Int32
  | 0 => -1
  | p + 1 => if nrB M m x p && (decide (nrU M m x p = -1) || decide (offF (nI p) (wh M m x) < offF (nrU M m x p) (wh M m x))) then nI p else nrU M m x p
def nrF (M : zS) (m x : Nat) : Int32 := if wh M m x = -1 then -1 else if canB M m x = false then -1 else nrU M m x 6
def pNearer (M : zS) (n k : Nat) (m x w : Int32) : Int32 := if ixB n m = false then kUNK else if ixB k x = false then kUNK else if ¬ (0 ≤ w ∧ w ≤ 1) then kOUT else
  if nrF M m.toNatClampNeg x.toNatClampNeg = -1 then -1 else if w = 1 then nrF M m.toNatClampNeg x.toNatClampNeg else offF (nrF M m.toNatClampNeg x.toNatClampNeg) (wh M m.toNatClampNeg x.toNatClampNeg)
theorem b_shl : ∀ n, n ≤ 7 → (1 : Int32) <<< (nI n &&& 31) = nI (2 ^ n) := by decide +kernel
section M9
variable {d : Nat} {M : zS} {n k : Nat} {σ : List va_E}
theorem c_M_chain (I : okM M n k) {x w : Int32} : zRuns gM_chain (d + 3) [.ref 0, .int x, .int w] (encM M) (fun v σ' => v = some (.int (pChain M k x w)) ∧ σ' = encM M) := by
  have h4 := I.2.1
  refine m_M_chain [39, 81] rfl (Nat.le_of_ble_eq_true rfl) ?_
  refine z_call (c_M_isMishap I) ?_
  refine z_b (fun h => ?_) (fun h => ?_)
  · exact ⟨by simp [pChain, h], rfl⟩
  obtain ⟨i, hi, rfl⟩ := ixB_t (by omega) h
  refine z_call c_M_in ?_
  refine z_dec (fun h2 => ?_) (fun h2 => ?_)
  · exact ⟨by unfold pChain; rw [h, if_neg (by decide), if_pos h2], rfl⟩
  have ei : (nI i).toNatClampNeg = i := nI_clamp (by omega)
  have e0 : pChain M k (nI i) w = if w = 1 then nI (rootU M 4 i) else if w = 0 then nI (chnU M 4 i) else bits (fun y => decide (rootU M 4 y = rootU M 4 i)) k := by
    unfold pChain; rw [h, if_neg (by decide), if_neg (fun z => z h2), ei]
  rw [e0]
  refine ⟨fun h3 => ?_, fun h3 => ?_⟩
  · refine z_call (c_M_root I hi) ?_
    exact ⟨by rw [if_pos h3], rfl⟩
  refine ⟨trivial, ?_⟩
  have l2 := z_up (P := fun j => ∀ y a, y = nI j → a = bits (fun y => decide (rootU M 4 y = rootU M 4 i)) j → zGood gM_chain (d + 3) (fun v σ' => v = some (.int (if w = 1 then nI (rootU M 4 i) else if w = 0 then nI (chnU M 4 i) else bits (fun y => decide (rootU M 4 y = rootU M 4 i)) k)) ∧ σ' = encM M) 81 [some (.ref 0), some (.int (nI i)), some (.int w), some (.int (nI (chnU M 4 i))), some (.int a), some (.int y)] [] (encM M) 0 0) k (fun j hj ih y a hy ha => by
    subst hy; subst ha
    refine w_M_chain [81] ?_
    refine ⟨fun q => ?_, fun q => ?_⟩
    · have e := z_end I.2.2.2.1 hj (by omega) q
      subst e
      refine ⟨fun h5 => ?_, fun h5 => ?_⟩
      · exact ⟨by rw [if_neg h3, if_pos h5], rfl⟩
      · exact ⟨by rw [if_neg h3, if_neg h5], rfl⟩
    · have hlt := z_go I.2.2.2.1 hj (by omega) q
      refine z_call (c_M_root I hlt) ?_
      refine z_call (c_M_root I hi) ?_
      have r1 := root_le I 4 j hlt
      have r2 := root_le I 4 i hi
      refine z_eq rfl rfl (by omega) (by omega) (fun h5 => ?_) (fun h5 => ?_)
      · refine ⟨trivial, ih hlt _ _ (nI_1 j) ?_⟩
        exact bits_t (p := fun y => decide (rootU M 4 y = rootU M 4 i)) (by simp [h5])
      · refine ⟨trivial, ih hlt _ _ (nI_1 j) ?_⟩
        exact bits_f (p := fun y => decide (rootU M 4 y = rootU M 4 i)) (by simp [h5])) 0 (Nat.zero_le _) 0 0 nI_0.symm rfl
  have lp : ∀ y, y < k → ∀ a u, a + chnU M 4 y = chnU M 4 i → zGood gM_chain (d + 3) (fun v σ' => v = some (.int (if w = 1 then nI (rootU M 4 i) else if w = 0 then nI (chnU M 4 i) else bits (fun y => decide (rootU M 4 y = rootU M 4 i)) k)) ∧ σ' = encM M) 39 [some (.ref 0), some (.int (nI i)), some (.int w), some (.int (nI a)), some (.int (nI y)), u] [] (encM M) 0 0 := by
    intro y
    induction y using Nat.strongRecOn with
    | _ y ih =>
      intro hy a u hr
      refine w_M_chain [39, 81] ?_
      refine z_ld (z_ad (z_mu q6 rfl) q5) (by omega) (by decide) ?_
      rw [chnU] at hr
      refine ⟨fun h5 => ?_, fun h5 => ?_⟩
      · rw [if_pos h5] at hr
        rw [show a = chnU M 4 i by omega]
        exact ⟨trivial, l2⟩
      · rw [if_neg h5] at hr
        rcases (I.2.2.2.2.2.2 y hy).2.2.2.2.2 with h9 | ⟨p, hp, e⟩
        · exact absurd h9 h5
        · rw [e, nI_clamp (by omega), chn_fuel I p (by omega) 3 4 (by omega) (by omega)] at hr
          refine z_ld (z_ad (z_mu q6 rfl) q5) (by omega) (by decide) ?_
          rw [e]
          have h9 := ih p hp (by omega) (a + 1) u (by omega)
          rw [← nI_1] at h9
          exact ⟨trivial, h9⟩
  exact lp i hi 0 none (by omega)
theorem c_M_alibi (I : okM M n k) {m : Int32} {s : Nat} (hs : M 0 26 = nI s) (hs6 : s ≤ 6) : zRuns gM_alibi (d + 2) [.ref 0, .int m] (encM M) (fun v σ' => v = some (.int (pAlibi M n k m)) ∧ σ' = encM M) := by
  have h7 := I.1; have h4 := I.2.1
  refine m_M_alibi [15, 26] rfl (Nat.le_of_ble_eq_true rfl) ?_
  refine z_call (c_M_isMan I) ?_
  refine z_b (fun h => ?_) (fun h => ?_)
  · exact ⟨by simp [pAlibi, h], rfl⟩
  have es : (M 0 26).toNatClampNeg = s := by rw [hs, nI_clamp (by omega)]
  have e0 : pAlibi M n k m = alU M k m s := by unfold pAlibi; rw [h, if_neg (by decide), es]
  rw [e0]
  refine ⟨trivial, ?_⟩
  refine z_up (P := fun j => ∀ i a u w, i = nI j → a = alU M k m j → zGood gM_alibi (d + 2) (fun v σ' => v = some (.int (alU M k m s)) ∧ σ' = encM M) 15 [some (.ref 0), some (.int m), some (.int a), some (.int i), u, w] [] (encM M) 0 0) s (fun j hj ih i a u w hi ha => ?_) 0 (Nat.zero_le _) 0 0 none none nI_0.symm rfl
  subst hi; subst ha
  refine w_M_alibi [15, 26] ?_
  refine z_le (a := s) (b := j) hs rfl (by omega) (by omega) (fun q => ?_) (fun q => ?_)
  · have : j = s := by omega
    subst this
    exact ⟨rfl, rfl⟩
  refine ⟨trivial, ?_⟩
  refine z_up (P := fun x => ∀ i a w, i = nI x → a = orU (alB M m j) (alU M k m j) x → zGood gM_alibi (d + 2) (fun v σ' => v = some (.int (alU M k m s)) ∧ σ' = encM M) 26 [some (.ref 0), some (.int m), some (.int a), some (.int (nI j)), some (.int i), w] [] (encM M) 0 0) k (fun x hx ihx i a w hi ha => ?_) 0 (Nat.zero_le _) 0 _ w nI_0.symm rfl
  subst hi; subst ha
  refine w_M_alibi [15, 26] ?_
  refine ⟨fun q2 => ?_, fun q2 => ?_⟩
  · have e := z_end I.2.2.2.1 hx (by omega) q2
    subst e
    exact ⟨trivial, ih q _ _ _ _ (nI_1 j) rfl⟩
  · have hlt := z_go I.2.2.2.1 hx (by omega) q2
    refine z_ld (z_mu q3 rfl) (by omega) (by decide) ?_
    refine ⟨fun h5 => ?_, fun h5 => ?_⟩
    · refine z_ld (z_ad (z_mu q3 rfl) (show (2 : Int32) = nI 2 from rfl)) (by omega) (by decide) ?_
      refine z_ld (z_mu q6 rfl) (by omega) (by decide) ?_
      refine z_call c_M_off ?_
      refine z_ld (z_ad (z_mu q3 rfl) q1) (by omega) (by decide) ?_
      refine z_ld (z_ad (z_mu q6 rfl) q1) (by omega) (by decide) ?_
      refine z_call c_M_off ?_
      refine ⟨fun h6 => ?_, fun h6 => ?_⟩
      · refine br_t rfl ?_
        refine ⟨trivial, ihx hlt _ _ _ (nI_1 x) ?_⟩
        exact orU_f (p := alB M m j) (by unfold alB; simp [h5, h6])
      · refine br_f (by decide) ?_
        refine ⟨trivial, ihx hlt _ _ _ (nI_1 x) ?_⟩
        exact orU_t (p := alB M m j) (by unfold alB; simp [h5]; exact Int32.not_le.mp h6)
    · refine br_t rfl ?_
      refine ⟨trivial, ihx hlt _ _ _ (nI_1 x) ?_⟩
      exact orU_f (p := alB M m j) (by unfold alB; simp [h5])
theorem c_M_cheapest (I : okM M n k) {x : Int32} : zRuns gM_cheapest (d + 5) [.ref 0, .int x] (encM M) (fun v σ' => v = some (.int (pCheap M n k x)) ∧ σ' = encM M) := by
  have h7 := I.1; have h4 := I.2.1
  have hp : 2 ^ n ≤ 128 := Nat.pow_le_pow_right (n := 2) (by decide) h7
  have hp1 : 1 ≤ 2 ^ n := Nat.one_le_two_pow
  refine m_M_cheapest [25, 42, 126] rfl (Nat.le_of_ble_eq_true rfl) ?_
  refine z_call (c_M_isMishap I) ?_
  refine z_b (fun h => ?_) (fun h => ?_)
  · exact ⟨by simp [pCheap, h], rfl⟩
  obtain ⟨y, hy, rfl⟩ := ixB_t (by omega) h
  have e0 : pCheap M n k (nI y) = (chp (fillB M n k y) (fun s => rateU M s n) (2 ^ n - 1)).1 := by unfold pCheap; rw [h, if_neg (by decide), nI_clamp (by omega)]
  rw [e0]
  refine z_call (c_M_mayFor I hy) ?_
  refine ⟨trivial, ?_⟩
  refine z_up (P := fun j => ∀ i f c u w, i = nI (j + 1) → f = (chp (fillB M n k y) (fun s => rateU M s n) j).1 → c = (chp (fillB M n k y) (fun s => rateU M s n) j).2 → zGood gM_cheapest (d + 5) (fun v σ' => v = some (.int (chp (fillB M n k y) (fun s => rateU M s n) (2 ^ n - 1)).1) ∧ σ' = encM M) 25 [some (.ref 0), some (.int (nI y)), some (.int (mayForF M n k y)), some (.int f), some (.int c), some (.int i), u, w] [] (encM M) 0 0) (2 ^ n - 1) (fun j hj ih i f c u w hi hf hc => ?_) 0 (Nat.zero_le _) 1 (-1) 0 none none rfl rfl rfl
  subst hi; subst hf; subst hc
  refine w_M_cheapest [25, 42, 126] ?_
  refine z_le (a := 2 ^ n) (b := j + 1) (by show (1 : Int32) <<< (M 0 6 &&& 31) = _; rw [I.2.2.1]; exact b_shl n h7) rfl (by omega) (by omega) (fun q => ?_) (fun q => ?_)
  · have : j = 2 ^ n - 1 := by omega
    subst this
    exact ⟨rfl, rfl⟩
  refine ⟨trivial, ?_⟩
  have hjl : j < 2 ^ n - 1 := by omega
  generalize hS : chp (fillB M n k y) (fun s => rateU M s n) j = S at *
  have fin : ∀ (b : Bool), (fillB M n k y (j + 1) && (decide (S.1 = -1) || decide (rateU M (j + 1) n < S.2))) = b → ∀ v, zGood gM_cheapest (d + 5) (fun v σ' => v = some (.int (chp (fillB M n k y) (fun s => rateU M s n) (2 ^ n - 1)).1) ∧ σ' = encM M) 126 [some (.ref 0), some (.int (nI y)), some (.int (mayForF M n k y)), some (.int S.1), some (.int S.2), some (.int (nI (j + 1))), some (.int (rateU M (j + 1) n)), v] [.int (bI b)] (encM M) 0 0 := by
    intro b hb v
    have es : chp (fillB M n k y) (fun s => rateU M s n) (j + 1) = if b = true then (nI (j + 1), rateU M (j + 1) n) else S := by
      unfold chp
      rw [hS, hb]
    have h9 := fun f c u w => ih hjl (nI (j + 1) + 1) f c u w (nI_1 (j + 1))
    rw [es] at h9
    refine w_M_cheapest [25, 42] ?_
    cases b with
    | false =>
      refine br_t rfl ?_
      refine br_t rfl ?_
      exact ⟨trivial, h9 _ _ _ _ rfl rfl⟩
    | true =>
      refine br_f (by decide) ?_
      refine br_f (by decide) ?_
      exact ⟨trivial, h9 _ _ _ _ rfl rfl⟩
  refine z_up (P := fun m => ∀ i a, i = nI m → a = rateU M (j + 1) m → zGood gM_cheapest (d + 5) (fun v σ' => v = some (.int (chp (fillB M n k y) (fun s => rateU M s n) (2 ^ n - 1)).1) ∧ σ' = encM M) 42 [some (.ref 0), some (.int (nI y)), some (.int (mayForF M n k y)), some (.int S.1), some (.int S.2), some (.int (nI (j + 1))), some (.int a), some (.int i)] [] (encM M) 0 0) n (fun m hm ihm i a hi ha => ?_) 0 (Nat.zero_le _) 0 0 nI_0.symm rfl
  subst hi; subst ha
  refine w_M_cheapest [25, 42, 126] ?_
  refine ⟨fun q2 => ?_, fun q2 => ?_⟩
  · have e := z_end I.2.2.1 hm (by omega) q2
    subst e
    refine ⟨fun h5 => ?_, fun h5 => ?_⟩
    · refine z_call c_M_ones ?_
      refine z_call (c_M_free I hy) ?_
      refine ⟨fun h6 => ?_, fun h6 => ?_⟩
      · have f1 : fillB M m k y (j + 1) = true := by unfold fillB; rw [decide_eq_true h5, decide_eq_true h6]; rfl
        refine ⟨fun h8 => ?_, fun h8 => ?_⟩
        · exact ⟨trivial, fin true (by rw [f1]; simp [h8]) _⟩
        · refine ⟨fun h9 => ?_, fun h9 => ?_⟩
          · exact ⟨trivial, fin false (by rw [f1]; simp [h8]; exact h9) _⟩
          · exact ⟨trivial, fin true (by rw [f1]; simp; exact Or.inr (Int32.not_le.mp h9)) _⟩
      · exact ⟨trivial, fin false (by unfold fillB; rw [decide_eq_false h6]; simp) _⟩
    · exact ⟨trivial, fin false (by unfold fillB; rw [decide_eq_false h5]; simp) _⟩
  · have hlt := z_go I.2.2.1 hm (by omega) q2
    refine z_call c_M_has ?_
    refine z_b (fun h5 => ?_) (fun h5 => ?_)
    · refine ⟨trivial, ihm hlt _ _ (nI_1 m) ?_⟩
      simp [rateU, h5]
    · refine z_ld (z_ad (z_mu q3 rfl) (show (2 : Int32) = nI 2 from rfl)) (by omega) (by decide) ?_
      refine ⟨trivial, ihm hlt _ _ (nI_1 m) ?_⟩
      simp [rateU, h5]
theorem c_M_nearer (I : okM M n k) {m x w : Int32} : zRuns gM_nearer (d + 3) [.ref 0, .int m, .int x, .int w] (encM M) (fun v σ' => v = some (.int (pNearer M n k m x w)) ∧ σ' = encM M) := by
  have h7 := I.1; have h4 := I.2.1
  refine m_M_nearer [45, 113, 158] rfl (Nat.le_of_ble_eq_true rfl) ?_
  refine z_call (c_M_isMan I) ?_
  refine z_b (fun h => ?_) (fun h => ?_)
  · exact ⟨by simp [pNearer, h], rfl⟩
  refine z_call (c_M_isMishap I) ?_
  refine z_b (fun h1 => ?_) (fun h1 => ?_)
  · exact ⟨by simp [pNearer, h, h1], rfl⟩
  obtain ⟨i, hi, rfl⟩ := ixB_t (by omega) h
  obtain ⟨y, hy, rfl⟩ := ixB_t (by omega) h1
  refine z_call c_M_in ?_
  refine z_dec (fun h2 => ?_) (fun h2 => ?_)
  · exact ⟨by unfold pNearer; rw [h, h1, if_neg (by decide), if_neg (by decide), if_pos h2], rfl⟩
  have ei : (nI i).toNatClampNeg = i := nI_clamp (by omega)
  have ey : (nI y).toNatClampNeg = y := nI_clamp (by omega)
  have e0 : pNearer M n k (nI i) (nI y) w = if nrF M i y = -1 then -1 else if w = 1 then nrF M i y else offF (nrF M i y) (wh M i y) := by
    unfold pNearer; rw [h, h1, if_neg (by decide), if_neg (by decide), if_neg (fun z => z h2), ei, ey]
  rw [e0]
  refine z_call (c_M_whereIs I hi hy) ?_
  refine ⟨trivial, ?_⟩
  have ende : ∀ u v, zGood gM_nearer (d + 3) (fun v σ' => v = some (.int (if nrF M i y = -1 then -1 else if w = 1 then nrF M i y else offF (nrF M i y) (wh M i y))) ∧ σ' = encM M) 158 [some (.ref 0), some (.int (nI i)), some (.int (nI y)), some (.int w), some (.int (wh M i y)), some (.int (nrF M i y)), u, v] [] (encM M) 0 0 := by
    intro u v
    refine w_M_nearer [] ?_
    refine ⟨fun h5 => ?_, fun h5 => ?_⟩
    · exact ⟨by rw [if_pos h5, h5], rfl⟩
    · refine ⟨fun h6 => ?_, fun h6 => ?_⟩
      · exact ⟨by rw [if_neg h5, if_pos h6], rfl⟩
      · refine z_call c_M_off ?_
        exact ⟨by rw [if_neg h5, if_neg h6], rfl⟩
  refine z_up (P := fun p => ∀ a b u, a = nI p → b = nrU M i y p → (p ≠ 0 → ¬ wh M i y = -1 ∧ canB M i y = true) → zGood gM_nearer (d + 3) (fun v σ' => v = some (.int (if nrF M i y = -1 then -1 else if w = 1 then nrF M i y else offF (nrF M i y) (wh M i y))) ∧ σ' = encM M) 45 [some (.ref 0), some (.int (nI i)), some (.int (nI y)), some (.int w), some (.int (wh M i y)), some (.int b), some (.int a), u] [] (encM M) 0 0) 6 (fun p hp ih a b u ha hb hg => ?_) 0 (Nat.zero_le _) 0 (-1) none nI_0.symm rfl (fun z => absurd rfl z)
  subst ha; subst hb
  refine w_M_nearer [45, 113, 158] ?_
  refine z_le (a := 6) (b := p) rfl rfl (by decide) (by omega) (fun q => ?_) (fun q => ?_)
  · have hp6 : p = 6 := by omega
    subst hp6
    obtain ⟨g1, g2⟩ := hg (by decide)
    have e1 : nrF M i y = nrU M i y 6 := by unfold nrF; rw [if_neg g1, g2, if_neg (by decide)]
    have h9 := ende (some (.int (nI 6))) u
    rw [e1] at h9 ⊢
    exact ⟨trivial, h9⟩
  refine ⟨fun h5 => ?_, fun h5 => ?_⟩
  · have hp0 : p = 0 := Nat.eq_zero_of_not_pos fun z => (hg (by omega)).1 h5
    subst hp0
    have e1 : nrF M i y = -1 := by unfold nrF; rw [if_pos h5]
    have h9 := ende (some (.int (nI 0))) u
    rw [e1] at h9 ⊢
    exact ⟨trivial, h9⟩
  refine z_call (c_M_can I hi hy) ?_
  refine z_b (fun h6 => ?_) (fun h6 => ?_)
  · have hp0 : p = 0 := Nat.eq_zero_of_not_pos fun z => by
      have := (hg (by omega)).2
      rw [h6] at this
      cases this
    subst hp0
    have e1 : nrF M i y = -1 := by unfold nrF; rw [if_neg h5, h6, if_pos rfl]
    have h9 := ende (some (.int (nI 0))) u
    rw [e1] at h9 ⊢
    exact ⟨trivial, h9⟩
  have mid : ∀ (b : Bool), nrB M i y p = b → zGood gM_nearer (d + 3) (fun v σ' => v = some (.int (if nrF M i y = -1 then -1 else if w = 1 then nrF M i y else offF (nrF M i y) (wh M i y))) ∧ σ' = encM M) 113 [some (.ref 0), some (.int (nI i)), some (.int (nI y)), some (.int w), some (.int (wh M i y)), some (.int (nrU M i y p)), some (.int (nI p)), u] [.int (bI b)] (encM M) 0 0 := by
    intro b hb
    have h9 := fun b u hb => ih q (nI p + 1) b u (nI_1 p) hb (fun _ => ⟨h5, h6⟩)
    refine w_M_nearer [45] ?_
    cases b with
    | false =>
      refine br_t rfl ?_
      refine ⟨trivial, h9 _ _ ?_⟩
      simp [nrU, hb]
    | true =>
      refine br_f (by decide) ?_
      refine ⟨fun h8 => ?_, fun h8 => ?_⟩
      · refine ⟨trivial, h9 _ _ ?_⟩
        rw [nrU, hb]
        simp [h8]
      · refine z_call c_M_off ?_
        refine z_call c_M_off ?_
        refine ⟨fun h10 => ?_, fun h10 => ?_⟩
        · refine ⟨trivial, h9 _ _ ?_⟩
          rw [nrU, hb, if_neg]
          simp [h8]
          exact h10
        · refine ⟨trivial, h9 _ _ ?_⟩
          rw [nrU, hb, if_pos]
          simp
          exact Or.inr (Int32.not_le.mp h10)
  refine z_ld (z_mu q6 rfl) (by omega) (by decide) ?_
  refine z_call c_M_off ?_
  refine ⟨fun h8 => ?_, fun h8 => ?_⟩
  · exact ⟨trivial, mid false (by unfold nrB; simp; intro z; exact absurd (Int32.lt_of_lt_of_le z h8) Int32.lt_irrefl)⟩
  · refine z_ld (z0a i) (by omega) (by decide) ?_
    refine z_call (c_M_beliefAt I hi hy) ?_
    refine ⟨fun h10 => ?_, fun h10 => ?_⟩
    · exact ⟨trivial, mid false (by unfold nrB; simp; intro _; exact h10)⟩
    · exact ⟨trivial, mid true (by unfold nrB; simp; exact ⟨Int32.not_le.mp h8, Int32.not_lt.mp h10⟩)⟩
end M9
end
section
/-! the class, its questions, over the reference's numbers -/
def okW (M : zS) (n : Nat) : Prop := (∀ m, m < n → ∃ w, w ≤ 9 ∧ M 8 m = nI w) ∧ ∀ m, m < n → ∀ h, h < 6 → M 8 (13 + 6 * m + h) = -1 ∨ ∃ p, p < 6 ∧ M 8 (13 + 6 * m + h) = nI p
def relF (S M : zS) (n k : Nat) : Prop := S 14 3 = nI n ∧ S 14 4 = nI k ∧ S 14 0 = M 0 3 ∧ S 14 1 = M 0 4 ∧ S 14 2 = M 0 5 ∧
  (∀ m, m < n → S 15 m = M 2 (3 * m) ∧ S 16 m = M 2 (3 * m + 1) ∧ S 17 m = M 2 (3 * m + 2) ∧ ∀ h, h < 6 → S 18 (6 * m + h) = M 3 (6 * m + h)) ∧
  (∀ x, x < k → S 19 x = M 4 (6 * x) ∧ S 20 x = M 4 (6 * x + 1) ∧ S 21 x = M 4 (6 * x + 2) ∧ S 22 x = M 4 (6 * x + 3) ∧ S 23 x = M 4 (6 * x + 4) ∧ S 24 x = M 4 (6 * x + 5))
def rowEq (n k : Nat) (c N : Nat → Int32) : Prop := (∀ m, m < n → ∀ h, h < 6 → c (6 * m + h) = N (13 + 6 * m + h)) ∧ (∀ m, m < n → c (42 + m) = N m) ∧ (∀ x, x < k → c (49 + x) = N (7 + x)) ∧ c 53 = N 11 ∧ c 54 = N 12
def rel1 (S M : zS) (n k : Nat) : Prop := okM M n k ∧ okB M k ∧ okW M n ∧ relF S M n k ∧ rowEq n k (S 26) (M 8)
theorem c_atv {d : Nat} {σ : List va_E} {r n j : Nat} {f : Nat → Int32} {i v : Int32} (h : σ[r]? = some (.inl (0, n, .inl f))) (hn : n < 2 ^ 31) (hi : i = nI j) (hj : j < n) (hv : f j = v) : zRuns gB_at (d + 1) [.ref r, .int i] σ (fun v' σ' => v' = some (.int v) ∧ σ' = σ) := by
  subst hv
  exact c_at h hn hi hj
theorem b_abs : ∀ a, a < 6 → ∀ b, b < 6 → (if 0 ≤ nI a - nI b then nI a - nI b else -(nI a - nI b)) = offF (nI a) (nI b) := by decide +kernel
theorem b_off : ∀ a, a < 6 → ∀ b, b < 6 → (1 < offF (nI a) (nI b) ↔ ¬ offF (nI a) (nI b) < 2) := by decide +kernel
theorem b_pop : ∀ s, s < 128 → zPop32 (nI s) = onesU (nI s) 7 := by decide +kernel
section C1
variable {d : Nat} {S M : zS} {n k : Nat}
theorem okM_L (I : okM M n k) {x : Nat} (hx : x < k) : ∃ t, t < 6 ∧ M 4 (6 * x) = nI t := (I.2.2.2.2.2.2 x hx).1
theorem c_St_placeOf (R : rel1 S M n k) {m h : Nat} {i : Int32} (hm : m < n) (hh : h < 6) (hi : i = nI h) : zRuns gSt_placeOf (d + 2) [.ref 25, .int (nI m), .int i] (encC S) (fun v σ' => v = some (.int (M 8 (13 + 6 * m + h))) ∧ σ' = encC S) := by
  have h7 := R.1.1
  refine m_St_placeOf [] rfl (Nat.le_of_ble_eq_true rfl) ?_
  refine z_call (c_atv (n := 55) (f := S 26) (v := M 8 (13 + 6 * m + h)) rfl (by decide) (z_ad (z_mu rfl q6) hi) (by omega) (by rw [Nat.mul_comm m 6]; exact R.2.2.2.2.1 m hm h hh)) ?_
  exact ⟨rfl, rfl⟩
theorem c_St_wornOf (R : rel1 S M n k) {m : Nat} (hm : m < n) : zRuns gSt_wornOf (d + 2) [.ref 25, .int (nI m)] (encC S) (fun v σ' => v = some (.int (M 8 m)) ∧ σ' = encC S) := by
  have h7 := R.1.1
  refine m_St_wornOf [] rfl (Nat.le_of_ble_eq_true rfl) ?_
  refine z_call (c_atv (n := 55) (f := S 26) rfl (by decide) (z_ad q42 rfl) (by omega) (R.2.2.2.2.2.1 m hm)) ?_
  exact ⟨rfl, rfl⟩
theorem c_St_blamedFor (R : rel1 S M n k) {x : Nat} (hx : x < k) : zRuns gSt_blamedFor (d + 2) [.ref 25, .int (nI x)] (encC S) (fun v σ' => v = some (.int (M 8 (7 + x))) ∧ σ' = encC S) := by
  have h7 := R.1.2.1
  refine m_St_blamedFor [] rfl (Nat.le_of_ble_eq_true rfl) ?_
  refine z_call (c_atv (n := 55) (f := S 26) rfl (by decide) (z_ad q49 rfl) (by omega) (R.2.2.2.2.2.2.1 x hx)) ?_
  exact ⟨rfl, rfl⟩
theorem c_St_spent (R : rel1 S M n k) : zRuns gSt_spent (d + 2) [.ref 25] (encC S) (fun v σ' => v = some (.int (M 8 11)) ∧ σ' = encC S) := by
  refine m_St_spent [] rfl (Nat.le_of_ble_eq_true rfl) ?_
  refine z_call (c_atv (n := 55) (f := S 26) rfl (by decide) (j := 53) q53 (by omega) R.2.2.2.2.2.2.2.1) ?_
  exact ⟨rfl, rfl⟩
theorem c_St_days (R : rel1 S M n k) : zRuns gSt_days (d + 2) [.ref 25] (encC S) (fun v σ' => v = some (.int (M 8 12)) ∧ σ' = encC S) := by
  refine m_St_days [] rfl (Nat.le_of_ble_eq_true rfl) ?_
  refine z_call (c_atv (n := 55) (f := S 26) rfl (by decide) (j := 54) q54 (by omega) R.2.2.2.2.2.2.2.2) ?_
  exact ⟨rfl, rfl⟩
theorem R_men (R : rel1 S M n k) : S 14 3 = nI n := R.2.2.2.1.1
theorem R_mis (R : rel1 S M n k) : S 14 4 = nI k := R.2.2.2.1.2.1
theorem R_man (R : rel1 S M n k) {m : Nat} (hm : m < n) : S 15 m = M 2 (3 * m) ∧ S 16 m = M 2 (3 * m + 1) ∧ S 17 m = M 2 (3 * m + 2) ∧ ∀ h, h < 6 → S 18 (6 * m + h) = M 3 (6 * m + h) := R.2.2.2.1.2.2.2.2.2.1 m hm
theorem R_x (R : rel1 S M n k) {x : Nat} (hx : x < k) : S 19 x = M 4 (6 * x) ∧ S 20 x = M 4 (6 * x + 1) ∧ S 21 x = M 4 (6 * x + 2) ∧ S 22 x = M 4 (6 * x + 3) ∧ S 23 x = M 4 (6 * x + 4) ∧ S 24 x = M 4 (6 * x + 5) := R.2.2.2.1.2.2.2.2.2.2 x hx
theorem c_Fa_areFar (R : rel1 S M n k) {x y : Nat} (hx : x < k) (hy : y < k) : zRuns gFa_areFar (d + 2) [.ref 14, .int (nI x), .int (nI y)] (encC S) (fun v σ' => v = some (.int (bI (farB M x y))) ∧ σ' = encC S) := by
  have h4 := R.1.2.1
  obtain ⟨a, ha, ea⟩ := okM_L R.1 hx
  obtain ⟨b, hb, eb⟩ := okM_L R.1 hy
  obtain ⟨s, hs, es⟩ := okM_T R.1 hx
  obtain ⟨t, ht, et⟩ := okM_T R.1 hy
  refine m_Fa_areFar [] rfl (Nat.le_of_ble_eq_true rfl) ?_
  refine z_call (c_atv (n := 4) (f := S 19) rfl (by decide) rfl (by omega) ((R_x R hx).1.trans ea)) ?_
  refine z_call (c_atv (n := 4) (f := S 19) rfl (by decide) rfl (by omega) ((R_x R hy).1.trans eb)) ?_
  refine z_call c_abs ?_
  refine z_call (c_atv (n := 4) (f := S 20) rfl (by decide) rfl (by omega) ((R_x R hx).2.1.trans es)) ?_
  refine z_call (c_atv (n := 4) (f := S 20) rfl (by decide) rfl (by omega) ((R_x R hy).2.1.trans et)) ?_
  refine z_call c_abs ?_
  rw [b_abs a ha b hb, b_abs s hs t ht, ← ea, ← eb, ← es, ← et]
  refine ⟨fun h3 => ?_, fun h3 => ?_⟩
  · exact ⟨rfl, by unfold farB; rw [bI_ndec (fun q => q h3)], rfl⟩
  · exact ⟨rfl, by unfold farB; rw [bI_dec h3], rfl⟩
def isP (p : Int32) : Prop := p = -1 ∨ ∃ q, q < 6 ∧ p = nI q
theorem c_Ct_isNear (R : rel1 S M n k) {x : Nat} {p : Int32} (hx : x < k) (hp : isP p) : zRuns gCt_isNear (d + 2) [.ref 27, .int p, .int (nI x)] (encC S) (fun v σ' => v = some (.int (bI (decide (p ≠ -1) && decide (offF p (M 4 (6 * x)) < 2)))) ∧ σ' = encC S) := by
  have h4 := R.1.2.1
  obtain ⟨a, ha, ea⟩ := okM_L R.1 hx
  refine m_Ct_isNear [] rfl (Nat.le_of_ble_eq_true rfl) ?_
  refine ⟨fun h => ?_, fun h => ?_⟩
  · exact ⟨rfl, by simp [h, bI], rfl⟩
  obtain ⟨q, hq, rfl⟩ := hp.resolve_left h
  refine z_call (c_atv (n := 4) (f := S 19) rfl (by decide) rfl (by omega) ((R_x R hx).1.trans ea)) ?_
  refine z_call c_abs ?_
  rw [b_abs q hq a ha]
  refine ⟨fun h2 => ?_, fun h2 => ?_⟩
  · exact ⟨rfl, by rw [ea]; simp [(b_off q hq a ha).mp h2, bI], rfl⟩
  · have h3 : offF (nI q) (nI a) < 2 := by
      by_cases z : offF (nI q) (nI a) < 2
      · exact z
      · exact absurd ((b_off q hq a ha).mpr z) h2
    exact ⟨rfl, by rw [ea]; simp [h, h3, bI], rfl⟩
theorem c_Ct_hasPowers (R : rel1 S M n k) {m x : Nat} (hm : m < n) (hx : x < k) : zRuns gCt_hasPowers (d + 2) [.ref 27, .int (nI m), .int (nI x)] (encC S) (fun v σ' => v = some (.int (bI (canB M m x))) ∧ σ' = encC S) := by
  have h7 := R.1.1; have h4 := R.1.2.1
  refine m_Ct_hasPowers [] rfl (Nat.le_of_ble_eq_true rfl) ?_
  refine z_call (c_atv (n := 4) (f := S 21) rfl (by decide) rfl (by omega) (R_x R hx).2.2.1) ?_
  refine z_call (c_atv (n := 7) (f := S 15) rfl (by decide) rfl (by omega) (R_man R hm).1) ?_
  refine ⟨fun h => ?_, fun h => ?_⟩
  · exact ⟨rfl, by unfold canB; rw [bI_dec h], rfl⟩
  · exact ⟨rfl, by unfold canB; rw [bI_ndec h], rfl⟩
def frF (M : zS) (m x : Nat) (p : Int32) : Int32 := 1 + (if hasB (M 2 (3 * m + 1)) (M 4 (6 * x + 3)) then 2 else 0) + (if p = M 4 (6 * x) then 2 else 0)
theorem c_Ct_freshBelief (R : rel1 S M n k) {m x : Nat} {p : Int32} (hm : m < n) (hx : x < k) : zRuns gCt_freshBelief (d + 2) [.ref 27, .int (nI m), .int (nI x), .int p] (encC S) (fun v σ' => v = some (.int (frF M m x p)) ∧ σ' = encC S) := by
  have h7 := R.1.1; have h4 := R.1.2.1
  obtain ⟨v, hv, ev⟩ := (R.1.2.2.2.2.2.2 x hx).2.2.2.1
  refine m_Ct_freshBelief [] rfl (Nat.le_of_ble_eq_true rfl) ?_
  refine z_call (c_atv (n := 7) (f := S 16) rfl (by decide) rfl (by omega) (R_man R hm).2.1) ?_
  refine z_call (c_atv (n := 4) (f := S 22) rfl (by decide) rfl (by omega) (R_x R hx).2.2.2.1) ?_
  refine z_call (c_isIn (j := v) ev (by omega)) ?_
  refine z_b (fun h => ?_) (fun h => ?_)
  · have hB : hasB (M 2 (3 * m + 1)) (M 4 (6 * x + 3)) = false := h
    refine z_call (c_atv (n := 4) (f := S 19) rfl (by decide) rfl (by omega) (R_x R hx).1) ?_
    refine ⟨fun h2 => ?_, fun h2 => ?_⟩
    · exact ⟨by simp [frF, hB, h2], rfl⟩
    · exact ⟨by simp [frF, hB, h2], rfl⟩
  · have hB : hasB (M 2 (3 * m + 1)) (M 4 (6 * x + 3)) = true := h
    refine z_call (c_atv (n := 4) (f := S 19) rfl (by decide) rfl (by omega) (R_x R hx).1) ?_
    refine ⟨fun h2 => ?_, fun h2 => ?_⟩
    · exact ⟨by simp [frF, hB, h2], rfl⟩
    · exact ⟨by simp [frF, hB, h2], rfl⟩
def wlF (M : zS) (m x : Nat) (p : Int32) : Int32 := if (decide (p ≠ -1) && decide (offF p (M 4 (6 * x)) < 2)) = false then -1 else if canB M m x = false then -1 else frF M m x p - M 0 4
theorem c_Ct_wornLimit (R : rel1 S M n k) {m x : Nat} {p : Int32} (hm : m < n) (hx : x < k) (hp : isP p) : zRuns gCt_wornLimit (d + 3) [.ref 27, .int (nI m), .int (nI x), .int p] (encC S) (fun v σ' => v = some (.int (wlF M m x p)) ∧ σ' = encC S) := by
  refine m_Ct_wornLimit [] rfl (Nat.le_of_ble_eq_true rfl) ?_
  refine z_call (c_Ct_isNear R hx hp) ?_
  refine z_b (fun h => ?_) (fun h => ?_)
  · exact ⟨by unfold wlF; rw [if_pos h], rfl⟩
  refine z_call (c_Ct_hasPowers R hm hx) ?_
  refine z_b (fun h2 => ?_) (fun h2 => ?_)
  · exact ⟨by unfold wlF; rw [if_neg (by rw [h]; decide), if_pos h2], rfl⟩
  refine z_call (c_Ct_freshBelief R hm hx) ?_
  refine ⟨?_, rfl⟩
  unfold wlF
  rw [if_neg (by rw [h]; decide), if_neg (by rw [h2]; decide), ← R.2.2.2.1.2.2.2.1]
theorem c_Ct_freeOf (R : rel1 S M n k) {x : Nat} (hx : x < k) : zRuns gCt_freeOf (d + 3) [.ref 27, .int (nI x)] (encC S) (fun v σ' => v = some (.int (freeF M x)) ∧ σ' = encC S) := by
  have h4 := R.1.2.1
  obtain ⟨f, hf⟩ := R.2.1 x hx
  have ef := freeAt_f hf
  obtain ⟨s, c, z, hs, a1, a2, a3, a4, a5⟩ := hf
  refine m_Ct_freeOf [] rfl (Nat.le_of_ble_eq_true rfl) ?_
  refine z_call (c_atv (n := 4) (f := S 23) rfl (by decide) rfl (by omega) (R_x R hx).2.2.2.2.1) ?_
  refine z_call (c_St_blamedFor R hx) ?_
  refine z_call c_bitCount ?_
  refine z_call c_max ?_
  have e9 : M 4 (6 * x + 4) - zPop32 (M 8 (7 + x)) = freeF M x := by rw [a1, b_pop s hs, ← a1]; rfl
  rw [e9, ef]
  refine ⟨?_, rfl⟩
  by_cases hz : (0 : Int32) < nI f
  · rw [if_pos hz]
  · rw [if_neg hz]
    have : f = 0 := Nat.eq_zero_of_not_pos fun z => hz (nI_lt (a := 0) z (by omega))
    rw [this]
    rfl
theorem c_Ct_freeInAll (R : rel1 S M n k) : zRuns gCt_freeInAll (d + 4) [.ref 27] (encC S) (fun v σ' => v = some (.int (allFreeU M k)) ∧ σ' = encC S) := by
  have h4 := R.1.2.1
  refine m_Ct_freeInAll [4] rfl (Nat.le_of_ble_eq_true rfl) ?_
  refine ⟨trivial, ?_⟩
  refine z_up (P := fun j => ∀ i a, i = nI j → a = allFreeU M j → zGood gCt_freeInAll (d + 4) (fun v σ' => v = some (.int (allFreeU M k)) ∧ σ' = encC S) 4 [some (.ref 27), some (.int a), some (.int i)] [] (encC S) 0 0) k (fun j hj ih i a hi ha => ?_) 0 (Nat.zero_le _) 0 0 nI_0.symm rfl
  subst hi; subst ha
  refine w_Ct_freeInAll [4] ?_
  refine ⟨fun q => ?_, fun q => ?_⟩
  · have e := z_end (R_mis R) hj (by omega) q
    subst e
    exact ⟨rfl, rfl⟩
  · have hlt := z_go (R_mis R) hj (by omega) q
    refine z_call (c_Ct_freeOf R hlt) ?_
    exact ⟨trivial, ih hlt _ _ (nI_1 j) rfl⟩
theorem c_Ct_blamesOf (R : rel1 S M n k) {m : Nat} (hm : m < 31) : zRuns gCt_blamesOf (d + 3) [.ref 27, .int (nI m)] (encC S) (fun v σ' => v = some (.int (blamesF M k m)) ∧ σ' = encC S) := by
  have h4 := R.1.2.1
  refine m_Ct_blamesOf [4] rfl (Nat.le_of_ble_eq_true rfl) ?_
  refine ⟨trivial, ?_⟩
  refine z_up (P := fun j => ∀ i a, i = nI j → a = blamesF M j m → zGood gCt_blamesOf (d + 3) (fun v σ' => v = some (.int (blamesF M k m)) ∧ σ' = encC S) 4 [some (.ref 27), some (.int (nI m)), some (.int a), some (.int i)] [] (encC S) 0 0) k (fun j hj ih i a hi ha => ?_) 0 (Nat.zero_le _) 0 0 nI_0.symm rfl
  subst hi; subst ha
  refine w_Ct_blamesOf [4] ?_
  refine ⟨fun q => ?_, fun q => ?_⟩
  · have e := z_end (R_mis R) hj (by omega) q
    subst e
    exact ⟨rfl, rfl⟩
  · have hlt := z_go (R_mis R) hj (by omega) q
    refine z_call (c_St_blamedFor R hlt) ?_
    refine z_call (c_isIn rfl hm) ?_
    refine z_b (fun h => ?_) (fun h => ?_)
    · refine ⟨trivial, ih hlt _ _ (nI_1 j) ?_⟩
      exact bits_c (p := fun x => hasB (M 8 (7 + x)) (nI m)) h
    · refine ⟨trivial, ih hlt _ _ (nI_1 j) ?_⟩
      exact bits_t (p := fun x => hasB (M 8 (7 + x)) (nI m)) h
theorem where_P (R : rel1 S M n k) {m x : Nat} (hm : m < n) (hx : x < k) : isP (wh M m x) := by
  obtain ⟨t, ht, et⟩ := okM_T R.1 hx
  unfold wh
  rw [et, nI_clamp (by omega)]
  exact R.2.2.1.2 m hm t ht
theorem c_Ct_where (R : rel1 S M n k) {m x : Nat} (hm : m < n) (hx : x < k) : zRuns gSt_placeOf (d + 2) [.ref 25, .int (nI m), .int (M 4 (6 * x + 1))] (encC S) (fun v σ' => v = some (.int (wh M m x)) ∧ σ' = encC S) := by
  obtain ⟨t, ht, et⟩ := okM_T R.1 hx
  have := c_St_placeOf (d := d) R hm ht et
  unfold wh
  rw [et, nI_clamp (by omega), ← et]
  exact this
theorem b_fit : ∀ a, a < 2 → ∀ b, b < 2 → ∀ w, w < 10 → ∀ j, j < 7 → decide (nI w ≤ 1 + nI (2 * a) + nI (2 * b) - nI j) = decide (nI j ≤ 1 + nI (2 * a) + nI (2 * b) - nI w) := by decide +kernel
theorem b_fitN : ∀ w, w < 10 → ¬ nI w ≤ -1 := by decide +kernel
theorem wl_fits (R : rel1 S M n k) {m x : Nat} {p : Int32} (hm : m < n) (hx : x < k) {w : Nat} (hw : w ≤ 9) : decide (nI w ≤ wlF M m x p) = ((decide (p ≠ -1) && decide (offF p (M 4 (6 * x)) < 2)) && (canB M m x && decide (M 0 4 ≤ belF M m x p (nI w)))) := by
  obtain ⟨j, hj, ej⟩ := R.1.2.2.2.2.1
  unfold wlF
  by_cases h : (decide (p ≠ -1) && decide (offF p (M 4 (6 * x)) < 2)) = false
  · rw [if_pos h, h, decide_eq_false (b_fitN w (by omega))]
    rfl
  rw [if_neg h]
  by_cases h2 : canB M m x = false
  · rw [if_pos h2, h2, decide_eq_false (b_fitN w (by omega))]
    simp
  rw [if_neg h2]
  have h' := eq_true_of_ne_false h
  have h2' := eq_true_of_ne_false h2
  rw [h', h2', ej]
  unfold frF belF
  have key : ∀ (A B : Bool), decide (nI w ≤ 1 + (if A = true then 2 else 0) + (if B = true then 2 else 0) - nI j) = decide (nI j ≤ 1 + (if A = true then 2 else 0) + (if B = true then 2 else 0) - nI w) := by
    intro A B
    cases A <;> cases B
    · exact b_fit 0 (by decide) 0 (by decide) w (by omega) j (by omega)
    · exact b_fit 0 (by decide) 1 (by decide) w (by omega) j (by omega)
    · exact b_fit 1 (by decide) 0 (by decide) w (by omega) j (by omega)
    · exact b_fit 1 (by decide) 1 (by decide) w (by omega) j (by omega)
  have := key (hasB (M 2 (3 * m + 1)) (M 4 (6 * x + 3))) (decide (p = M 4 (6 * x)))
  simpa using this
theorem c_Ct_mayTake (R : rel1 S M n k) {m x : Nat} (hm : m < n) (hx : x < k) : zRuns gCt_mayTake (d + 4) [.ref 27, .int (nI m), .int (nI x)] (encC S) (fun v σ' => v = some (.int (bI (mayB M k m x))) ∧ σ' = encC S) := by
  have h7 := R.1.1; have h4 := R.1.2.1
  obtain ⟨f, hf⟩ := R.2.1 x hx
  have ef := freeAt_f hf
  obtain ⟨w, hw, ew⟩ := R.2.2.1.1 m hm
  refine m_Ct_mayTake [27] rfl (Nat.le_of_ble_eq_true rfl) ?_
  refine z_call (c_Ct_freeOf R hx) ?_
  refine ⟨fun h => ?_, fun h => ?_⟩
  · exact ⟨rfl, by unfold mayB; rw [h]; simp [bI], rfl⟩
  have hpos : (0 : Int32) < freeF M x := by
    rw [ef] at h ⊢
    exact nI_lt (a := 0) (Nat.pos_of_ne_zero fun z => h (by rw [z]; rfl)) (by have := hf; obtain ⟨_, _, _, _, _, _, _, h8, h9⟩ := hf; omega)
  refine z_call (c_St_blamedFor R hx) ?_
  refine z_call (c_isIn rfl (by omega)) ?_
  refine z_b (fun h2 => ?_) (fun h2 => ?_)
  · have hB : hasB (M 8 (7 + x)) (nI m) = false := h2
    refine ⟨trivial, ?_⟩
    refine z_up (P := fun j => ∀ i, i = nI j → allU (fun y => !(hasB (M 8 (7 + y)) (nI m) && farB M x y)) j = true → zGood gCt_mayTake (d + 4) (fun v σ' => v = some (.int (bI (mayB M k m x))) ∧ σ' = encC S) 27 [some (.ref 27), some (.int (nI m)), some (.int (nI x)), some (.int i)] [] (encC S) 0 0) k (fun j hj ih i hi ha => ?_) 0 (Nat.zero_le _) 0 nI_0.symm rfl
    subst hi
    refine w_Ct_mayTake [27] ?_
    refine ⟨fun q => ?_, fun q => ?_⟩
    · have e := z_end (R_mis R) hj (by omega) q
      subst e
      refine z_call (c_atv (n := 4) (f := S 20) rfl (by decide) rfl (by omega) (R_x R hx).2.1) ?_
      refine z_call (c_Ct_where R hm hx) ?_
      refine z_call (c_St_wornOf R hm) ?_
      refine z_call (c_Ct_wornLimit R hm hx (where_P R hm hx)) ?_
      have e1 : mayB M j m x = decide (M 8 m ≤ wlF M m x (wh M m x)) := by
        unfold mayB fitsB nearB
        rw [ha, hB, decide_eq_true hpos, ew, wl_fits R hm hx hw]
        simp
      rw [e1]
      refine ⟨fun h5 => ?_, fun h5 => ?_⟩
      · exact ⟨rfl, by rw [bI_ndec (fun z => Int32.lt_irrefl (Int32.lt_of_lt_of_le h5 z))], rfl⟩
      · exact ⟨rfl, by rw [bI_dec (Int32.not_lt.mp h5)], rfl⟩
    · have hlt := z_go (R_mis R) hj (by omega) q
      have hfal : ∀ j', j' ≤ k → allU (fun y => !(hasB (M 8 (7 + y)) (nI m) && farB M x y)) (j + 1) = false → j + 1 ≤ j' → allU (fun y => !(hasB (M 8 (7 + y)) (nI m) && farB M x y)) j' = false := by
        intro j' _ hz
        induction j' with
        | zero => intro hle; omega
        | succ t iht =>
          intro hle
          by_cases e : t = j
          · subst e; exact hz
          · simp only [allU] at iht ⊢
            rw [iht (by omega) (by omega)]
            rfl
      refine z_call (c_St_blamedFor R hlt) ?_
      refine z_call (c_isIn rfl (by omega)) ?_
      refine z_b (fun h5 => ?_) (fun h5 => ?_)
      · refine ⟨trivial, ih hlt _ (nI_1 j) ?_⟩
        have h5' : hasB (M 8 (7 + j)) (nI m) = false := h5
        simp only [allU]
        rw [ha, h5']
        rfl
      · have h5' : hasB (M 8 (7 + j)) (nI m) = true := h5
        refine z_call (c_Fa_areFar R hx hlt) ?_
        refine z_b (fun h6 => ?_) (fun h6 => ?_)
        · refine ⟨trivial, ih hlt _ (nI_1 j) ?_⟩
          simp only [allU]
          rw [ha, h5', h6]
          rfl
        · have hz : allU (fun y => !(hasB (M 8 (7 + y)) (nI m) && farB M x y)) k = false := hfal k (Nat.le_refl k) (by simp only [allU]; rw [ha, h5', h6]; rfl) (by omega)
          exact ⟨rfl, by unfold mayB; rw [hz]; simp [bI], rfl⟩
  · have hB : hasB (M 8 (7 + x)) (nI m) = true := h2
    exact ⟨rfl, by unfold mayB; rw [hB]; simp [bI], rfl⟩
theorem c_Ct_takers (R : rel1 S M n k) {x : Nat} (hx : x < k) : zRuns gCt_takers (d + 5) [.ref 27, .int (nI x)] (encC S) (fun v σ' => v = some (.int (mayForF M n k x)) ∧ σ' = encC S) := by
  have h7 := R.1.1
  refine m_Ct_takers [4] rfl (Nat.le_of_ble_eq_true rfl) ?_
  refine ⟨trivial, ?_⟩
  refine z_up (P := fun j => ∀ i a, i = nI j → a = bits (fun m => mayB M k m x) j → zGood gCt_takers (d + 5) (fun v σ' => v = some (.int (mayForF M n k x)) ∧ σ' = encC S) 4 [some (.ref 27), some (.int (nI x)), some (.int a), some (.int i)] [] (encC S) 0 0) n (fun j hj ih i a hi ha => ?_) 0 (Nat.zero_le _) 0 0 nI_0.symm rfl
  subst hi; subst ha
  refine w_Ct_takers [4] ?_
  refine ⟨fun q => ?_, fun q => ?_⟩
  · have e := z_end (R_men R) hj (by omega) q
    subst e
    exact ⟨rfl, rfl⟩
  · have hlt := z_go (R_men R) hj (by omega) q
    refine z_call (c_Ct_mayTake R hlt hx) ?_
    refine z_b (fun h => ?_) (fun h => ?_)
    · refine ⟨trivial, ih hlt _ _ (nI_1 j) ?_⟩
      exact bits_c (p := fun m => mayB M k m x) h
    · refine ⟨trivial, ih hlt _ _ (nI_1 j) ?_⟩
      exact bits_t (p := fun m => mayB M k m x) h
end C1
end
section
/-! the class, its asked questions -/
section C2
variable {d : Nat} {S M : zS} {n k : Nat}
theorem c_isMan (R : rel1 S M n k) {m : Int32} : zRuns gB_isMan (d + 1) [.ref 0, .int m] (encC S) (fun v σ' => v = some (.int (bI (ixB n m))) ∧ σ' = encC S) := by
  refine m_B_isMan [] rfl (Nat.le_of_ble_eq_true rfl) ?_
  refine ⟨fun h => ?_, fun h => ?_⟩
  · exact ⟨rfl, by unfold ixB; rw [bI_ndec (fun z => Int32.lt_irrefl (Int32.lt_of_lt_of_le h z.1))], rfl⟩
  show (S 14 3 ≤ m → _) ∧ (¬ S 14 3 ≤ m → _)
  rw [R_men R]
  refine ⟨fun h2 => ?_, fun h2 => ?_⟩
  · exact ⟨rfl, by unfold ixB; rw [bI_ndec (fun z => Int32.lt_irrefl (Int32.lt_of_lt_of_le z.2 h2))], rfl⟩
  · exact ⟨rfl, by unfold ixB; rw [bI_dec ⟨Int32.not_lt.mp h, Int32.not_le.mp h2⟩], rfl⟩
theorem c_isMishap (R : rel1 S M n k) {m : Int32} : zRuns gB_isMishap (d + 1) [.ref 0, .int m] (encC S) (fun v σ' => v = some (.int (bI (ixB k m))) ∧ σ' = encC S) := by
  refine m_B_isMishap [] rfl (Nat.le_of_ble_eq_true rfl) ?_
  refine ⟨fun h => ?_, fun h => ?_⟩
  · exact ⟨rfl, by unfold ixB; rw [bI_ndec (fun z => Int32.lt_irrefl (Int32.lt_of_lt_of_le h z.1))], rfl⟩
  show (S 14 4 ≤ m → _) ∧ (¬ S 14 4 ≤ m → _)
  rw [R_mis R]
  refine ⟨fun h2 => ?_, fun h2 => ?_⟩
  · exact ⟨rfl, by unfold ixB; rw [bI_ndec (fun z => Int32.lt_irrefl (Int32.lt_of_lt_of_le z.2 h2))], rfl⟩
  · exact ⟨rfl, by unfold ixB; rw [bI_dec ⟨Int32.not_lt.mp h, Int32.not_le.mp h2⟩], rfl⟩
theorem c_told (R : rel1 S M n k) (e1 : S 1 1 = M 0 1) (e2 : S 71 3 = M 0 26) (e3 : S 71 6 = M 0 28) (e4 : S 39 2 = M 0 20) {w : Int32} : zRuns gB_told (d + 5) [.ref 0, .int w] (encC S) (fun v σ' => v = some (.int (pTold M k w)) ∧ σ' = encC S) := by
  refine m_B_told [] rfl (Nat.le_of_ble_eq_true rfl) ?_
  refine ⟨fun h => ?_, fun h0 => ?_⟩
  · subst h
    show (S 14 0 = 0 → _) ∧ (¬ S 14 0 = 0 → _)
    rw [R.2.2.2.1.2.2.1]
    refine ⟨fun h => ?_, fun h => ?_⟩
    · exact ⟨by rw [show pTold M k (Int32.ofNat 0) = if M 0 3 = 0 then 0 else 1 from rfl, if_pos h], rfl⟩
    · exact ⟨by rw [show pTold M k (Int32.ofNat 0) = if M 0 3 = 0 then 0 else 1 from rfl, if_neg h], rfl⟩
  refine ⟨fun h => ?_, fun h1 => ?_⟩
  · subst h; exact ⟨congrArg (fun z => some (Value.int z)) R.2.2.2.1.2.2.2.1, rfl⟩
  refine ⟨fun h => ?_, fun h2 => ?_⟩
  · subst h; exact ⟨congrArg (fun z => some (Value.int z)) R.2.2.2.1.2.2.2.2.1, rfl⟩
  refine ⟨fun h => ?_, fun h3 => ?_⟩
  · subst h; exact ⟨congrArg (fun z => some (Value.int z)) ((R_men R).trans R.1.2.2.1.symm), rfl⟩
  refine ⟨fun h => ?_, fun h4 => ?_⟩
  · subst h; exact ⟨congrArg (fun z => some (Value.int z)) ((R_mis R).trans R.1.2.2.2.1.symm), rfl⟩
  refine ⟨fun h => ?_, fun h5 => ?_⟩
  · subst h; exact ⟨congrArg (fun z => some (Value.int z)) e1, rfl⟩
  refine ⟨fun h => ?_, fun h6 => ?_⟩
  · subst h
    refine z_call (c_St_days R) ?_
    exact ⟨rfl, rfl⟩
  refine ⟨fun h => ?_, fun h7 => ?_⟩
  · subst h
    refine z_call (c_St_spent R) ?_
    exact ⟨rfl, rfl⟩
  refine ⟨fun h => ?_, fun h8 => ?_⟩
  · subst h
    refine z_call (c_Ct_freeInAll R) ?_
    exact ⟨rfl, rfl⟩
  refine ⟨fun h => ?_, fun h9 => ?_⟩
  · subst h; exact ⟨congrArg (fun z => some (Value.int z)) e2, rfl⟩
  refine ⟨fun h => ?_, fun h10 => ?_⟩
  · subst h; exact ⟨congrArg (fun z => some (Value.int z)) e3, rfl⟩
  refine ⟨fun h => ?_, fun h11 => ?_⟩
  · subst h; exact ⟨congrArg (fun z => some (Value.int z)) e4, rfl⟩
  exact ⟨by unfold pTold; rw [if_neg h0, if_neg h1, if_neg h2, if_neg h3, if_neg h4, if_neg h5, if_neg h6, if_neg h7, if_neg h8, if_neg h9, if_neg h10, if_neg h11], rfl⟩
theorem pMishap_w {x q : Nat} (hx : x < k) (hk : k ≤ 4) (hq : q ≤ 6) : pMishap M k (nI x) (nI q) = if q < 6 then M 4 (6 * x + q) else M 8 (7 + x) := by
  have h : ixB k (nI x) = true := decide_eq_true ⟨by rw [q0]; exact nI_le (Nat.zero_le x) (by omega), nI_lt hx (by omega)⟩
  have h2 : 0 ≤ nI q ∧ nI q ≤ 6 := ⟨by rw [q0]; exact nI_le (Nat.zero_le q) (by omega), by rw [q6]; exact nI_le hq (by omega)⟩
  unfold pMishap
  rw [h, if_neg (by decide), if_neg (fun z => z h2), nI_clamp (by omega), nI_clamp (by omega)]
theorem c_mishap (R : rel1 S M n k) {x w : Int32} : zRuns gB_mishap (d + 3) [.ref 0, .int x, .int w] (encC S) (fun v σ' => v = some (.int (pMishap M k x w)) ∧ σ' = encC S) := by
  have h4 := R.1.2.1
  refine m_B_mishap [] rfl (Nat.le_of_ble_eq_true rfl) ?_
  refine z_call (c_isMishap R) ?_
  refine z_b (fun h => ?_) (fun h => ?_)
  · exact ⟨by simp [pMishap, h], rfl⟩
  obtain ⟨i, hi, rfl⟩ := ixB_t (by omega) h
  refine ⟨fun h => ?_, fun h0 => ?_⟩
  · subst h
    refine z_call (c_atv (n := 4) (f := S 19) rfl (by decide) rfl (by omega) (R_x R hi).1) ?_
    exact ⟨congrArg (fun z => some (Value.int z)) (pMishap_w (q := 0) hi h4 (by decide)).symm, rfl⟩
  refine ⟨fun h => ?_, fun h1 => ?_⟩
  · subst h
    refine z_call (c_atv (n := 4) (f := S 20) rfl (by decide) rfl (by omega) (R_x R hi).2.1) ?_
    exact ⟨congrArg (fun z => some (Value.int z)) (pMishap_w (q := 1) hi h4 (by decide)).symm, rfl⟩
  refine ⟨fun h => ?_, fun h2 => ?_⟩
  · subst h
    refine z_call (c_atv (n := 4) (f := S 21) rfl (by decide) rfl (by omega) (R_x R hi).2.2.1) ?_
    exact ⟨congrArg (fun z => some (Value.int z)) (pMishap_w (q := 2) hi h4 (by decide)).symm, rfl⟩
  refine ⟨fun h => ?_, fun h3 => ?_⟩
  · subst h
    refine z_call (c_atv (n := 4) (f := S 22) rfl (by decide) rfl (by omega) (R_x R hi).2.2.2.1) ?_
    exact ⟨congrArg (fun z => some (Value.int z)) (pMishap_w (q := 3) hi h4 (by decide)).symm, rfl⟩
  refine ⟨fun h => ?_, fun h5 => ?_⟩
  · subst h
    refine z_call (c_atv (n := 4) (f := S 23) rfl (by decide) rfl (by omega) (R_x R hi).2.2.2.2.1) ?_
    exact ⟨congrArg (fun z => some (Value.int z)) (pMishap_w (q := 4) hi h4 (by decide)).symm, rfl⟩
  refine ⟨fun h => ?_, fun h6 => ?_⟩
  · subst h
    refine z_call (c_atv (n := 4) (f := S 24) rfl (by decide) rfl (by omega) (R_x R hi).2.2.2.2.2) ?_
    exact ⟨congrArg (fun z => some (Value.int z)) (pMishap_w (q := 5) hi h4 (by decide)).symm, rfl⟩
  refine ⟨fun h => ?_, fun h7 => ?_⟩
  · subst h
    refine z_call (c_St_blamedFor R hi) ?_
    exact ⟨congrArg (fun z => some (Value.int z)) (pMishap_w (q := 6) hi h4 (by decide)).symm, rfl⟩
  refine ⟨?_, rfl⟩
  unfold pMishap
  rw [h, if_neg (by decide), if_pos]
  rintro ⟨g1, g2⟩
  obtain ⟨q, hq, rfl⟩ := z_rng (N := 6) (by decide) ⟨g1, g2⟩
  have : q = 0 ∨ q = 1 ∨ q = 2 ∨ q = 3 ∨ q = 4 ∨ q = 5 ∨ q = 6 := by omega
  rcases this with e | e | e | e | e | e | e <;> subst e <;> first | exact h0 rfl | exact h1 rfl | exact h2 rfl | exact h3 rfl | exact h5 rfl | exact h6 rfl | exact h7 rfl
theorem pMan_w {m q : Nat} (hm : m < n) (hn : n ≤ 7) (hq : q ≤ 10) : pMan M n k (nI m) (nI q) = if q < 3 then M 2 (3 * m + q) else if q = 3 then M 8 m else if q = 4 then blamesF M k m else M 8 (13 + 6 * m + (q - 5)) := by
  have h : ixB n (nI m) = true := decide_eq_true ⟨by rw [q0]; exact nI_le (Nat.zero_le m) (by omega), nI_lt hm (by omega)⟩
  have h2 : 0 ≤ nI q ∧ nI q ≤ 10 := ⟨by rw [q0]; exact nI_le (Nat.zero_le q) (by omega), by rw [q10]; exact nI_le hq (by omega)⟩
  unfold pMan
  rw [h, if_neg (by decide), if_neg (fun z => z h2), nI_clamp (by omega), nI_clamp (by omega)]
theorem c_man (R : rel1 S M n k) {m w : Int32} : zRuns gB_man (d + 4) [.ref 0, .int m, .int w] (encC S) (fun v σ' => v = some (.int (pMan M n k m w)) ∧ σ' = encC S) := by
  have h7 := R.1.1
  refine m_B_man [] rfl (Nat.le_of_ble_eq_true rfl) ?_
  refine z_call (c_isMan R) ?_
  refine z_b (fun h => ?_) (fun h => ?_)
  · exact ⟨by simp [pMan, h], rfl⟩
  obtain ⟨i, hi, rfl⟩ := ixB_t (by omega) h
  refine ⟨fun h => ?_, fun h0 => ?_⟩
  · subst h
    refine z_call (c_atv (n := 7) (f := S 15) rfl (by decide) rfl (by omega) (R_man R hi).1) ?_
    exact ⟨congrArg (fun z => some (Value.int z)) (pMan_w (q := 0) hi h7 (by decide)).symm, rfl⟩
  refine ⟨fun h => ?_, fun h1 => ?_⟩
  · subst h
    refine z_call (c_atv (n := 7) (f := S 16) rfl (by decide) rfl (by omega) (R_man R hi).2.1) ?_
    exact ⟨congrArg (fun z => some (Value.int z)) (pMan_w (q := 1) hi h7 (by decide)).symm, rfl⟩
  refine ⟨fun h => ?_, fun h2 => ?_⟩
  · subst h
    refine z_call (c_atv (n := 7) (f := S 17) rfl (by decide) rfl (by omega) (R_man R hi).2.2.1) ?_
    exact ⟨congrArg (fun z => some (Value.int z)) (pMan_w (q := 2) hi h7 (by decide)).symm, rfl⟩
  refine ⟨fun h => ?_, fun h3 => ?_⟩
  · subst h
    refine z_call (c_St_wornOf R hi) ?_
    exact ⟨congrArg (fun z => some (Value.int z)) (pMan_w (q := 3) hi h7 (by decide)).symm, rfl⟩
  refine ⟨fun h => ?_, fun h4 => ?_⟩
  · subst h
    refine z_call (c_Ct_blamesOf R (by omega)) ?_
    exact ⟨congrArg (fun z => some (Value.int z)) (pMan_w (q := 4) hi h7 (by decide)).symm, rfl⟩
  refine ⟨fun h => ?_, fun h5 => ?_⟩
  · subst h
    refine z_call (c_St_placeOf R (h := 0) hi (by decide) rfl) ?_
    exact ⟨congrArg (fun z => some (Value.int z)) (pMan_w (q := 5) hi h7 (by decide)).symm, rfl⟩
  refine ⟨fun h => ?_, fun h6 => ?_⟩
  · subst h
    refine z_call (c_St_placeOf R (h := 1) hi (by decide) rfl) ?_
    exact ⟨congrArg (fun z => some (Value.int z)) (pMan_w (q := 6) hi h7 (by decide)).symm, rfl⟩
  refine ⟨fun h => ?_, fun h8 => ?_⟩
  · subst h
    refine z_call (c_St_placeOf R (h := 2) hi (by decide) rfl) ?_
    exact ⟨congrArg (fun z => some (Value.int z)) (pMan_w (q := 7) hi h7 (by decide)).symm, rfl⟩
  refine ⟨fun h => ?_, fun h9 => ?_⟩
  · subst h
    refine z_call (c_St_placeOf R (h := 3) hi (by decide) rfl) ?_
    exact ⟨congrArg (fun z => some (Value.int z)) (pMan_w (q := 8) hi h7 (by decide)).symm, rfl⟩
  refine ⟨fun h => ?_, fun h10 => ?_⟩
  · subst h
    refine z_call (c_St_placeOf R (h := 4) hi (by decide) rfl) ?_
    exact ⟨congrArg (fun z => some (Value.int z)) (pMan_w (q := 9) hi h7 (by decide)).symm, rfl⟩
  refine ⟨fun h => ?_, fun h11 => ?_⟩
  · subst h
    refine z_call (c_St_placeOf R (h := 5) hi (by decide) rfl) ?_
    exact ⟨congrArg (fun z => some (Value.int z)) (pMan_w (q := 10) hi h7 (by decide)).symm, rfl⟩
  refine ⟨?_, rfl⟩
  unfold pMan
  rw [h, if_neg (by decide), if_pos]
  rintro ⟨g1, g2⟩
  obtain ⟨q, hq, rfl⟩ := z_rng (N := 10) (by decide) ⟨g1, g2⟩
  have : q = 0 ∨ q = 1 ∨ q = 2 ∨ q = 3 ∨ q = 4 ∨ q = 5 ∨ q = 6 ∨ q = 7 ∨ q = 8 ∨ q = 9 ∨ q = 10 := by omega
  rcases this with e | e | e | e | e | e | e | e | e | e | e <;> subst e <;> first | exact h0 rfl | exact h1 rfl | exact h2 rfl | exact h3 rfl | exact h4 rfl | exact h5 rfl | exact h6 rfl | exact h8 rfl | exact h9 rfl | exact h10 rfl | exact h11 rfl
theorem c_belief (R : rel1 S M n k) {m x : Int32} : zRuns gB_belief (d + 4) [.ref 0, .int m, .int x] (encC S) (fun v σ' => v = some (.int (pBelief M n k m x)) ∧ σ' = encC S) := by
  have h7 := R.1.1; have h4 := R.1.2.1
  refine m_B_belief [] rfl (Nat.le_of_ble_eq_true rfl) ?_
  refine z_call (c_isMan R) ?_
  refine z_b (fun h => ?_) (fun h => ?_)
  · exact ⟨by simp [pBelief, h], rfl⟩
  refine z_call (c_isMishap R) ?_
  refine z_b (fun h2 => ?_) (fun h2 => ?_)
  · exact ⟨by simp [pBelief, h, h2], rfl⟩
  obtain ⟨i, hi, rfl⟩ := ixB_t (by omega) h
  obtain ⟨j, hj, rfl⟩ := ixB_t (by omega) h2
  have e0 : pBelief M n k (nI i) (nI j) = if (nearB M i j && canB M i j) = false then 0 else 10 + belF M i j (wh M i j) (M 8 i) := by
    unfold pBelief
    rw [h, if_neg (by decide), h2, if_neg (by decide), nI_clamp (by omega), nI_clamp (by omega)]
  rw [e0]
  refine z_call (c_atv (n := 4) (f := S 20) rfl (by decide) rfl (by omega) (R_x R hj).2.1) ?_
  refine z_call (c_Ct_where R hi hj) ?_
  refine z_call (c_Ct_isNear R hj (where_P R hi hj)) ?_
  refine z_b (fun h5 => ?_) (fun h5 => ?_)
  · have h5' : nearB M i j = false := h5
    exact ⟨by rw [h5']; simp, rfl⟩
  have h5' : nearB M i j = true := h5
  refine z_call (c_Ct_hasPowers R hi hj) ?_
  refine z_b (fun h6 => ?_) (fun h6 => ?_)
  · exact ⟨by rw [h6]; simp, rfl⟩
  refine z_call (c_Ct_freshBelief R hi hj) ?_
  refine z_call (c_St_wornOf R hi) ?_
  refine ⟨?_, rfl⟩
  rw [h5', h6, if_neg (by decide)]
  unfold belF frF
  rw [Int32.add_comm]
theorem c_may (R : rel1 S M n k) {x : Int32} : zRuns gB_may (d + 6) [.ref 0, .int x] (encC S) (fun v σ' => v = some (.int (pMay M n k x)) ∧ σ' = encC S) := by
  have h4 := R.1.2.1
  refine m_B_may [] rfl (Nat.le_of_ble_eq_true rfl) ?_
  refine z_call (c_isMishap R) ?_
  refine z_b (fun h => ?_) (fun h => ?_)
  · exact ⟨by simp [pMay, h], rfl⟩
  obtain ⟨i, hi, rfl⟩ := ixB_t (by omega) h
  refine z_call (c_Ct_takers R hi) ?_
  exact ⟨by unfold pMay; rw [h, if_neg (by decide), nI_clamp (by omega)], rfl⟩
theorem c_orphans (R : rel1 S M n k) : zRuns gB_orphans (d + 6) [.ref 0] (encC S) (fun v σ' => v = some (.int (pOrphans M n k)) ∧ σ' = encC S) := by
  have h4 := R.1.2.1
  refine m_B_orphans [4] rfl (Nat.le_of_ble_eq_true rfl) ?_
  refine ⟨trivial, ?_⟩
  refine z_up (P := fun j => ∀ i a, i = nI j → a = bits (fun x => decide (0 < freeF M x) && decide (mayForF M n k x = 0)) j → zGood gB_orphans (d + 6) (fun v σ' => v = some (.int (pOrphans M n k)) ∧ σ' = encC S) 4 [some (.ref 0), some (.int a), some (.int i)] [] (encC S) 0 0) k (fun j hj ih i a hi ha => ?_) 0 (Nat.zero_le _) 0 0 nI_0.symm rfl
  subst hi; subst ha
  refine w_B_orphans [4] ?_
  refine ⟨fun q => ?_, fun q => ?_⟩
  · have e := z_end (R_mis R) hj (by omega) q
    subst e
    exact ⟨rfl, rfl⟩
  · have hlt := z_go (R_mis R) hj (by omega) q
    refine z_call (c_Ct_freeOf R hlt) ?_
    refine ⟨fun h => ?_, fun h => ?_⟩
    · exact ⟨trivial, ih hlt _ _ (nI_1 j) (bits_c (p := fun x => decide (0 < freeF M x) && decide (mayForF M n k x = 0)) (by simp [Int32.not_lt.mpr h]))⟩
    refine z_call (c_Ct_takers R hlt) ?_
    refine ⟨fun h2 => ?_, fun h2 => ?_⟩
    · exact ⟨trivial, ih hlt _ _ (nI_1 j) (bits_t (p := fun x => decide (0 < freeF M x) && decide (mayForF M n k x = 0)) (by simp [Int32.not_le.mp h, h2]))⟩
    · exact ⟨trivial, ih hlt _ _ (nI_1 j) (bits_c (p := fun x => decide (0 < freeF M x) && decide (mayForF M n k x = 0)) (by simp [h2]))⟩
theorem c_idle (R : rel1 S M n k) : zRuns gB_idle (d + 4) [.ref 0] (encC S) (fun v σ' => v = some (.int (pIdle M n k)) ∧ σ' = encC S) := by
  have h7 := R.1.1
  refine m_B_idle [4] rfl (Nat.le_of_ble_eq_true rfl) ?_
  refine ⟨trivial, ?_⟩
  refine z_up (P := fun j => ∀ i a, i = nI j → a = bits (fun m => decide (blamesF M k m = 0)) j → zGood gB_idle (d + 4) (fun v σ' => v = some (.int (pIdle M n k)) ∧ σ' = encC S) 4 [some (.ref 0), some (.int a), some (.int i)] [] (encC S) 0 0) n (fun j hj ih i a hi ha => ?_) 0 (Nat.zero_le _) 0 0 nI_0.symm rfl
  subst hi; subst ha
  refine w_B_idle [4] ?_
  refine ⟨fun q => ?_, fun q => ?_⟩
  · have e := z_end (R_men R) hj (by omega) q
    subst e
    exact ⟨rfl, rfl⟩
  · have hlt := z_go (R_men R) hj (by omega) q
    refine z_call (c_Ct_blamesOf R (by omega)) ?_
    refine ⟨fun h2 => ?_, fun h2 => ?_⟩
    · exact ⟨trivial, ih hlt _ _ (nI_1 j) (bits_t (p := fun m => decide (blamesF M k m = 0)) (by simp [h2]))⟩
    · exact ⟨trivial, ih hlt _ _ (nI_1 j) (bits_c (p := fun m => decide (blamesF M k m = 0)) (by simp [h2]))⟩
theorem c_culprits (R : rel1 S M n k) {x : Int32} : zRuns gB_culprits (d + 4) [.ref 0, .int x] (encC S) (fun v σ' => v = some (.int (pCulprits M n k x)) ∧ σ' = encC S) := by
  have h7 := R.1.1; have h4 := R.1.2.1
  refine m_B_culprits [15] rfl (Nat.le_of_ble_eq_true rfl) ?_
  refine z_call (c_isMishap R) ?_
  refine z_b (fun h => ?_) (fun h => ?_)
  · exact ⟨by simp [pCulprits, h], rfl⟩
  obtain ⟨x, hx, rfl⟩ := ixB_t (by omega) h
  have e0 : pCulprits M n k (nI x) = bits (fun m => canB M m x && decide (wh M m x = M 4 (6 * x))) n := by
    unfold pCulprits
    rw [h, if_neg (by decide), nI_clamp (by omega)]
  rw [e0]
  refine ⟨trivial, ?_⟩
  refine z_up (P := fun j => ∀ i a (l4 : Option Value), i = nI j → a = bits (fun m => canB M m x && decide (wh M m x = M 4 (6 * x))) j → zGood gB_culprits (d + 4) (fun v σ' => v = some (.int (bits (fun m => canB M m x && decide (wh M m x = M 4 (6 * x))) n)) ∧ σ' = encC S) 15 [some (.ref 0), some (.int (nI x)), some (.int a), some (.int i), l4] [] (encC S) 0 0) n (fun j hj ih i a l4 hi ha => ?_) 0 (Nat.zero_le _) 0 0 none nI_0.symm rfl
  subst hi; subst ha
  refine w_B_culprits [15] ?_
  refine ⟨fun q => ?_, fun q => ?_⟩
  · have e := z_end (R_men R) hj (by omega) q
    subst e
    exact ⟨rfl, rfl⟩
  · have hlt := z_go (R_men R) hj (by omega) q
    refine z_call (c_atv (n := 4) (f := S 20) rfl (by decide) rfl (by omega) (R_x R hx).2.1) ?_
    refine z_call (c_Ct_where R hlt hx) ?_
    refine z_call (c_atv (n := 4) (f := S 19) rfl (by decide) rfl (by omega) (R_x R hx).1) ?_
    refine ⟨fun h2 => ?_, fun h2 => ?_⟩
    · refine br_f (by decide) ?_
      refine z_call (c_Ct_hasPowers R hlt hx) ?_
      refine z_b (fun h6 => ?_) (fun h6 => ?_)
      · exact ⟨trivial, ih hlt _ _ _ (nI_1 j) (bits_c (p := fun m => canB M m x && decide (wh M m x = M 4 (6 * x))) (by simp [h6]))⟩
      · exact ⟨trivial, ih hlt _ _ _ (nI_1 j) (bits_t (p := fun m => canB M m x && decide (wh M m x = M 4 (6 * x))) (by simp [h6, h2]))⟩
    · refine br_t rfl ?_
      exact ⟨trivial, ih hlt _ _ _ (nI_1 j) (bits_c (p := fun m => canB M m x && decide (wh M m x = M 4 (6 * x))) (by simp [h2]))⟩
end C2
end
section
/-! the class: the cheapest, the nearest, the chain, the quiet day, the papers -/
def relP (S M : zS) (n k : Nat) : Prop := ∃ s e, s ≤ 6 ∧ e ≤ 20 ∧ M 0 26 = nI s ∧ S 71 3 = nI s ∧ M 0 28 = nI e ∧ S 71 6 = nI e ∧
  (∀ j, j < s → S 72 j = M 13 (3 * j) ∧ S 73 j = M 13 (3 * j + 1) ∧ S 74 j = M 13 (3 * j + 2) ∧ (∃ h, h < 6 ∧ M 13 (3 * j + 1) = nI h) ∧ ∃ p, p < 6 ∧ M 13 (3 * j + 2) = nI p) ∧
  (∀ j, j < e → S 75 j = M 14 (2 * j) ∧ S 76 j = M 14 (2 * j + 1) ∧ (∃ m, m < n ∧ M 14 (2 * j) = nI m) ∧ ∃ x, x < k ∧ M 14 (2 * j + 1) = nI x)
def cxU (p : Nat → Bool) (c : Nat → Int32) : Nat → Int32 × Int32
  | 0 => (-1, 2147483647)
  | j + 1 => if p (j + 1) && decide (c (j + 1) < (cxU p c j).2) then (nI (j + 1), c (j + 1)) else cxU p c j
theorem cxU_chp {p : Nat → Bool} {c : Nat → Int32} (hc : ∀ j, c j < 2147483647) : ∀ j, j < 2 ^ 31 → (cxU p c j).1 = (chp p c j).1 ∧ ((chp p c j).1 = -1 → (cxU p c j).2 = 2147483647) ∧ ((chp p c j).1 ≠ -1 → (cxU p c j).2 = (chp p c j).2) := by
  intro j
  induction j with
  | zero => intro _; exact ⟨rfl, fun _ => rfl, fun h => absurd rfl h⟩
  | succ j ih =>
    intro hj
    obtain ⟨i1, i2, i3⟩ := ih (by omega)
    have hne : nI (j + 1) ≠ -1 := by
      intro z
      have := nI_pos (n := j + 1) (by omega)
      rw [z] at this
      exact this (by decide)
    unfold cxU chp
    cases hp : p (j + 1) with
    | false => simpa using ⟨i1, i2, i3⟩
    | true =>
      by_cases h : (chp p c j).1 = -1
      · rw [i2 h]
        simp only [h, hc (j + 1), decide_true, Bool.true_and, Bool.true_or, if_true]
        exact ⟨trivial, fun z => absurd z hne, fun _ => trivial⟩
      · rw [i3 h]
        by_cases h2 : c (j + 1) < (chp p c j).2
        · simp only [h2, decide_true, Bool.true_and, Bool.or_true, if_true]
          exact ⟨trivial, fun z => absurd z hne, fun _ => trivial⟩
        · simp only [h, h2, decide_false, Bool.and_false, Bool.or_false, Bool.false_eq_true, if_false]
          exact ⟨i1, fun z => z.elim, fun _ => i3 h⟩
theorem chp_tail {p : Nat → Bool} {c : Nat → Int32} {N : Nat} : ∀ j, N ≤ j → (∀ i, N < i → i ≤ j → p i = false) → chp p c j = chp p c N := by
  intro j
  induction j with
  | zero => intro h _; have : N = 0 := by omega
            subst this; rfl
  | succ j ih =>
    intro h hp
    by_cases e : N = j + 1
    · subst e; rfl
    · rw [← ih (by omega) (fun i a b => hp i a (by omega))]
      rw [chp, hp (j + 1) (by omega) (by omega)]
      simp
theorem b_sub : ∀ n, n < 8 → ∀ t, t < 2 ^ n → ∀ s, s < 128 → 2 ^ n ≤ s → nI s &&& (nI t ^^^ -1) ≠ 0 := by decide +kernel
theorem b_off6 : ∀ a, a < 6 → ∀ b, b < 6 → offF (nI a) (nI b) < 6 := by decide +kernel
def anyU (p : Nat → Bool) : Nat → Bool
  | 0 => false
  | j + 1 => anyU p j || p j
theorem orU_or {p : Nat → Bool} {a : Int32} : ∀ k, orU p a k = a ||| bits p k
  | 0 => by simp [orU, bits]
  | k + 1 => by rw [orU, orU_or k, bits, Int32.or_assoc]
theorem bits_or {p q : Nat → Bool} : ∀ k, bits q k ||| bits p k = bits (fun x => q x || p x) k
  | 0 => by simp [bits]
  | k + 1 => by
    simp only [bits]
    rw [← bits_or k]
    have e : ∀ (a b u v : Int32), (a ||| u) ||| (b ||| v) = (a ||| b) ||| (u ||| v) := by
      intro a b u v
      rw [Int32.or_assoc, ← Int32.or_assoc u b v, Int32.or_comm u b, Int32.or_assoc b u v, ← Int32.or_assoc]
    rw [e]
    by_cases h1 : q k = true <;> by_cases h2 : p k = true <;> simp [h1, h2]
theorem alU_bits (M : zS) (k : Nat) (m : Int32) : ∀ s, alU M k m s = bits (fun x => anyU (fun j => alB M m j x) s) k
  | 0 => by rw [alU]; exact (bits_false k).symm
  | s + 1 => by
    rw [alU, orU_or, alU_bits M k m s, bits_or]
    rfl
section C3
variable {d : Nat} {S M : zS} {n k : Nat}
theorem rateU_n (I : okM M n k) (s : Nat) : ∀ m, m ≤ n → ∃ r, r ≤ 99 * m ∧ rateU M s m = nI r
  | 0, _ => ⟨0, by omega, rfl⟩
  | m + 1, h => by
    obtain ⟨r, h1, h2⟩ := rateU_n I s m (by omega)
    obtain ⟨p, _, h3, h4⟩ := (I.2.2.2.2.2.1 m (by omega)).2.2
    by_cases e : hasB (nI s) (nI m) = true
    · exact ⟨r + p, by omega, by rw [rateU, if_pos e, h2, h4, nI_add]⟩
    · exact ⟨r, by omega, by rw [rateU, if_neg e, h2, q0, nI_add, Nat.add_zero]⟩
theorem c_Fa_ratesOf (R : rel1 S M n k) {s : Nat} : zRuns gFa_ratesOf (d + 2) [.ref 14, .int (nI s)] (encC S) (fun v σ' => v = some (.int (rateU M s n)) ∧ σ' = encC S) := by
  have h7 := R.1.1
  refine m_Fa_ratesOf [4] rfl (Nat.le_of_ble_eq_true rfl) ?_
  refine ⟨trivial, ?_⟩
  refine z_up (P := fun j => ∀ i a, i = nI j → a = rateU M s j → zGood gFa_ratesOf (d + 2) (fun v σ' => v = some (.int (rateU M s n)) ∧ σ' = encC S) 4 [some (.ref 14), some (.int (nI s)), some (.int a), some (.int i)] [] (encC S) 0 0) n (fun j hj ih i a hi ha => ?_) 0 (Nat.zero_le _) 0 0 nI_0.symm rfl
  subst hi; subst ha
  refine w_Fa_ratesOf [4] ?_
  refine ⟨fun q => ?_, fun q => ?_⟩
  · have e := z_end (R_men R) hj (by omega) q
    subst e
    exact ⟨rfl, rfl⟩
  · have hlt := z_go (R_men R) hj (by omega) q
    refine z_call (c_isIn rfl (by omega)) ?_
    refine z_b (fun h => ?_) (fun h => ?_)
    · have h' : hasB (nI s) (nI j) = false := h
      refine ⟨trivial, ih hlt _ _ (nI_1 j) ?_⟩
      simp [rateU, h']
    · have h' : hasB (nI s) (nI j) = true := h
      refine z_call (c_atv (n := 7) (f := S 17) rfl (by decide) rfl (by omega) (R_man R hlt).2.2.1) ?_
      refine ⟨trivial, ih hlt _ _ (nI_1 j) ?_⟩
      simp [rateU, h']
theorem c_Ct_cheapestFor (R : rel1 S M n k) {x : Nat} (hx : x < k) : zRuns gCt_cheapestFor (d + 6) [.ref 27, .int (nI x)] (encC S) (fun v σ' => v = some (.int (chp (fillB M n k x) (fun s => rateU M s n) (2 ^ n - 1)).1) ∧ σ' = encC S) := by
  have h7 := R.1.1
  have hp : 2 ^ n ≤ 128 := Nat.pow_le_pow_right (n := 2) (by decide) h7
  have hp1 : 1 ≤ 2 ^ n := Nat.one_le_two_pow
  have hc : ∀ j, rateU M j n < 2147483647 := by
    intro j
    obtain ⟨r, h1, h2⟩ := rateU_n R.1 j n (Nat.le_refl n)
    rw [h2]
    exact nI_lt (b := 2147483647) (by omega) (by omega)
  have tail : chp (fillB M n k x) (fun s => rateU M s n) 127 = chp (fillB M n k x) (fun s => rateU M s n) (2 ^ n - 1) := by
    refine chp_tail 127 (by omega) (fun i h1 h2 => ?_)
    obtain ⟨t, ht, et, _⟩ := bits_n (fun m => mayB M k m x) n h7
    have e : mayForF M n k x = nI t := et
    unfold fillB
    rw [e, decide_eq_false (b_sub n (by omega) t ht i (by omega) (by omega))]
    rfl
  rw [← tail, ← (cxU_chp hc 127 (by decide)).1]
  refine m_Ct_cheapestFor [22] rfl (Nat.le_of_ble_eq_true rfl) ?_
  refine z_call (c_Ct_takers R hx) ?_
  refine z_call (c_Ct_freeOf R hx) ?_
  refine ⟨trivial, ?_⟩
  refine z_up (P := fun j => ∀ i f c u, i = nI (j + 1) → f = (cxU (fillB M n k x) (fun s => rateU M s n) j).1 → c = (cxU (fillB M n k x) (fun s => rateU M s n) j).2 → zGood gCt_cheapestFor (d + 6) (fun v σ' => v = some (.int (cxU (fillB M n k x) (fun s => rateU M s n) 127).1) ∧ σ' = encC S) 22 [some (.ref 27), some (.int (nI x)), some (.int (mayForF M n k x)), some (.int (freeF M x)), some (.int f), some (.int c), some (.int i), u] [] (encC S) 0 0) 127 (fun j hj ih i f c u hi hf hc => ?_) 0 (Nat.zero_le _) 1 (-1) 2147483647 none rfl rfl rfl
  subst hi; subst hf; subst hc
  refine w_Ct_cheapestFor [22] ?_
  refine z_le (a := 128) (b := j + 1) rfl rfl (by decide) (by omega) (fun q => ?_) (fun q => ?_)
  · have : j = 127 := by omega
    subst this
    exact ⟨rfl, rfl⟩
  have hjl : j < 127 := by omega
  have epop : zPop32 (nI (j + 1)) = onesU (nI (j + 1)) 7 := b_pop (j + 1) (by omega)
  have go := fun f c u => ih hjl (nI (j + 1) + 1) f c u (nI_1 (j + 1))
  refine ⟨fun h5 => ?_, fun h5 => ?_⟩
  · refine z_call c_bitCount ?_
    rw [epop]
    refine ⟨fun h6 => ?_, fun h6 => ?_⟩
    · have f1 : fillB M n k x (j + 1) = true := by unfold fillB; rw [decide_eq_true h5, decide_eq_true h6]; rfl
      refine br_f (by decide) ?_
      refine z_call (c_Fa_ratesOf R) ?_
      refine ⟨fun h8 => ?_, fun h8 => ?_⟩
      · refine ⟨trivial, go _ _ _ ?_ ?_⟩ <;> (rw [cxU, f1]; simp [Int32.not_lt.mpr h8])
      · refine z_call (c_Fa_ratesOf R) ?_
        refine ⟨trivial, go _ _ _ ?_ ?_⟩ <;> (rw [cxU, f1]; simp [Int32.not_le.mp h8])
    · have f1 : fillB M n k x (j + 1) = false := by unfold fillB; rw [decide_eq_false h6]; simp
      refine br_t rfl ?_
      refine ⟨trivial, go _ _ _ ?_ ?_⟩ <;> (rw [cxU, f1]; simp)
  · have f1 : fillB M n k x (j + 1) = false := by unfold fillB; rw [decide_eq_false h5]; simp
    refine br_t rfl ?_
    refine ⟨trivial, go _ _ _ ?_ ?_⟩ <;> (rw [cxU, f1]; simp)
theorem c_cheapest (R : rel1 S M n k) {x : Int32} : zRuns gB_cheapest (d + 7) [.ref 0, .int x] (encC S) (fun v σ' => v = some (.int (pCheap M n k x)) ∧ σ' = encC S) := by
  have h4 := R.1.2.1
  refine m_B_cheapest [] rfl (Nat.le_of_ble_eq_true rfl) ?_
  refine z_call (c_isMishap R) ?_
  refine z_b (fun h => ?_) (fun h => ?_)
  · exact ⟨by simp [pCheap, h], rfl⟩
  obtain ⟨i, hi, rfl⟩ := ixB_t (by omega) h
  refine z_call (c_Ct_cheapestFor R hi) ?_
  exact ⟨by unfold pCheap; rw [h, if_neg (by decide), nI_clamp (by omega)], rfl⟩
theorem nrU_n (m x : Nat) : ∀ p, nrU M m x p = -1 ∨ ∃ q, q < p ∧ nrU M m x p = nI q
  | 0 => Or.inl rfl
  | p + 1 => by
    unfold nrU
    split
    · exact Or.inr ⟨p, by omega, rfl⟩
    · rcases nrU_n m x p with h | ⟨q, h1, h2⟩
      · exact Or.inl h
      · exact Or.inr ⟨q, by omega, h2⟩
theorem c_Ct_nearestFit (R : rel1 S M n k) {m x : Nat} (hm : m < n) (hx : x < k) : zRuns gCt_nearestFit (d + 4) [.ref 27, .int (nI m), .int (nI x), .int (wh M m x)] (encC S) (fun v σ' => v = some (.int (nrF M m x)) ∧ σ' = encC S) := by
  have h7 := R.1.1; have h4 := R.1.2.1
  obtain ⟨w, hw, ew⟩ := R.2.2.1.1 m hm
  refine m_Ct_nearestFit [17] rfl (Nat.le_of_ble_eq_true rfl) ?_
  refine ⟨fun h => ?_, fun h => ?_⟩
  · exact ⟨by unfold nrF; rw [if_pos h], rfl⟩
  obtain ⟨q, hq, eq⟩ := (where_P R hm hx).resolve_left h
  have e0 : nrF M m x = if canB M m x = false then -1 else nrU M m x 6 := by unfold nrF; rw [if_neg h]
  rw [e0]
  refine ⟨trivial, ?_⟩
  refine z_up (P := fun p => ∀ i b l u, i = nI p → b = (if canB M m x = false then -1 else nrU M m x p) → l = (if b = -1 then 6 else offF b (wh M m x)) → zGood gCt_nearestFit (d + 4) (fun v σ' => v = some (.int (if canB M m x = false then -1 else nrU M m x 6)) ∧ σ' = encC S) 17 [some (.ref 27), some (.int (nI m)), some (.int (nI x)), some (.int (wh M m x)), some (.int b), some (.int l), some (.int i), u] [] (encC S) 0 0) 6 (fun p hp ih i b l u hi hb hl => ?_) 0 (Nat.zero_le _) 0 (-1) 6 none nI_0.symm (by cases canB M m x <;> rfl) rfl
  subst hi
  refine w_Ct_nearestFit [17] ?_
  refine z_le (a := 6) (b := p) rfl rfl (by decide) (by omega) (fun q2 => ?_) (fun q2 => ?_)
  · have : p = 6 := by omega
    subst this
    exact ⟨by rw [hb], rfl⟩
  refine z_call c_abs ?_
  have eab : (if 0 ≤ nI p - wh M m x then nI p - wh M m x else -(nI p - wh M m x)) = offF (nI p) (wh M m x) := by rw [eq]; exact b_abs p q2 q hq
  rw [eab]
  have hoff : offF (nI p) (wh M m x) < 6 := by rw [eq]; exact b_off6 p q2 q hq
  have key := wl_fits R hm hx hw (p := nI p)
  have hne : nI p ≠ -1 := by
    intro z
    have := nI_pos (n := p) (by omega)
    rw [z] at this
    exact this (by decide)
  rw [decide_eq_true hne, Bool.true_and] at key
  cases hcan : canB M m x with
  | false =>
    rw [hcan, if_pos rfl] at hb
    subst hb
    rw [if_pos rfl] at hl
    subst hl
    have key2 : ¬ nI w ≤ wlF M m x (nI p) := of_decide_eq_false (by rw [key, hcan]; simp)
    refine ⟨fun h8 => absurd (Int32.lt_of_lt_of_le hoff h8) Int32.lt_irrefl, fun h8 => ?_⟩
    refine z_call (c_St_wornOf R hm) ?_
    refine z_call (c_Ct_wornLimit R hm hx (Or.inr ⟨p, q2, rfl⟩)) ?_
    rw [ew]
    refine ⟨fun h9 => ?_, fun h9 => absurd (Int32.not_lt.mp h9) key2⟩
    refine ⟨trivial, ?_⟩
    have := ih q2 (nI p + 1) (-1) 6 (some (.int (offF (nI p) (wh M m x)))) (nI_1 p) (by rw [hcan, if_pos rfl]) rfl
    rw [hcan] at this
    exact this
  | true =>
    rw [hcan, if_neg (by decide)] at hb
    have key2 : decide (nI w ≤ wlF M m x (nI p)) = nrB M m x p := by rw [key, hcan, Bool.true_and, ← ew]; rfl
    have go : ∀ b l u, b = nrU M m x (p + 1) → l = (if b = -1 then 6 else offF b (wh M m x)) → zGood gCt_nearestFit (d + 4) (fun v σ' => v = some (.int (if true = false then -1 else nrU M m x 6)) ∧ σ' = encC S) 17 [some (.ref 27), some (.int (nI m)), some (.int (nI x)), some (.int (wh M m x)), some (.int b), some (.int l), some (.int (nI p + 1)), u] [] (encC S) 0 0 := by
      intro b l u h1 h2
      have := ih q2 (nI p + 1) b l u (nI_1 p) (by rw [hcan, if_neg (by decide)]; exact h1) h2
      rw [hcan] at this
      exact this
    refine ⟨fun h8 => ?_, fun h8 => ?_⟩
    · refine ⟨trivial, go _ _ _ ?_ hl⟩
      rw [hb, nrU]
      by_cases z : nrU M m x p = -1
      · rw [hb, if_pos z] at hl
        subst hl
        exact absurd (Int32.lt_of_lt_of_le hoff h8) Int32.lt_irrefl
      · rw [hb, if_neg z] at hl
        subst hl
        rw [if_neg]
        simp [z, Int32.not_lt.mpr h8]
    · refine z_call (c_St_wornOf R hm) ?_
      refine z_call (c_Ct_wornLimit R hm hx (Or.inr ⟨p, q2, rfl⟩)) ?_
      rw [ew]
      refine ⟨fun h9 => ?_, fun h9 => ?_⟩
      · refine ⟨trivial, go _ _ _ ?_ hl⟩
        rw [hb, nrU, ← key2, decide_eq_false (Int32.not_le.mpr h9)]
        simp
      · refine ⟨trivial, go _ _ _ ?_ (by rw [if_neg hne])⟩
        rw [nrU, ← key2, decide_eq_true (Int32.not_lt.mp h9), if_pos]
        by_cases z : nrU M m x p = -1
        · simp [z]
        · rw [hb, if_neg z] at hl
          subst hl
          simp [Int32.not_le.mp h8]
theorem c_nearer (R : rel1 S M n k) {m x w : Int32} : zRuns gB_nearer (d + 5) [.ref 0, .int m, .int x, .int w] (encC S) (fun v σ' => v = some (.int (pNearer M n k m x w)) ∧ σ' = encC S) := by
  have h7 := R.1.1; have h4 := R.1.2.1
  refine m_B_nearer [] rfl (Nat.le_of_ble_eq_true rfl) ?_
  refine z_call (c_isMan R) ?_
  refine z_b (fun h => ?_) (fun h => ?_)
  · exact ⟨by simp [pNearer, h], rfl⟩
  refine z_call (c_isMishap R) ?_
  refine z_b (fun h1 => ?_) (fun h1 => ?_)
  · exact ⟨by simp [pNearer, h, h1], rfl⟩
  obtain ⟨i, hi, rfl⟩ := ixB_t (by omega) h
  obtain ⟨y, hy, rfl⟩ := ixB_t (by omega) h1
  have ei : (nI i).toNatClampNeg = i := nI_clamp (by omega)
  have ey : (nI y).toNatClampNeg = y := nI_clamp (by omega)
  have e0 : 0 ≤ w ∧ w ≤ 1 → pNearer M n k (nI i) (nI y) w = if nrF M i y = -1 then -1 else if w = 1 then nrF M i y else offF (nrF M i y) (wh M i y) := by
    intro h2
    unfold pNearer; rw [h, h1, if_neg (by decide), if_neg (by decide), if_neg (fun z => z h2), ei, ey]
  have step : (w = 0 ∨ w = 1) → ∀ (b : Bool), b = true → (0 ≤ w ∧ w ≤ 1) := by
    rintro (rfl | rfl) _ _ <;> exact ⟨by decide, by decide⟩
  refine ⟨fun h2 => ?_, fun h2 => ?_⟩
  · rw [e0 (step (Or.inl h2) true rfl)]
    refine z_call (c_atv (n := 4) (f := S 20) rfl (by decide) rfl (by omega) (R_x R hy).2.1) ?_
    refine z_call (c_Ct_where R hi hy) ?_
    refine z_call (c_Ct_nearestFit R hi hy) ?_
    refine ⟨fun h5 => ?_, fun h5 => ?_⟩
    · exact ⟨by rw [if_pos h5, h5], rfl⟩
    refine ⟨fun h6 => ?_, fun h6 => ?_⟩
    · exact ⟨by rw [if_neg h5, if_pos h6], rfl⟩
    refine z_call c_abs ?_
    refine ⟨?_, rfl⟩
    rw [if_neg h5, if_neg h6]
    have hwh : ¬ wh M i y = -1 := fun z => h5 (by unfold nrF; rw [if_pos z])
    obtain ⟨q, hq, eq⟩ := (where_P R hi hy).resolve_left hwh
    have hcan : canB M i y = true := eq_true_of_ne_false fun z => h5 (by unfold nrF; rw [if_neg hwh, if_pos z])
    have en : nrF M i y = nrU M i y 6 := by unfold nrF; rw [if_neg hwh, hcan, if_neg (by decide)]
    rw [en] at h5 ⊢
    obtain ⟨p, hp, ep⟩ := (nrU_n (M := M) i y 6).resolve_left h5
    rw [ep, eq, b_abs p hp q hq]
  · refine ⟨fun h3 => ?_, fun h3 => ?_⟩
    · rw [e0 (step (Or.inr h3) true rfl)]
      refine z_call (c_atv (n := 4) (f := S 20) rfl (by decide) rfl (by omega) (R_x R hy).2.1) ?_
      refine z_call (c_Ct_where R hi hy) ?_
      refine z_call (c_Ct_nearestFit R hi hy) ?_
      refine ⟨fun h5 => ?_, fun h5 => ?_⟩
      · exact ⟨by rw [if_pos h5, h5], rfl⟩
      refine ⟨fun h6 => ?_, fun h6 => absurd h3 h6⟩
      exact ⟨by rw [if_neg h5, if_pos h6], rfl⟩
    · refine ⟨?_, rfl⟩
      unfold pNearer
      rw [h, h1, if_neg (by decide), if_neg (by decide), if_pos]
      intro z
      obtain ⟨j, hj, rfl⟩ := z_rng (N := 1) (by decide) z
      have : j = 0 ∨ j = 1 := by omega
      rcases this with e | e <;> subst e
      · exact h2 rfl
      · exact h3 rfl
end C3
end
section
/-! the class: the chain, the quiet day, the papers -/
section C4
variable {d : Nat} {S M : zS} {n k : Nat}
theorem c_origin (R : rel1 S M n k) {x : Nat} (hx : x < k) : zRuns gB_at (d + 1) [.ref 24, .int (nI x)] (encC S) (fun v σ' => v = some (.int (M 4 (6 * x + 5))) ∧ σ' = encC S) := by
  have h4 := R.1.2.1
  exact c_atv (n := 4) (f := S 24) rfl (by decide) rfl (by omega) (R_x R hx).2.2.2.2.2
theorem nI_ne {p : Nat} (hp : p < 2 ^ 31) : nI p ≠ -1 := by
  intro z
  have := nI_pos (n := p) hp
  rw [z] at this
  exact this (by decide)
theorem chn_u {x f : Nat} : chnU M (f + 1) x = if M 4 (6 * x + 5) = -1 then 0 else chnU M f (M 4 (6 * x + 5)).toNatClampNeg + 1 := by rw [chnU]
theorem c_Fa_chainOf (R : rel1 S M n k) {x : Nat} (hx : x < k) : zRuns gFa_chainOf (d + 2) [.ref 14, .int (nI x)] (encC S) (fun v σ' => v = some (.int (nI (chnU M 4 x))) ∧ σ' = encC S) := by
  have h4 := R.1.2.1
  refine m_Fa_chainOf [14] rfl (Nat.le_of_ble_eq_true rfl) ?_
  refine z_call (c_origin R hx) ?_
  refine ⟨trivial, ?_⟩
  have nxt : ∀ y, y < k → ∀ (a : Int32), M 4 (6 * y + 5) = a → (a = -1 ∧ chnU M 4 y = 0) ∨ ∃ p, a = nI p ∧ p < y ∧ chnU M 4 y = 1 + chnU M 4 p := by
    intro y hy a ha
    rcases (R.1.2.2.2.2.2.2 y hy).2.2.2.2.2 with h9 | ⟨p, hp, e⟩
    · exact Or.inl ⟨ha.symm.trans h9, by rw [chn_u, if_pos h9]⟩
    · refine Or.inr ⟨p, ha.symm.trans e, hp, ?_⟩
      rw [chn_u, if_neg (by rw [e]; exact nI_ne (by omega)), e, nI_clamp (by omega), chn_fuel R.1 p (by omega) 3 4 (by omega) (by omega)]
      omega
  refine z_up (P := fun j => ∀ i l a, i = nI j → l = nI j → ((a = -1 ∧ chnU M 4 x = j) ∨ ∃ p, a = nI p ∧ p + j < x ∧ chnU M 4 x = j + 1 + chnU M 4 p) → zGood gFa_chainOf (d + 2) (fun v σ' => v = some (.int (nI (chnU M 4 x))) ∧ σ' = encC S) 14 [some (.ref 14), some (.int (nI x)), some (.int l), some (.int a), some (.int i)] [] (encC S) 0 0) 4 (fun j hj ih i l a hi hl ha => ?_) 0 (Nat.zero_le _) 0 0 (M 4 (6 * x + 5)) nI_0.symm nI_0.symm ?_
  · subst hi; subst hl
    refine w_Fa_chainOf [14] ?_
    refine z_le (a := 4) (b := j) rfl rfl (by decide) (by omega) (fun q => ?_) (fun q => ?_)
    · rcases ha with ⟨h1, h2⟩ | ⟨p, h1, h2, h3⟩
      · exact ⟨by rw [h2], rfl⟩
      · omega
    · refine ⟨fun h => ?_, fun h => ?_⟩
      · rcases ha with ⟨h1, h2⟩ | ⟨p, h1, h2, h3⟩
        · exact ⟨by rw [h2], rfl⟩
        · exact absurd (h1.symm.trans h) (nI_ne (by omega))
      · obtain ⟨p, h1, h2, h3⟩ := ha.resolve_left (fun z => h z.1)
        subst h1
        refine z_call (c_origin R (by omega)) ?_
        refine ⟨trivial, ih q _ _ _ (nI_1 j) (nI_1 j) ?_⟩
        rcases nxt p (by omega) _ rfl with ⟨g1, g2⟩ | ⟨p', g1, g2, g3⟩
        · exact Or.inl ⟨g1, by omega⟩
        · exact Or.inr ⟨p', g1, by omega, by omega⟩
  · rcases nxt x hx _ rfl with ⟨g1, g2⟩ | ⟨p', g1, g2, g3⟩
    · exact Or.inl ⟨g1, g2⟩
    · exact Or.inr ⟨p', g1, by omega, by omega⟩
theorem root_u {x f : Nat} : rootU M (f + 1) x = if M 4 (6 * x + 5) = -1 then x else rootU M f (M 4 (6 * x + 5)).toNatClampNeg := by rw [rootU]
theorem c_Fa_rootOf (R : rel1 S M n k) {x : Nat} (hx : x < k) : zRuns gFa_rootOf (d + 2) [.ref 14, .int (nI x)] (encC S) (fun v σ' => v = some (.int (nI (rootU M 4 x))) ∧ σ' = encC S) := by
  have h4 := R.1.2.1
  refine m_Fa_rootOf [4] rfl (Nat.le_of_ble_eq_true rfl) ?_
  refine ⟨trivial, ?_⟩
  refine z_up (P := fun j => ∀ i a, i = nI j → (∃ p, a = nI p ∧ p + j ≤ x ∧ rootU M 4 p = rootU M 4 x) → zGood gFa_rootOf (d + 2) (fun v σ' => v = some (.int (nI (rootU M 4 x))) ∧ σ' = encC S) 4 [some (.ref 14), some (.int (nI x)), some (.int a), some (.int i)] [] (encC S) 0 0) 4 (fun j hj ih i a hi ha => ?_) 0 (Nat.zero_le _) 0 (nI x) nI_0.symm ⟨x, rfl, by omega, rfl⟩
  subst hi
  obtain ⟨p, rfl, h2, h3⟩ := ha
  refine w_Fa_rootOf [4] ?_
  refine z_le (a := 4) (b := j) rfl rfl (by decide) (by omega) (fun q => ?_) (fun q => ?_)
  · omega
  · refine z_call (c_origin R (by omega)) ?_
    rw [root_u] at h3
    refine ⟨fun h => ?_, fun h => ?_⟩
    · rw [if_pos h] at h3
      exact ⟨by rw [h3], rfl⟩
    · rw [if_neg h] at h3
      rcases (R.1.2.2.2.2.2.2 p (by omega)).2.2.2.2.2 with h9 | ⟨p', hp, e⟩
      · exact absurd h9 h
      · refine z_call (c_origin R (by omega)) ?_
        rw [e, nI_clamp (by omega), root_fuel R.1 p' (by omega) 3 4 (by omega) (by omega)] at h3
        exact ⟨trivial, ih q _ _ (nI_1 j) ⟨p', e, by omega, h3⟩⟩
theorem c_Fa_wholeOf (R : rel1 S M n k) {x : Nat} (hx : x < k) : zRuns gFa_wholeOf (d + 3) [.ref 14, .int (nI x)] (encC S) (fun v σ' => v = some (.int (bits (fun y => decide (rootU M 4 y = rootU M 4 x)) k)) ∧ σ' = encC S) := by
  have h4 := R.1.2.1
  refine m_Fa_wholeOf [4] rfl (Nat.le_of_ble_eq_true rfl) ?_
  refine ⟨trivial, ?_⟩
  refine z_up (P := fun j => ∀ i a, i = nI j → a = bits (fun y => decide (rootU M 4 y = rootU M 4 x)) j → zGood gFa_wholeOf (d + 3) (fun v σ' => v = some (.int (bits (fun y => decide (rootU M 4 y = rootU M 4 x)) k)) ∧ σ' = encC S) 4 [some (.ref 14), some (.int (nI x)), some (.int a), some (.int i)] [] (encC S) 0 0) k (fun j hj ih i a hi ha => ?_) 0 (Nat.zero_le _) 0 0 nI_0.symm rfl
  subst hi; subst ha
  refine w_Fa_wholeOf [4] ?_
  refine ⟨fun q => ?_, fun q => ?_⟩
  · have e := z_end (R_mis R) hj (by omega) q
    subst e
    exact ⟨rfl, rfl⟩
  · have hlt := z_go (R_mis R) hj (by omega) q
    refine z_call (c_Fa_rootOf R hlt) ?_
    refine z_call (c_Fa_rootOf R hx) ?_
    have a1 := root_le R.1 4 j hlt
    have a2 := root_le R.1 4 x hx
    refine z_eq rfl rfl (by omega) (by omega) (fun h => ?_) (fun h => ?_)
    · exact ⟨trivial, ih hlt _ _ (nI_1 j) (bits_t (p := fun y => decide (rootU M 4 y = rootU M 4 x)) (by simp [h]))⟩
    · exact ⟨trivial, ih hlt _ _ (nI_1 j) (bits_c (p := fun y => decide (rootU M 4 y = rootU M 4 x)) (by simp [h]))⟩
theorem c_chain (R : rel1 S M n k) {x w : Int32} : zRuns gB_chain (d + 4) [.ref 0, .int x, .int w] (encC S) (fun v σ' => v = some (.int (pChain M k x w)) ∧ σ' = encC S) := by
  have h4 := R.1.2.1
  refine m_B_chain [] rfl (Nat.le_of_ble_eq_true rfl) ?_
  refine z_call (c_isMishap R) ?_
  refine z_b (fun h => ?_) (fun h => ?_)
  · exact ⟨by simp [pChain, h], rfl⟩
  obtain ⟨i, hi, rfl⟩ := ixB_t (by omega) h
  have ei : (nI i).toNatClampNeg = i := nI_clamp (by omega)
  refine ⟨fun h0 => ?_, fun h0 => ?_⟩
  · subst h0
    refine z_call (c_Fa_chainOf R hi) ?_
    refine ⟨?_, rfl⟩
    unfold pChain
    rw [h, if_neg (by decide), if_neg (by decide), if_neg (by decide), if_pos (by decide), ei]
  refine ⟨fun h1 => ?_, fun h1 => ?_⟩
  · subst h1
    refine z_call (c_Fa_rootOf R hi) ?_
    refine ⟨?_, rfl⟩
    unfold pChain
    rw [h, if_neg (by decide), if_neg (by decide), if_pos (by decide), ei]
  refine ⟨fun h2 => ?_, fun h2 => ?_⟩
  · subst h2
    refine z_call (c_Fa_wholeOf R hi) ?_
    refine ⟨?_, rfl⟩
    unfold pChain
    rw [h, if_neg (by decide), if_neg (by decide), if_neg (by decide), if_neg (by decide), ei]
  refine ⟨?_, rfl⟩
  unfold pChain
  rw [h, if_neg (by decide), if_pos]
  rintro z
  obtain ⟨q, hq, rfl⟩ := z_rng (N := 2) (by decide) z
  have : q = 0 ∨ q = 1 ∨ q = 2 := by omega
  rcases this with e | e | e <;> subst e <;> first | exact h0 rfl | exact h1 rfl | exact h2 rfl
theorem c_quiet (R : rel1 S M n k) {a q : Int32} : zRuns gB_quiet (d + 2) [.ref 0, .int a, .int q] (encC S) (fun r σ' => r = some (.int (pQuiet k a q)) ∧ σ' = encC S) := by
  have h4 := R.1.2.1
  refine m_B_quiet [41] rfl (Nat.le_of_ble_eq_true rfl) ?_
  refine z_call c_isWithin ?_
  refine z_dec (fun h => ?_) (fun h => ?_)
  · exact ⟨by unfold pQuiet; rw [if_pos h], rfl⟩
  refine z_call c_isWithin ?_
  refine z_dec (fun h1 => ?_) (fun h1 => ?_)
  · exact ⟨by unfold pQuiet; rw [if_neg (fun z => z h), if_pos h1], rfl⟩
  obtain ⟨t, ht, rfl⟩ := z_rng (N := 60) (by decide) h
  have hb : t * k ≤ 60 * 4 := Nat.mul_le_mul ht h4
  have p0 : pQuiet k (nI t) q = (quietU q (t * k)).toInt32 := by unfold pQuiet; rw [if_neg (fun z => z h), if_neg (fun z => z h1), nI_clamp (by omega)]
  rw [p0]
  refine ⟨trivial, ?_⟩
  refine z_up (P := fun j => ∀ i v, i = nI j → v = quietU q j → zGood gB_quiet (d + 2) (fun r σ' => r = some (.int (quietU q (t * k)).toInt32) ∧ σ' = encC S) 41 [some (.ref 0), some (.int (nI t)), some (.int q), some (.long v), none, some (.int (nI t * S 14 4)), some (.int i)] [] (encC S) 0 0) (t * k) (fun j hj ih i v hi hv => ?_) 0 (Nat.zero_le _) 0 1000000000 nI_0.symm rfl
  subst hi; subst hv
  refine w_B_quiet [41] ?_
  refine z_le (a := t * k) (b := j) (z_mu rfl (R_mis R)) rfl (by omega) (by omega) (fun q2 => ?_) (fun q2 => ?_)
  · have : j = t * k := by omega
    subst this
    exact ⟨rfl, rfl⟩
  · refine ⟨by decide, ?_⟩
    exact ⟨trivial, ih q2 _ _ (nI_1 j) rfl⟩
theorem c_Pa_excludes (R : rel1 S M n k) {s : Nat} (hs : s ≤ 6) (hS : S 71 3 = nI s) (hP : ∀ j, j < s → S 72 j = M 13 (3 * j) ∧ S 73 j = M 13 (3 * j + 1) ∧ S 74 j = M 13 (3 * j + 2) ∧ (∃ h, h < 6 ∧ M 13 (3 * j + 1) = nI h) ∧ ∃ p, p < 6 ∧ M 13 (3 * j + 2) = nI p) {m : Int32} {x : Nat} (hx : x < k) :
    zRuns gPa_excludes (d + 2) [.ref 71, .int m, .int (M 4 (6 * x + 1)), .int (M 4 (6 * x))] (encC S) (fun v σ' => v = some (.int (bI (anyU (fun j => alB M m j x) s))) ∧ σ' = encC S) := by
  obtain ⟨a, ha, ea⟩ := okM_L R.1 hx
  obtain ⟨b, hb, eb⟩ := okM_T R.1 hx
  refine m_Pa_excludes [3] rfl (Nat.le_of_ble_eq_true rfl) ?_
  refine ⟨trivial, ?_⟩
  refine z_up (P := fun j => ∀ i u w, i = nI j → anyU (fun j => alB M m j x) j = false → zGood gPa_excludes (d + 2) (fun v σ' => v = some (.int (bI (anyU (fun j => alB M m j x) s))) ∧ σ' = encC S) 3 [some (.ref 71), some (.int m), some (.int (M 4 (6 * x + 1))), some (.int (M 4 (6 * x))), some (.int i), u, w] [] (encC S) 0 0) s (fun j hj ih i u w hi ha2 => ?_) 0 (Nat.zero_le _) 0 none none nI_0.symm rfl
  subst hi
  refine w_Pa_excludes [3] ?_
  refine ⟨fun q => ?_, fun q => ?_⟩
  · have e := z_end hS hj (by omega) q
    subst e
    exact ⟨rfl, by rw [ha2]; rfl, rfl⟩
  have hlt := z_go hS hj (by omega) q
  obtain ⟨e1, e2, e3, ⟨h, hh, eh⟩, p, hp, ep⟩ := hP j hlt
  have up : ∀ t, j + 1 + t ≤ s → alB M m j x = true → anyU (fun j => alB M m j x) (j + 1 + t) = true := by
    intro t
    induction t with
    | zero => intro _ z; simp [anyU, z]
    | succ t iht => intro y z; rw [show j + 1 + (t + 1) = (j + 1 + t) + 1 by omega, anyU, iht (by omega) z]; rfl
  refine z_call (c_atv (n := 6) (f := S 74) rfl (by decide) rfl (by omega) e3) ?_
  refine z_call c_abs ?_
  refine z_call (c_atv (n := 6) (f := S 73) rfl (by decide) rfl (by omega) e2) ?_
  refine z_call c_abs ?_
  refine z_call (c_atv (n := 6) (f := S 72) rfl (by decide) rfl (by omega) e1) ?_
  have g1 : (if 0 ≤ M 13 (3 * j + 2) - M 4 (6 * x) then M 13 (3 * j + 2) - M 4 (6 * x) else -(M 13 (3 * j + 2) - M 4 (6 * x))) = offF (M 13 (3 * j + 2)) (M 4 (6 * x)) := by rw [ep, ea]; exact b_abs p hp a ha
  have g2 : (if 0 ≤ M 13 (3 * j + 1) - M 4 (6 * x + 1) then M 13 (3 * j + 1) - M 4 (6 * x + 1) else -(M 13 (3 * j + 1) - M 4 (6 * x + 1))) = offF (M 13 (3 * j + 1)) (M 4 (6 * x + 1)) := by rw [eh, eb]; exact b_abs h hh b hb
  rw [g1, g2]
  have no : alB M m j x = false → anyU (fun j => alB M m j x) (j + 1) = false := by intro z; simp [anyU, ha2, z]
  refine ⟨fun h5 => ?_, fun h5 => ?_⟩
  · refine ⟨fun h6 => ?_, fun h6 => ?_⟩
    · refine ⟨trivial, ih hlt _ _ _ (nI_1 j) (no ?_)⟩
      unfold alB
      simp [h6]
    · have t := up (s - (j + 1)) (by omega) (by unfold alB; simp [h5]; exact Int32.not_le.mp h6)
      rw [show j + 1 + (s - (j + 1)) = s by omega] at t
      exact ⟨rfl, by rw [t]; rfl, rfl⟩
  · refine ⟨trivial, ih hlt _ _ _ (nI_1 j) (no ?_)⟩
    unfold alB
    simp [h5]
theorem c_alibi (R : rel1 S M n k) (P : relP S M n k) {m : Int32} : zRuns gB_alibi (d + 4) [.ref 0, .int m] (encC S) (fun v σ' => v = some (.int (pAlibi M n k m)) ∧ σ' = encC S) := by
  have h7 := R.1.1; have h4 := R.1.2.1
  obtain ⟨s, e, hs, he, p1, p2, p3, p4, p5, p6⟩ := P
  refine m_B_alibi [15] rfl (Nat.le_of_ble_eq_true rfl) ?_
  refine z_call (c_isMan R) ?_
  refine z_b (fun h => ?_) (fun h => ?_)
  · exact ⟨by simp [pAlibi, h], rfl⟩
  have e0 : pAlibi M n k m = bits (fun x => anyU (fun j => alB M m j x) s) k := by
    unfold pAlibi
    rw [h, if_neg (by decide), p1, nI_clamp (by omega), alU_bits]
  rw [e0]
  refine ⟨trivial, ?_⟩
  refine z_up (P := fun j => ∀ i a, i = nI j → a = bits (fun x => anyU (fun j => alB M m j x) s) j → zGood gB_alibi (d + 4) (fun v σ' => v = some (.int (bits (fun x => anyU (fun j => alB M m j x) s) k)) ∧ σ' = encC S) 15 [some (.ref 0), some (.int m), some (.int a), some (.int i)] [] (encC S) 0 0) k (fun j hj ih i a hi ha => ?_) 0 (Nat.zero_le _) 0 0 nI_0.symm rfl
  subst hi; subst ha
  refine w_B_alibi [15] ?_
  refine ⟨fun q => ?_, fun q => ?_⟩
  · have e := z_end (R_mis R) hj (by omega) q
    subst e
    exact ⟨rfl, rfl⟩
  · have hlt := z_go (R_mis R) hj (by omega) q
    refine z_call (c_atv (n := 4) (f := S 20) rfl (by decide) rfl (by omega) (R_x R hlt).2.1) ?_
    refine z_call (c_atv (n := 4) (f := S 19) rfl (by decide) rfl (by omega) (R_x R hlt).1) ?_
    refine z_call (c_Pa_excludes R hs p2 p5 hlt) ?_
    refine z_b (fun h5 => ?_) (fun h5 => ?_)
    · exact ⟨trivial, ih hlt _ _ (nI_1 j) (bits_c (p := fun x => anyU (fun j => alB M m j x) s) h5)⟩
    · exact ⟨trivial, ih hlt _ _ (nI_1 j) (bits_t (p := fun x => anyU (fun j => alB M m j x) s) h5)⟩
theorem c_judge (R : rel1 S M n k) (P : relP S M n k) : zRuns gB_judge (d + 3) [.ref 0] (encC S) (fun v σ' => v = some (.int (pJudge M)) ∧ σ' = encC S) := by
  have h7 := R.1.1; have h4 := R.1.2.1
  obtain ⟨s, e, hs, he, p1, p2, p3, p4, p5, p6⟩ := P
  have e0 : pJudge M = fstU (wrongB M) e 0 := by unfold pJudge; rw [p3, nI_clamp (by omega)]
  rw [e0]
  refine m_B_judge [2] rfl (Nat.le_of_ble_eq_true rfl) ?_
  refine ⟨trivial, ?_⟩
  refine z_up (P := fun j => ∀ i, i = nI j → fstU (wrongB M) e 0 = fstU (wrongB M) (e - j) j → zGood gB_judge (d + 3) (fun v σ' => v = some (.int (fstU (wrongB M) e 0)) ∧ σ' = encC S) 2 [some (.ref 0), some (.int i)] [] (encC S) 0 0) e (fun j hj ih i hi ha => ?_) 0 (Nat.zero_le _) 0 nI_0.symm rfl
  subst hi
  refine w_B_judge [2] ?_
  refine ⟨fun q => ?_, fun q => ?_⟩
  · have e := z_end p4 hj (by omega) q
    subst e
    exact ⟨by rw [ha, Nat.sub_self]; rfl, rfl⟩
  · have hlt := z_go p4 hj (by omega) q
    obtain ⟨a1, a2, ⟨m, hm, em⟩, x, hx, ex⟩ := p6 j hlt
    refine z_call (c_atv (n := 20) (f := S 76) rfl (by decide) rfl (by omega) (a2.trans ex)) ?_
    refine z_call (c_St_blamedFor R hx) ?_
    refine z_call (c_atv (n := 20) (f := S 75) rfl (by decide) rfl (by omega) (a1.trans em)) ?_
    refine z_call (c_isIn rfl (by omega)) ?_
    have ew : wrongB M j = !hasB (M 8 (7 + x)) (nI m) := by unfold wrongB; rw [ex, em, nI_clamp (by omega)]
    rw [show e - j = (e - (j + 1)) + 1 by omega, fstU] at ha
    refine z_b (fun h5 => ?_) (fun h5 => ?_)
    · have h5' : hasB (M 8 (7 + x)) (nI m) = false := h5
      exact ⟨by rw [ha, ew, h5']; rfl, rfl⟩
    · have h5' : hasB (M 8 (7 + x)) (nI m) = true := h5
      refine ⟨trivial, ih hlt _ (nI_1 j) ?_⟩
      rw [ha, ew, h5']
      rfl
end C4
end
section
/-! the whole relation of the two sides -/
def okRow (F : Nat → Int32) (n k : Nat) (N : Nat → Int32) : Prop := (∀ x, x < k → ∃ f s c z, s < 128 ∧ N (7 + x) = nI s ∧ onesU (nI s) 7 = nI c ∧ F (6 * x + 4) = nI z ∧ z = c + f ∧ z ≤ 2) ∧
  (∀ m, m < n → ∃ w, w ≤ 9 ∧ N m = nI w) ∧ ∀ m, m < n → ∀ h, h < 6 → N (13 + 6 * m + h) = -1 ∨ ∃ p, p < 6 ∧ N (13 + 6 * m + h) = nI p
theorem okRow_of {M : zS} {n k : Nat} (B : okB M k) (W : okW M n) : okRow (M 4) n k (M 8) := ⟨B, W.1, W.2⟩
theorem okRow_B {M : zS} {n k : Nat} (R : okRow (M 4) n k (M 8)) : okB M k := R.1
theorem okRow_W {M : zS} {n k : Nat} (R : okRow (M 4) n k (M 8)) : okW M n := ⟨R.2.1, R.2.2⟩
def relT (S M : zS) : Prop := ∃ t, t ≤ 230 ∧ S 1 1 = nI t ∧ M 0 1 = nI t ∧ ∀ j, j < t → S 2 j = M 1 j ∧ ∃ c, c < 256 ∧ M 1 j = nI c
def relI (S M : zS) (n k : Nat) : Prop := S 77 2 = M 12 0 ∧ S 79 2 = M 12 1 ∧
  (M 12 0 ≠ 0 → S 77 1 = M 11 0 ∧ rowEq n k (S 78) (fun j => M 10 (0 + j)) ∧ okRow (M 4) n k (fun j => M 10 (0 + j))) ∧
  (M 12 1 ≠ 0 → S 79 1 = M 11 1 ∧ rowEq n k (S 80) (fun j => M 10 (55 + j)) ∧ okRow (M 4) n k (fun j => M 10 (55 + j)))
def relH (S M : zS) (n k : Nat) : Prop := ∃ de nx, de ≤ 30 ∧ nx < 30 ∧ M 0 20 = nI de ∧ S 39 2 = nI de ∧ S 39 1 = nI nx ∧
  ∀ t, t < de → rowEq n k (S (41 + (nx + 29 - t) % 30)) (fun j => M 9 (55 * (de - 1 - t) + j)) ∧ okRow (M 4) n k (fun j => M 9 (55 * (de - 1 - t) + j))
def okR (M : zS) (n : Nat) : Prop := ∀ m, m < n → ∀ h, h < 6 → M 3 (6 * m + h) = -1 ∨ ∃ p, p < 6 ∧ M 3 (6 * m + h) = nI p
def relC (S M : zS) (n k : Nat) : Prop := rel1 S M n k ∧ relP S M n k ∧ relT S M ∧ relI S M n k ∧ relH S M n k ∧ S 0 10 = M 0 2 ∧ S 0 11 = M 0 24 ∧ okR M n
theorem relC_row {S M : zS} {n k : Nat} {c N : Nat → Int32} (C : relC S M n k) (e : rowEq n k c N) (o : okRow (M 4) n k N) : relC (zUr S 26 c) (zUr M 8 N) n k := by
  obtain ⟨R, P, T, I, ⟨de, nx, h1, h2, h3, h4, h5, h6⟩, f, s⟩ := C
  refine ⟨⟨R.1, okRow_B (M := zUr M 8 N) o, okRow_W (M := zUr M 8 N) o, R.2.2.2.1, e⟩, P, T, I, ⟨de, nx, h1, h2, h3, h4, h5, fun t ht => ?_⟩, f, s⟩
  rw [zUr_k (by omega)]
  exact h6 t ht
theorem rowEq_place {n k : Nat} {c N : Nat → Int32} {m h : Nat} {p : Int32} (hn : n ≤ 7) (hk : k ≤ 4) (hm : m < n) (hh : h < 6) (e : rowEq n k c N) : rowEq n k (upd c (6 * m + h) p) (upd N (13 + 6 * m + h) p) := by
  obtain ⟨e1, e2, e3, e4, e5⟩ := e
  refine ⟨fun a ha b hb => ?_, fun a ha => ?_, fun x hx => ?_, ?_, ?_⟩
  · by_cases z : 6 * a + b = 6 * m + h
    · rw [z, show 13 + 6 * a + b = 13 + 6 * m + h by omega, upd_s, upd_s]
    · rw [upd_n z, upd_n (by omega)]; exact e1 a ha b hb
  · rw [upd_n (by omega), upd_n (by omega)]; exact e2 a ha
  · rw [upd_n (by omega), upd_n (by omega)]; exact e3 x hx
  · rw [upd_n (by omega), upd_n (by omega)]; exact e4
  · rw [upd_n (by omega), upd_n (by omega)]; exact e5
theorem rowEq_worn {n k : Nat} {c N : Nat → Int32} {m : Nat} {p q : Int32} (hn : n ≤ 7) (hk : k ≤ 4) (hm : m < n) (hpq : p = q) (e : rowEq n k c N) : rowEq n k (upd c (42 + m) p) (upd N m q) := by
  subst hpq
  obtain ⟨e1, e2, e3, e4, e5⟩ := e
  refine ⟨fun a ha b hb => ?_, fun a ha => ?_, fun x hx => ?_, ?_, ?_⟩
  · rw [upd_n (by omega), upd_n (by omega)]; exact e1 a ha b hb
  · by_cases z : a = m
    · rw [z, upd_s, upd_s]
    · rw [upd_n (by omega), upd_n z]; exact e2 a ha
  · rw [upd_n (by omega), upd_n (by omega)]; exact e3 x hx
  · rw [upd_n (by omega), upd_n (by omega)]; exact e4
  · rw [upd_n (by omega), upd_n (by omega)]; exact e5
theorem rowEq_blamed {n k : Nat} {c N : Nat → Int32} {y : Nat} {p q : Int32} (hn : n ≤ 7) (hk : k ≤ 4) (hy : y < k) (hpq : p = q) (e : rowEq n k c N) : rowEq n k (upd c (49 + y) p) (upd N (7 + y) q) := by
  subst hpq
  obtain ⟨e1, e2, e3, e4, e5⟩ := e
  refine ⟨fun a ha b hb => ?_, fun a ha => ?_, fun x hx => ?_, ?_, ?_⟩
  · rw [upd_n (by omega), upd_n (by omega)]; exact e1 a ha b hb
  · rw [upd_n (by omega), upd_n (by omega)]; exact e2 a ha
  · by_cases z : x = y
    · rw [z, upd_s, upd_s]
    · rw [upd_n (by omega), upd_n (by omega)]; exact e3 x hx
  · rw [upd_n (by omega), upd_n (by omega)]; exact e4
  · rw [upd_n (by omega), upd_n (by omega)]; exact e5
theorem rowEq_spent {n k : Nat} {c N : Nat → Int32} {p q : Int32} (hn : n ≤ 7) (hk : k ≤ 4) (hpq : p = q) (e : rowEq n k c N) : rowEq n k (upd c 53 p) (upd N 11 q) := by
  subst hpq
  obtain ⟨e1, e2, e3, e4, e5⟩ := e
  refine ⟨fun a ha b hb => ?_, fun a ha => ?_, fun x hx => ?_, ?_, ?_⟩
  · rw [upd_n (by omega), upd_n (by omega)]; exact e1 a ha b hb
  · rw [upd_n (by omega), upd_n (by omega)]; exact e2 a ha
  · rw [upd_n (by omega), upd_n (by omega)]; exact e3 x hx
  · rw [upd_s, upd_s]
  · rw [upd_n (by omega), upd_n (by omega)]; exact e5
theorem rowEq_days {n k : Nat} {c N : Nat → Int32} {p q : Int32} (hn : n ≤ 7) (hk : k ≤ 4) (hpq : p = q) (e : rowEq n k c N) : rowEq n k (upd c 54 p) (upd N 12 q) := by
  subst hpq
  obtain ⟨e1, e2, e3, e4, e5⟩ := e
  refine ⟨fun a ha b hb => ?_, fun a ha => ?_, fun x hx => ?_, ?_, ?_⟩
  · rw [upd_n (by omega), upd_n (by omega)]; exact e1 a ha b hb
  · rw [upd_n (by omega), upd_n (by omega)]; exact e2 a ha
  · rw [upd_n (by omega), upd_n (by omega)]; exact e3 x hx
  · rw [upd_n (by omega), upd_n (by omega)]; exact e4
  · rw [upd_s, upd_s]
/-- a row whose places below 55 are another's -/
theorem rowEq_congr {n k : Nat} {c c' N N' : Nat → Int32} (hn : n ≤ 7) (hk : k ≤ 4) (hc : ∀ j, j < 55 → c' j = c j) (hN : ∀ j, j < 55 → N' j = N j) (e : rowEq n k c N) : rowEq n k c' N' := by
  obtain ⟨e1, e2, e3, e4, e5⟩ := e
  refine ⟨fun a ha b hb => ?_, fun a ha => ?_, fun x hx => ?_, ?_, ?_⟩
  · rw [hc _ (by omega), hN _ (by omega)]; exact e1 a ha b hb
  · rw [hc _ (by omega), hN _ (by omega)]; exact e2 a ha
  · rw [hc _ (by omega), hN _ (by omega)]; exact e3 x hx
  · rw [hc _ (by omega), hN _ (by omega)]; exact e4
  · rw [hc _ (by omega), hN _ (by omega)]; exact e5
theorem okRow_congr {n k : Nat} {F F' N N' : Nat → Int32} (hn : n ≤ 7) (hk : k ≤ 4) (hF : F' = F) (hN : ∀ j, j < 55 → N' j = N j) (o : okRow F n k N) : okRow F' n k N' := by
  subst hF
  obtain ⟨o1, o2, o3⟩ := o
  refine ⟨fun x hx => ?_, fun m hm => ?_, fun m hm h hh => ?_⟩
  · rw [hN _ (by omega)]; exact o1 x hx
  · rw [hN _ (by omega)]; exact o2 m hm
  · rw [hN _ (by omega)]; exact o3 m hm h hh
theorem okRow_place {n k : Nat} {F N : Nat → Int32} {m h q : Nat} (hn : n ≤ 7) (hk : k ≤ 4) (hh : h < 6) (hq : q < 6) (o : okRow F n k N) : okRow F n k (upd N (13 + 6 * m + h) (nI q)) := by
  obtain ⟨o1, o2, o3⟩ := o
  refine ⟨fun x hx => ?_, fun a ha => ?_, fun a ha b hb => ?_⟩
  · rw [upd_n (by omega)]; exact o1 x hx
  · rw [upd_n (by omega)]; exact o2 a ha
  · by_cases z : 13 + 6 * a + b = 13 + 6 * m + h
    · rw [z, upd_s]; exact Or.inr ⟨q, hq, rfl⟩
    · rw [upd_n z]; exact o3 a ha b hb
theorem okRow_worn {n k : Nat} {F N : Nat → Int32} {m w : Nat} {v : Int32} (hn : n ≤ 7) (hm : m < 7) (hw : w ≤ 9) (hv : v = nI w) (o : okRow F n k N) : okRow F n k (upd N m v) := by
  subst hv
  obtain ⟨o1, o2, o3⟩ := o
  refine ⟨fun x hx => ?_, fun a ha => ?_, fun a ha b hb => ?_⟩
  · rw [upd_n (by omega)]; exact o1 x hx
  · by_cases z : a = m
    · rw [z, upd_s]; exact ⟨w, hw, rfl⟩
    · rw [upd_n z]; exact o2 a ha
  · rw [upd_n (by omega)]; exact o3 a ha b hb
theorem okRow_sums {n k : Nat} {F N : Nat → Int32} {j : Nat} {v : Int32} (hn : n ≤ 7) (hk : k ≤ 4) (hj : 11 ≤ j ∧ j < 13) (o : okRow F n k N) : okRow F n k (upd N j v) := by
  obtain ⟨o1, o2, o3⟩ := o
  refine ⟨fun x hx => ?_, fun a ha => ?_, fun a ha b hb => ?_⟩
  · rw [upd_n (by omega)]; exact o1 x hx
  · rw [upd_n (by omega)]; exact o2 a ha
  · rw [upd_n (by omega)]; exact o3 a ha b hb
/-- the past, one more row put into its ring -/
theorem enc_past {S : zS} {f : Nat → Int32} : ∀ j, j < 30 → (encC S).set (41 + j) (.inl (0, 55, .inl f)) = encC (zUr S (41 + j) f)
  | 0, _ => rfl | 1, _ => rfl | 2, _ => rfl | 3, _ => rfl | 4, _ => rfl | 5, _ => rfl | 6, _ => rfl | 7, _ => rfl | 8, _ => rfl | 9, _ => rfl
  | 10, _ => rfl | 11, _ => rfl | 12, _ => rfl | 13, _ => rfl | 14, _ => rfl | 15, _ => rfl | 16, _ => rfl | 17, _ => rfl | 18, _ => rfl | 19, _ => rfl
  | 20, _ => rfl | 21, _ => rfl | 22, _ => rfl | 23, _ => rfl | 24, _ => rfl | 25, _ => rfl | 26, _ => rfl | 27, _ => rfl | 28, _ => rfl | 29, _ => rfl
  | j + 30, h => absurd h (by omega)
theorem enc_at {S : zS} : ∀ j, j < 30 → (encC S)[41 + j]? = some (.inl (0, 55, .inl (S (41 + j))))
  | 0, _ => rfl | 1, _ => rfl | 2, _ => rfl | 3, _ => rfl | 4, _ => rfl | 5, _ => rfl | 6, _ => rfl | 7, _ => rfl | 8, _ => rfl | 9, _ => rfl
  | 10, _ => rfl | 11, _ => rfl | 12, _ => rfl | 13, _ => rfl | 14, _ => rfl | 15, _ => rfl | 16, _ => rfl | 17, _ => rfl | 18, _ => rfl | 19, _ => rfl
  | 20, _ => rfl | 21, _ => rfl | 22, _ => rfl | 23, _ => rfl | 24, _ => rfl | 25, _ => rfl | 26, _ => rfl | 27, _ => rfl | 28, _ => rfl | 29, _ => rfl
  | j + 30, h => absurd h (by omega)
end
section
/-! the class's deeds, the small writes -/
def clW (v : Int32) : Int32 := if (0 : Int32) < (if v < 9 then v else 9) then (if v < 9 then v else 9) else 0
section D1
variable {d : Nat} {S M : zS} {n k : Nat}
theorem b_nx : ∀ j, j < 30 → nI j + 1 - (nI j + 1) / 30 * 30 = nI ((j + 1) % 30) := by decide +kernel
theorem b_fm : ∀ j, j < 30 → ∀ u, u < 31 → (let x := nI j - nI u; let r := x - x / 30 * 30; (if r ^^^ 30 < 0 then (if r = 0 then r else r + 30) else r) = nI ((j + 30 - u) % 30)) := by decide +kernel
theorem b_de : ∀ j, j < 31 → (if nI j + 1 < 30 then nI j + 1 else 30) = nI (if j = 30 then 30 else j + 1) := by decide +kernel
theorem row_set {f g : Nat → Int32} : ∀ j, j < 55 → (fun j => if j < 55 then f j else g j) j = f j := fun j h => if_pos h
theorem s_remember {nx de : Nat} (h1 : nx < 30) (h2 : de ≤ 30) (e1 : S 39 1 = nI nx) (e2 : S 39 2 = nI de) : zRuns gPs_remember (d + 2) [.ref 39, .ref 25] (encC S) (fun v σ' => v = none ∧ σ' = encC (zU (zU (zUr S (41 + nx) (fun j => if j < 55 then S 26 j else S (41 + nx) j)) 39 1 (nI ((nx + 1) % 30))) 39 2 (nI (if de = 30 then 30 else de + 1)))) := by
  refine m_Ps_remember [] rfl (Nat.le_of_ble_eq_true rfl) ?_
  refine ⟨fun q => absurd q (by rw [e1]; exact nI_pos (by omega)), fun _ => ?_⟩
  refine ⟨fun q => absurd q (by rw [e1]; exact nI_ge h1 (by decide)), fun _ => ?_⟩
  refine ⟨by rw [e1]; exact vp_in_nI h1 (by decide), ?_⟩
  generalize hS1 : zUr S (41 + nx) (fun j => if j < 55 then S 26 j else S (41 + nx) j) = S1
  have f1 : S1 39 1 = nI nx := by rw [← hS1, zUr_k (by omega)]; exact e1
  have f2 : S1 39 2 = nI de := by rw [← hS1, zUr_k (by omega)]; exact e2
  have cp : ∀ r : Value, r = .ref (41 + nx) → zRuns gB_copyRow (d + 1) [.ref 26, r] (encC S) (fun v σ' => v = none ∧ σ' = encC S1) := by
    rintro _ rfl
    rw [← hS1, ← enc_past nx h1]
    exact c_copyRow (r1 := 26) (n1 := 55) (n2 := 55) rfl (enc_at nx h1) (by omega) (by decide) (by decide)
  refine z_call (cp _ (by rw [e1, nI_clamp (by omega)]; simp [zRf, h1])) ?_
  refine ⟨by decide, ?_⟩
  refine z_call c_min ?_
  rw [f1, f2, b_nx nx h1, b_de de (by omega)]
  exact ⟨rfl, rfl⟩
theorem rel1_row {c N : Nat → Int32} (R : rel1 S M n k) (e : rowEq n k c N) (o : okRow (M 4) n k N) : rel1 (zUr S 26 c) (zUr M 8 N) n k := ⟨R.1, okRow_B (M := zUr M 8 N) o, okRow_W (M := zUr M 8 N) o, R.2.2.2.1, e⟩
theorem relC_now (C : relC S M n k) : okRow (M 4) n k (M 8) := okRow_of C.1.2.1 C.1.2.2.1
theorem c_remember (C : relC S M n k) : zRuns gPs_remember (d + 2) [.ref 39, .ref 25] (encC S) (fun v σ' => v = none ∧ ∃ S', σ' = encC S' ∧ relC S' (notesF M (M 0 20).toNatClampNeg) n k) := by
  have hn := C.1.1.1; have hk := C.1.1.2.1
  have now := relC_now C
  obtain ⟨R, P, T, I, ⟨de, nx, h1, h2, h3, h4, h5, h6⟩, f, s, r⟩ := C
  refine (s_remember h2 h1 h5 h4).mono ?_
  rintro v σ' ⟨rfl, rfl⟩
  refine ⟨rfl, _, rfl, ?_⟩
  have ede : (M 0 20).toNatClampNeg = de := by rw [h3, nI_clamp (by omega)]
  rw [ede]
  generalize hA : (zU (zU (zUr S (41 + nx) (fun j => if j < 55 then S 26 j else S (41 + nx) j)) 39 1 (nI ((nx + 1) % 30))) 39 2 (nI (if de = 30 then 30 else de + 1))) = A
  have a0 : ∀ c, c ≠ 39 → c ≠ 41 + nx → A c = S c := by
    intro c z1 z2
    rw [← hA, zU_k z1, zU_k z1, zUr_k z2]
  have a1 : A 39 1 = nI ((nx + 1) % 30) := by rw [← hA, zU_s, upd_n (by decide), zU_s, upd_s]
  have a2 : A 39 2 = nI (if de = 30 then 30 else de + 1) := by rw [← hA, zU_s, upd_s]
  have a3 : A (41 + nx) = fun j => if j < 55 then S 26 j else S (41 + nx) j := by rw [← hA, zU_k (by omega), zU_k (by omega), zUr_s]
  have b0 : ∀ c, c ≠ 0 → c ≠ 9 → notesF M de c = M c := fun c => notesF_k
  have b1 : ∀ j, j ≠ 20 → notesF M de 0 j = M 0 j := fun j => notesF_0
  generalize hB : notesF M de = B at *
  have q : ∀ c, c < 39 → A c = S c := fun c hc => a0 c (by omega) (by omega)
  have q' : ∀ c, 71 ≤ c → A c = S c := fun c hc => a0 c (by omega) (by omega)
  refine ⟨?_, ?_, ?_, ?_, ?_, ?_, ?_, ?_⟩
  · have IM : okM B n k := okM_of R.1 (b1 4 (by decide)) (b1 6 (by decide)) (b1 7 (by decide)) (b0 2 (by decide) (by decide)) (b0 4 (by decide) (by decide))
    have now' : okRow (B 4) n k (B 8) := by rw [b0 4 (by decide) (by decide), b0 8 (by decide) (by decide)]; exact now
    refine ⟨IM, okRow_B now', okRow_W now', ?_, ?_⟩
    · unfold relF
      rw [q 14 (by decide), q 15 (by decide), q 16 (by decide), q 17 (by decide), q 18 (by decide), q 19 (by decide), q 20 (by decide), q 21 (by decide), q 22 (by decide), q 23 (by decide), q 24 (by decide), b1 3 (by decide), b1 4 (by decide), b1 5 (by decide), b0 2 (by decide) (by decide), b0 3 (by decide) (by decide), b0 4 (by decide) (by decide)]
      exact R.2.2.2.1
    · rw [q 26 (by decide), b0 8 (by decide) (by decide)]
      exact R.2.2.2.2
  · unfold relP
    rw [q' 71 (by decide), q' 72 (by decide), q' 73 (by decide), q' 74 (by decide), q' 75 (by decide), q' 76 (by decide), b1 26 (by decide), b1 28 (by decide), b0 13 (by decide) (by decide), b0 14 (by decide) (by decide)]
    exact P
  · unfold relT
    rw [q 1 (by decide), q 2 (by decide), b1 1 (by decide), b0 1 (by decide) (by decide)]
    exact T
  · unfold relI
    rw [q' 77 (by decide), q' 78 (by decide), q' 79 (by decide), q' 80 (by decide), b0 10 (by decide) (by decide), b0 11 (by decide) (by decide), b0 12 (by decide) (by decide), b0 4 (by decide) (by decide)]
    exact I
  · have c0 : B 0 20 = nI (if de = 30 then 30 else de + 1) := by
      rw [← hB]; unfold notesF
      by_cases z : de = 30
      · rw [if_pos z, if_pos z, zU_s, upd_s]
      · rw [if_neg z, if_neg z, zU_s, upd_s]
    have c9 : ∀ r j, r < 30 → j < 55 → B 9 (55 * r + j) = if de = 30 then (if r = 29 then M 8 j else M 9 (55 * (r + 1) + j)) else (if r = de then M 8 j else M 9 (55 * r + j)) := by
      intro r j hr hj
      rw [← hB]; unfold notesF
      by_cases z : de = 30
      · rw [if_pos z, if_pos z, zU_k (by decide), zUr_s]
        unfold cpyF shfF
        by_cases w : r = 29
        · rw [if_pos w, if_pos (by omega), show 0 + (55 * r + j - 1595) = j by omega]
        · rw [if_neg w, if_neg (by omega)]
          show (if 55 * r + j < 1595 then _ else _) = _
          rw [if_pos (by omega)]
          congr 1
          omega
      · rw [if_neg z, if_neg z, zU_k (by decide), zUr_s]
        unfold cpyF
        by_cases w : r = de
        · rw [if_pos w, if_pos (by omega)]
          congr 1
          omega
        · rw [if_neg w, if_neg (by omega)]
    refine ⟨if de = 30 then 30 else de + 1, (nx + 1) % 30, by split <;> omega, by omega, c0, a2, a1, fun t ht => ?_⟩
    by_cases ht0 : t = 0
    · subst ht0
      have e1 : ((nx + 1) % 30 + 29 - 0) % 30 = nx := by omega
      have e2 : ∀ j, j < 55 → B 9 (55 * ((if de = 30 then 30 else de + 1) - 1 - 0) + j) = M 8 j := by
        intro j hj
        by_cases z : de = 30
        · rw [if_pos z, c9 29 j (by omega) hj, if_pos z, if_pos rfl]
        · rw [if_neg z, show de + 1 - 1 - 0 = de by omega, c9 de j (by omega) hj, if_neg z, if_pos rfl]
      rw [e1, a3]
      refine ⟨rowEq_congr hn hk (fun j hj => if_pos hj) e2 R.2.2.2.2, okRow_congr hn hk (b0 4 (by decide) (by decide)) e2 now⟩
    · have e1 : ((nx + 1) % 30 + 29 - t) % 30 = (nx + 29 - (t - 1)) % 30 := by split at ht <;> omega
      have e2 : ∀ j, j < 55 → B 9 (55 * ((if de = 30 then 30 else de + 1) - 1 - t) + j) = M 9 (55 * (de - 1 - (t - 1)) + j) := by
        intro j hj
        by_cases z : de = 30
        · rw [if_pos z] at ht
          rw [if_pos z, c9 (30 - 1 - t) j (by omega) hj, if_pos z, if_neg (by omega)]
          congr 2
          omega
        · rw [if_neg z] at ht
          rw [if_neg z, c9 (de + 1 - 1 - t) j (by omega) hj, if_neg z, if_neg (by omega)]
          congr 2
          omega
      have ht' : t - 1 < de := by split at ht <;> omega
      have hne : (nx + 29 - (t - 1)) % 30 ≠ nx := by split at ht <;> omega
      rw [e1, a0 _ (by omega) (by omega)]
      obtain ⟨g1, g2⟩ := h6 (t - 1) ht'
      exact ⟨rowEq_congr hn hk (fun j hj => rfl) e2 g1, okRow_congr hn hk (b0 4 (by decide) (by decide)) e2 g2⟩
  · rw [q 0 (by decide), b1 2 (by decide)]; exact f
  · rw [q 0 (by decide), b1 24 (by decide)]; exact s
  · unfold okR; rw [b0 3 (by decide) (by decide)]; exact r
end D1
end
section
/-! the class's deeds: blame, clear, walk -/
theorem b_clr : ∀ s, s < 128 → ∀ m, m < 7 → hasB (nI s) (nI m) = true → (nI s &&& (((1 : Int32) <<< (nI m &&& 31)) ^^^ (-1 : Int32)) = nI (nI s &&& (((1 : Int32) <<< (nI m &&& 31)) ^^^ (-1 : Int32))).toNatClampNeg ∧ (nI s &&& (((1 : Int32) <<< (nI m &&& 31)) ^^^ (-1 : Int32))).toNatClampNeg < 128 ∧ onesU (nI (nI s &&& (((1 : Int32) <<< (nI m &&& 31)) ^^^ (-1 : Int32))).toNatClampNeg) 7 = nI ((onesU (nI s) 7).toNatClampNeg - 1) ∧ 0 < (onesU (nI s) 7).toNatClampNeg) := by decide +kernel
theorem b_wu : ∀ w, w < 10 → clW (nI w + 1) = nI w + (if nI w < 9 then 1 else 0) ∧ clW (nI w + 1) = nI (clW (nI w + 1)).toNatClampNeg ∧ (clW (nI w + 1)).toNatClampNeg < 10 := by decide +kernel
theorem b_wd : ∀ w, w < 10 → clW (nI w + -1) = nI w - (if 0 < nI w then 1 else 0) ∧ clW (nI w + -1) = nI (clW (nI w + -1)).toNatClampNeg ∧ (clW (nI w + -1)).toNatClampNeg < 10 := by decide +kernel
section D2
variable {d : Nat} {S M : zS} {n k : Nat}
theorem relC_S (C : relC S M n k) (e : ∀ c, c ≠ 26 → zUr S 26 (S 26) c = S c) : relC (zUr S 26 (S 26)) M n k := by
  have : zUr S 26 (S 26) = S := by
    funext c
    by_cases z : c = 26
    · subst z; exact zUr_s
    · exact e c z
  rw [this]
  exact C
theorem s_setPlace {c : Nat → Int32} {m h : Nat} {p : Int32} (hm : m < 7) (hh : h < 6) : zRuns gSt_setPlace (d + 2) [.ref 25, .int (nI m), .int (nI h), .int p] (encC (zUr S 26 c)) (fun v σ' => v = none ∧ σ' = encC (zUr S 26 (upd c (6 * m + h) p))) := by
  refine m_St_setPlace [] rfl (Nat.le_of_ble_eq_true rfl) ?_
  refine z_call (c_put (n := 55) (f := c) (j := 6 * m + h) rfl (by decide) (by rw [Nat.mul_comm 6 m]; exact z_ad (z_mu rfl q6) rfl) (by omega)) ?_
  exact ⟨rfl, rfl⟩
theorem s_setBlamed {c : Nat → Int32} {x : Nat} {p : Int32} (hx : x < 4) : zRuns gSt_setBlamed (d + 2) [.ref 25, .int (nI x), .int p] (encC (zUr S 26 c)) (fun v σ' => v = none ∧ σ' = encC (zUr S 26 (upd c (49 + x) p))) := by
  refine m_St_setBlamed [] rfl (Nat.le_of_ble_eq_true rfl) ?_
  refine z_call (c_put (n := 55) (f := c) (j := 49 + x) rfl (by decide) (z_ad q49 rfl) (by omega)) ?_
  exact ⟨rfl, rfl⟩
theorem s_wornOf {c : Nat → Int32} {m : Nat} (hm : m < 7) : zRuns gSt_wornOf (d + 2) [.ref 25, .int (nI m)] (encC (zUr S 26 c)) (fun v σ' => v = some (.int (c (42 + m))) ∧ σ' = encC (zUr S 26 c)) := by
  refine m_St_wornOf [] rfl (Nat.le_of_ble_eq_true rfl) ?_
  refine z_call (c_at (n := 55) (f := c) (j := 42 + m) rfl (by decide) (z_ad q42 rfl) (by omega)) ?_
  exact ⟨rfl, rfl⟩
theorem s_spent {c : Nat → Int32} : zRuns gSt_spent (d + 2) [.ref 25] (encC (zUr S 26 c)) (fun v σ' => v = some (.int (c 53)) ∧ σ' = encC (zUr S 26 c)) := by
  refine m_St_spent [] rfl (Nat.le_of_ble_eq_true rfl) ?_
  refine z_call (c_at (n := 55) (f := c) (j := 53) rfl (by decide) q53 (by omega)) ?_
  exact ⟨rfl, rfl⟩
theorem s_days {c : Nat → Int32} : zRuns gSt_days (d + 2) [.ref 25] (encC (zUr S 26 c)) (fun v σ' => v = some (.int (c 54)) ∧ σ' = encC (zUr S 26 c)) := by
  refine m_St_days [] rfl (Nat.le_of_ble_eq_true rfl) ?_
  refine z_call (c_at (n := 55) (f := c) (j := 54) rfl (by decide) q54 (by omega)) ?_
  exact ⟨rfl, rfl⟩
theorem s_wear {c : Nat → Int32} {m : Nat} {v : Int32} (hm : m < 7) : zRuns gSt_wear (d + 3) [.ref 25, .int (nI m), .int v] (encC (zUr S 26 c)) (fun r σ' => r = none ∧ σ' = encC (zUr S 26 (upd c (42 + m) (clW (c (42 + m) + v))))) := by
  refine m_St_wear [] rfl (Nat.le_of_ble_eq_true rfl) ?_
  refine z_call (s_wornOf hm) ?_
  refine z_call c_min ?_
  refine z_call c_max ?_
  refine z_call (c_put (n := 55) (f := c) (j := 42 + m) rfl (by decide) (z_ad q42 rfl) (by omega)) ?_
  exact ⟨rfl, rfl⟩
theorem s_spend {c : Nat → Int32} {v : Int32} : zRuns gSt_spend (d + 3) [.ref 25, .int v] (encC (zUr S 26 c)) (fun r σ' => r = none ∧ σ' = encC (zUr S 26 (upd c 53 (c 53 + v)))) := by
  refine m_St_spend [] rfl (Nat.le_of_ble_eq_true rfl) ?_
  refine z_call s_spent ?_
  refine z_call (c_put (n := 55) (f := c) (j := 53) rfl (by decide) q53 (by omega)) ?_
  exact ⟨rfl, rfl⟩
theorem s_countDay {c : Nat → Int32} : zRuns gSt_countDay (d + 3) [.ref 25] (encC (zUr S 26 c)) (fun r σ' => r = none ∧ σ' = encC (zUr S 26 (upd c 54 (c 54 + 1)))) := by
  refine m_St_countDay [] rfl (Nat.le_of_ble_eq_true rfl) ?_
  refine z_call s_days ?_
  refine z_call (c_put (n := 55) (f := c) (j := 54) rfl (by decide) q54 (by omega)) ?_
  exact ⟨rfl, rfl⟩
theorem s_takeRows {c : Nat → Int32} : zRuns gSt_takeRows (d + 2) [.ref 25, .ref 14] (encC (zUr S 26 c)) (fun r σ' => r = none ∧ σ' = encC (zUr S 26 (fun j => if j < 42 then S 18 j else c j))) := by
  refine m_St_takeRows [] rfl (Nat.le_of_ble_eq_true rfl) ?_
  refine z_call (c_copyRow (r1 := 18) (r2 := 26) (n1 := 42) (n2 := 55) (f1 := S 18) (f2 := c) rfl rfl (by decide) (by decide) (by decide)) ?_
  exact ⟨rfl, rfl⟩
def putC (c : Nat → Int32) (r : Int32) (m x : Nat) : Nat → Int32 := upd (upd (upd c (49 + x) (c (49 + x) ||| (1 <<< (nI m &&& 31)))) (42 + m) (clW (c (42 + m) + 1))) 53 (c 53 + r)
theorem c_putBlame (R : rel1 S M n k) {m x : Nat} (hm : m < n) (hx : x < k) : zRuns gB_putBlame (d + 4) [.ref 0, .int (nI m), .int (nI x)] (encC S) (fun v σ' => v = none ∧ σ' = encC (zUr S 26 (putC (S 26) (M 2 (3 * m + 2)) m x))) := by
  have h7 := R.1.1; have h4 := R.1.2.1
  refine m_B_putBlame [] rfl (Nat.le_of_ble_eq_true rfl) ?_
  refine z_call (c_St_blamedFor R hx) ?_
  refine z_call (s_setBlamed (S := S) (c := S 26) (by omega)) ?_
  refine z_call (s_wear (by omega)) ?_
  refine z_call (c_atv (n := 7) (f := S 17) rfl (by decide) rfl (by omega) (R_man R hm).2.2.1) ?_
  refine z_call s_spend ?_
  refine ⟨rfl, ?_⟩
  unfold putC
  rw [upd_n (show 42 + m ≠ 49 + x by omega), upd_n (show 53 ≠ 42 + m by omega), upd_n (show 53 ≠ 49 + x by omega), R.2.2.2.2.2.2.1 x hx]
theorem okRow_blame {F N : Nat → Int32} {m x f s c z : Nat} (hn : n ≤ 7) (hk : k ≤ 4) (hx : x < k) (hm : m < 7) (hs : s < 128) (a1 : N (7 + x) = nI s) (a2 : onesU (nI s) 7 = nI c) (a3 : F (6 * x + 4) = nI z) (a4 : z = c + f) (a5 : z ≤ 2) (hf : f ≠ 0) (hb : hasB (N (7 + x)) (nI m) = false) (o : okRow F n k N) : okRow F n k (upd N (7 + x) (N (7 + x) ||| (1 <<< (nI m &&& 31)))) := by
  obtain ⟨o1, o2, o3⟩ := o
  rw [a1] at hb ⊢
  obtain ⟨b1, b2, b3⟩ := b_put s hs m hm hb
  refine ⟨fun y hy => ?_, fun a ha => ?_, fun a ha b hb => ?_⟩
  · by_cases e : y = x
    · subst e
      rw [upd_s]
      exact ⟨f - 1, s + 2 ^ m, c + 1, z, b2, b1, by rw [b3, a2, nI_1], a3, by omega, a5⟩
    · rw [upd_n (by omega)]; exact o1 y hy
  · rw [upd_n (by omega)]; exact o2 a ha
  · rw [upd_n (by omega)]; exact o3 a ha b hb
theorem okRow_clear {F N : Nat → Int32} {m x : Nat} (hn : n ≤ 7) (hk : k ≤ 4) (hx : x < k) (hm : m < 7) (hb : hasB (N (7 + x)) (nI m) = true) (o : okRow F n k N) : okRow F n k (upd N (7 + x) (N (7 + x) &&& ((1 <<< (nI m &&& 31)) ^^^ (-1)))) := by
  obtain ⟨o1, o2, o3⟩ := o
  obtain ⟨f, s, c, z, hs, a1, a2, a3, a4, a5⟩ := o1 x hx
  rw [a1] at hb ⊢
  obtain ⟨b1, b2, b3, b4⟩ := b_clr s hs m hm hb
  rw [a2, nI_clamp (by omega)] at b3 b4
  refine ⟨fun y hy => ?_, fun a ha => ?_, fun a ha b hb => ?_⟩
  · by_cases e : y = x
    · subst e
      rw [upd_s]
      exact ⟨f + 1, _, c - 1, z, b2, b1, b3, a3, by omega, a5⟩
    · rw [upd_n (by omega)]; exact o1 y hy
  · rw [upd_n (by omega)]; exact o2 a ha
  · rw [upd_n (by omega)]; exact o3 a ha b hb
theorem row_put (R : rel1 S M n k) {m x : Nat} (hm : m < n) (hx : x < k) (h : mayB M k m x = true) : rowEq n k (putC (S 26) (M 2 (3 * m + 2)) m x) (blamesNow M m x) ∧ okRow (M 4) n k (blamesNow M m x) := by
  have h7 := R.1.1; have h4 := R.1.2.1
  obtain ⟨w, hw, ew⟩ := R.2.2.1.1 m hm
  obtain ⟨w1, w2, w3⟩ := b_wu w (by omega)
  obtain ⟨f, hf⟩ := R.2.1 x hx
  have e3 : hasB (M 8 (7 + x)) (nI m) = false := by
    unfold mayB at h
    simp only [Bool.and_eq_true, Bool.not_eq_true'] at h
    exact h.1.2.1
  have e4 : 0 < freeF M x := by
    unfold mayB at h
    simp only [Bool.and_eq_true, Bool.not_eq_true'] at h
    exact of_decide_eq_true h.1.1
  have ef := freeAt_f hf
  have hf0 : f ≠ 0 := by
    intro z
    rw [ef, z] at e4
    exact absurd e4 (by decide)
  obtain ⟨s, c, z, hs, a1, a2, a3, a4, a5⟩ := hf
  unfold putC blamesNow
  rw [R.2.2.2.2.2.2.1 x hx, R.2.2.2.2.2.1 m hm, R.2.2.2.2.2.2.2.1]
  refine ⟨rowEq_spent h7 h4 rfl (rowEq_worn h7 h4 hm (by rw [ew]; exact w1) (rowEq_blamed h7 h4 hx rfl R.2.2.2.2)), ?_⟩
  refine okRow_sums h7 h4 (by decide) (okRow_worn h7 (by omega) (w := (clW (nI w + 1)).toNatClampNeg) (by omega) (by rw [ew, ← w1]; exact w2) (okRow_blame h7 h4 hx (by omega) hs a1 a2 a3 a4 a5 hf0 e3 (okRow_of R.2.1 R.2.2.1)))
theorem blamesNow_notes {de m x : Nat} : blamesNow (notesF M de) m x = blamesNow M m x := by
  unfold blamesNow
  rw [notesF_k (by decide) (by decide), notesF_k (by decide) (by decide)]
theorem clearNow_notes {de m x : Nat} : clearNow (notesF M de) m x = clearNow M m x := by
  unfold clearNow
  rw [notesF_k (by decide) (by decide)]
theorem mayB_notes {de m x : Nat} : mayB (notesF M de) k m x = mayB M k m x := by
  unfold mayB fitsB nearB canB wh belF farB freeF
  simp only [notesF_k (M := M) (de := de) (c := 8) (by decide) (by decide), notesF_k (M := M) (de := de) (c := 4) (by decide) (by decide), notesF_k (M := M) (de := de) (c := 2) (by decide) (by decide), notesF_0 (M := M) (de := de) (j := 4) (by decide)]
theorem c_blame (C : relC S M n k) {m x : Int32} : zRuns gB_blame (d + 6) [.ref 0, .int m, .int x] (encC S) (fun v σ' => v = some (.int (pBlame M n k m x)) ∧ ∃ S', σ' = encC S' ∧ relC S' (gBlame M n k m x) n k) := by
  have R := C.1
  have h7 := R.1.1; have h4 := R.1.2.1
  refine m_B_blame [] rfl (Nat.le_of_ble_eq_true rfl) ?_
  refine z_call (c_isMan R) ?_
  refine z_b (fun h => ?_) (fun h => ?_)
  · exact ⟨by simp [pBlame, h], S, rfl, by unfold gBlame; rw [if_pos h]; exact C⟩
  refine z_call (c_isMishap R) ?_
  refine z_b (fun h2 => ?_) (fun h2 => ?_)
  · exact ⟨by simp [pBlame, h, h2], S, rfl, by unfold gBlame; rw [h, h2, if_neg (by decide), if_pos rfl]; exact C⟩
  obtain ⟨i, hi, rfl⟩ := ixB_t (by omega) h
  obtain ⟨y, hy, rfl⟩ := ixB_t (by omega) h2
  have ei : (nI i).toNatClampNeg = i := nI_clamp (by omega)
  have ey : (nI y).toNatClampNeg = y := nI_clamp (by omega)
  have p0 : pBlame M n k (nI i) (nI y) = if mayB M k i y = false then kNOT else M 2 (3 * i + 2) := by unfold pBlame; rw [h, h2, if_neg (by decide), if_neg (by decide), ei, ey]
  have g0 : gBlame M n k (nI i) (nI y) = if mayB M k i y = false then M else zUr (notesF M (M 0 20).toNatClampNeg) 8 (blamesNow M i y) := by unfold gBlame; rw [h, h2, if_neg (by decide), if_neg (by decide), ei, ey]
  rw [p0, g0]
  refine z_call (c_Ct_mayTake R hi hy) ?_
  refine z_b (fun h5 => ?_) (fun h5 => ?_)
  · exact ⟨by rw [if_pos h5], S, rfl, by rw [if_pos h5]; exact C⟩
  rw [h5, if_neg (by decide), if_neg (by decide)]
  refine z_callE (c_remember C) ?_
  rintro v σ' ⟨rfl, S1, rfl, C1⟩
  refine z_call (c_putBlame C1.1 hi hy) ?_
  obtain ⟨r1, r2⟩ := row_put C1.1 hi hy (by rw [mayB_notes]; exact h5)
  have C2 := relC_row C1 r1 r2
  refine z_call (c_atv (n := 7) (f := S1 17) rfl (by decide) rfl (by omega) (R_man C1.1 hi).2.2.1) ?_
  refine ⟨by rw [notesF_k (by decide) (by decide)], _, rfl, ?_⟩
  rw [← blamesNow_notes (M := M) (de := (M 0 20).toNatClampNeg)]
  exact C2
theorem c_clear (C : relC S M n k) {m x : Int32} : zRuns gB_clear (d + 6) [.ref 0, .int m, .int x] (encC S) (fun v σ' => v = some (.int (pClear M n k m x)) ∧ ∃ S', σ' = encC S' ∧ relC S' (gClear M n k m x) n k) := by
  have R := C.1
  have h7 := R.1.1; have h4 := R.1.2.1
  refine m_B_clear [] rfl (Nat.le_of_ble_eq_true rfl) ?_
  refine z_call (c_isMan R) ?_
  refine z_b (fun h => ?_) (fun h => ?_)
  · exact ⟨by simp [pClear, h], S, rfl, by unfold gClear; rw [if_pos h]; exact C⟩
  refine z_call (c_isMishap R) ?_
  refine z_b (fun h2 => ?_) (fun h2 => ?_)
  · exact ⟨by simp [pClear, h, h2], S, rfl, by unfold gClear; rw [h, h2, if_neg (by decide), if_pos rfl]; exact C⟩
  obtain ⟨i, hi, rfl⟩ := ixB_t (by omega) h
  obtain ⟨y, hy, rfl⟩ := ixB_t (by omega) h2
  have ei : (nI i).toNatClampNeg = i := nI_clamp (by omega)
  have ey : (nI y).toNatClampNeg = y := nI_clamp (by omega)
  have p0 : pClear M n k (nI i) (nI y) = if hasB (M 8 (7 + y)) (nI i) = false then kNOT else M 8 i - (if 0 < M 8 i then 1 else 0) := by unfold pClear; rw [h, h2, if_neg (by decide), if_neg (by decide), ei, ey]
  have g0 : gClear M n k (nI i) (nI y) = if hasB (M 8 (7 + y)) (nI i) = false then M else zUr (notesF M (M 0 20).toNatClampNeg) 8 (clearNow M i y) := by unfold gClear; rw [h, h2, if_neg (by decide), if_neg (by decide), ei, ey]
  rw [p0, g0]
  refine z_call (c_St_blamedFor R hy) ?_
  refine z_call (c_isIn rfl (by omega)) ?_
  refine z_b (fun h5 => ?_) (fun h5 => ?_)
  · have h5' : hasB (M 8 (7 + y)) (nI i) = false := h5
    exact ⟨by rw [if_pos h5'], S, rfl, by rw [if_pos h5']; exact C⟩
  have h5' : hasB (M 8 (7 + y)) (nI i) = true := h5
  rw [h5', if_neg (show ¬ (true = false) by decide), if_neg (show ¬ (true = false) by decide)]
  refine z_callE (c_remember C) ?_
  rintro v σ' ⟨rfl, S1, rfl, C1⟩
  have R1 := C1.1
  rw [← clearNow_notes (M := M) (de := (M 0 20).toNatClampNeg)]
  have e8 : notesF M (M 0 20).toNatClampNeg 8 = M 8 := notesF_k (by decide) (by decide)
  rw [← e8] at h5' ⊢
  generalize notesF M (M 0 20).toNatClampNeg = N at *
  obtain ⟨w, hw, ew⟩ := R1.2.2.1.1 i hi
  obtain ⟨w1, w2, w3⟩ := b_wd w (by omega)
  refine z_call (c_St_blamedFor R1 hy) ?_
  refine z_call (s_setBlamed (S := S1) (c := S1 26) (by omega)) ?_
  refine z_call (s_wear (by omega)) ?_
  refine z_call (s_wornOf (by omega)) ?_
  rw [upd_s, upd_n (show 42 + i ≠ 49 + y by omega), R1.2.2.2.2.2.1 i hi, ew]
  refine ⟨by rw [w1], _, rfl, ?_⟩
  refine relC_row C1 (rowEq_worn h7 h4 hi (by rw [ew]; exact w1) (rowEq_blamed h7 h4 hy rfl R1.2.2.2.2)) ?_
  exact okRow_worn h7 (by omega) (w := (clW (nI w + -1)).toNatClampNeg) (by omega) (by rw [ew, ← w1]; exact w2) (okRow_clear h7 h4 hy (by omega) h5' (okRow_of R1.2.1 R1.2.2.1))
theorem c_isHour {σ : List va_E} {h : Int32} : zRuns gB_isHour (d + 1) [.int h] σ (fun v σ' => v = some (.int (bI (decide (0 ≤ h ∧ h ≤ 5)))) ∧ σ' = σ) := by
  refine m_B_isHour [] rfl (Nat.le_of_ble_eq_true rfl) ?_
  refine ⟨fun q => ?_, fun q => ?_⟩
  · exact ⟨rfl, by rw [bI_ndec (fun z => Int32.lt_irrefl (Int32.lt_of_lt_of_le q z.1))], rfl⟩
  obtain ⟨j, hj, rfl⟩ := nI_of q
  refine z_le (a := 6) (b := j) rfl rfl (by decide) (by omega) (fun q2 => ?_) (fun q2 => ?_)
  · exact ⟨rfl, by rw [bI_ndec (fun z => nI_ge (a := 5) (b := j) (by omega) (by omega) z.2)], rfl⟩
  · exact ⟨rfl, by rw [bI_dec ⟨Int32.not_lt.mp q, by rw [q5]; exact nI_le (by omega) (by omega)⟩], rfl⟩
theorem c_isPlace {σ : List va_E} {h : Int32} : zRuns gB_isPlace (d + 1) [.int h] σ (fun v σ' => v = some (.int (bI (decide (0 ≤ h ∧ h ≤ 5)))) ∧ σ' = σ) := by
  refine m_B_isPlace [] rfl (Nat.le_of_ble_eq_true rfl) ?_
  refine ⟨fun q => ?_, fun q => ?_⟩
  · exact ⟨rfl, by rw [bI_ndec (fun z => Int32.lt_irrefl (Int32.lt_of_lt_of_le q z.1))], rfl⟩
  obtain ⟨j, hj, rfl⟩ := nI_of q
  refine z_le (a := 6) (b := j) rfl rfl (by decide) (by omega) (fun q2 => ?_) (fun q2 => ?_)
  · exact ⟨rfl, by rw [bI_ndec (fun z => nI_ge (a := 5) (b := j) (by omega) (by omega) z.2)], rfl⟩
  · exact ⟨rfl, by rw [bI_dec ⟨Int32.not_lt.mp q, by rw [q5]; exact nI_le (by omega) (by omega)⟩], rfl⟩
theorem c_walk (C : relC S M n k) {m h p : Int32} : zRuns gB_walk (d + 6) [.ref 0, .int m, .int h, .int p] (encC S) (fun v σ' => v = some (.int (pWalk M n m h p)) ∧ ∃ S', σ' = encC S' ∧ relC S' (gWalk M n m h p) n k) := by
  have R := C.1
  have h7 := R.1.1; have h4 := R.1.2.1
  refine m_B_walk [] rfl (Nat.le_of_ble_eq_true rfl) ?_
  refine z_call (c_isMan R) ?_
  refine z_b (fun h1 => ?_) (fun h1 => ?_)
  · exact ⟨by unfold pWalk; rw [if_pos h1], S, rfl, by unfold gWalk; rw [if_pos h1]; exact C⟩
  refine z_call c_isHour ?_
  refine z_dec (fun h2 => ?_) (fun h2 => ?_)
  · exact ⟨by unfold pWalk; rw [h1, if_neg (by decide), if_pos h2], S, rfl, by unfold gWalk; rw [h1, if_neg (by decide), if_pos h2]; exact C⟩
  refine z_call c_isPlace ?_
  refine z_dec (fun h3 => ?_) (fun h3 => ?_)
  · exact ⟨by unfold pWalk; rw [h1, if_neg (by decide), if_neg (fun z => z h2), if_pos h3], S, rfl, by unfold gWalk; rw [h1, if_neg (by decide), if_neg (fun z => z h2), if_pos h3]; exact C⟩
  obtain ⟨i, hi, rfl⟩ := ixB_t (by omega) h1
  obtain ⟨a, ha, rfl⟩ := z_rng (N := 5) (by decide) h2
  obtain ⟨b, hb, rfl⟩ := z_rng (N := 5) (by decide) h3
  have ei : (nI i).toNatClampNeg = i := nI_clamp (by omega)
  have ea : (nI a).toNatClampNeg = a := nI_clamp (by omega)
  have p0 : pWalk M n (nI i) (nI a) (nI b) = M 8 (13 + 6 * i + a) := by unfold pWalk; rw [h1, if_neg (by decide), if_neg (fun z => z h2), if_neg (fun z => z h3), ei, ea]
  have g0 : gWalk M n (nI i) (nI a) (nI b) = zUr (notesF M (M 0 20).toNatClampNeg) 8 (upd (M 8) (13 + 6 * i + a) (nI b)) := by unfold gWalk; rw [h1, if_neg (by decide), if_neg (fun z => z h2), if_neg (fun z => z h3), ei, ea]
  rw [p0, g0]
  refine z_callE (c_remember C) ?_
  rintro v σ' ⟨rfl, S1, rfl, C1⟩
  have R1 := C1.1
  have e8 : notesF M (M 0 20).toNatClampNeg 8 = M 8 := notesF_k (by decide) (by decide)
  rw [← e8]
  generalize notesF M (M 0 20).toNatClampNeg = N at *
  refine z_call (c_St_placeOf R1 hi (show a < 6 by omega) rfl) ?_
  refine z_call (s_setPlace (S := S1) (c := S1 26) (by omega) (by omega)) ?_
  refine ⟨rfl, _, rfl, ?_⟩
  exact relC_row C1 (rowEq_place h7 h4 hi (by omega) R1.2.2.2.2) (okRow_place h7 h4 (by omega) (by omega) (okRow_of R1.2.1 R1.2.2.1))
end D2
end
section
/-! the class's deeds: the day's end, the drift, undoing -/
theorem b_mem2 : ∀ s, s < 128 → ∀ q, q < 7 → q < (onesU (nI s) 7).toNatClampNeg → memU (nI s) (nI q) (-1) 7 0 0 = memF (nI s) (nI q) := by decide +kernel
theorem pick2 {M : zS} {n k x : Nat} (hn : n ≤ 7) (h : mayForF M n k x ≠ 0) : zPop32 (mayForF M n k x) = onesU (mayForF M n k x) 7 ∧ (0 : Int32) < onesU (mayForF M n k x) 7 ∧ memU (mayForF M n k x) (drawF (M 0 24) (onesU (mayForF M n k x) 7)) (-1) 7 0 0 = memF (mayForF M n k x) (drawF (M 0 24) (onesU (mayForF M n k x) 7)) := by
  obtain ⟨s, hs, e, hm⟩ := bits_n (fun m => mayB M k m x) n hn
  have e2 : mayForF M n k x = nI s := e
  have hs7 : s < 128 := Nat.lt_of_lt_of_le hs (Nat.pow_le_pow_right (by decide) hn)
  have hs0 : s ≠ 0 := fun z => h (by rw [e2, z]; rfl)
  obtain ⟨c1, c2, c3⟩ := b_ones s hs7 hs0
  rw [e2]
  refine ⟨b_pop s hs7, by rw [c1]; exact nI_lt (a := 0) c2 (by omega), ?_⟩
  generalize hc : (onesU (nI s) 7).toNatClampNeg = c at c1 c2 c3
  obtain ⟨q, hq, eq⟩ := draw_n (M 0 24) c2 (by omega)
  rw [c1, eq]
  exact b_mem2 s hs7 q (by omega) (by rw [hc]; exact hq)
section D3
variable {d : Nat} {S M : zS} {n k : Nat}
def base1 (M : zS) (k : Nat) : Nat → Int32 := upd (M 8) 11 (M 8 11 + paidF M k)
def N1 (M : zS) (k j : Nat) : Nat → Int32 := fun i => if i < j then decF M k i else base1 M k i
def N2 (M : zS) (n k j : Nat) : Nat → Int32 := fun i => if 7 ≤ i ∧ i < 7 + j then 0 else N1 M k n i
theorem N1_s {j : Nat} : N1 M k (j + 1) = upd (N1 M k j) j (decF M k j) := by
  funext i
  unfold N1 upd
  by_cases e : i = j
  · subst e; simp
  · by_cases e2 : i < j
    · simp [e, e2, show i < j + 1 by omega]
    · simp [e, e2, show ¬ i < j + 1 by omega]
theorem N2_s {j : Nat} : N2 M n k (j + 1) = upd (N2 M n k j) (7 + j) 0 := by
  funext i
  unfold N2 upd
  by_cases e : i = 7 + j
  · subst e; simp
  · by_cases e2 : 7 ≤ i ∧ i < 7 + j
    · rw [if_pos (by omega), if_neg e]; exact (if_pos e2).symm
    · rw [if_neg (by omega), if_neg e]; exact (if_neg e2).symm
theorem dec_w (W : okW M n) {m : Nat} (hm : m < n) : ∃ w, w ≤ 9 ∧ decF M k m = nI w := by
  obtain ⟨w, hw, ew⟩ := W.1 m hm
  obtain ⟨w1, w2, w3⟩ := b_wd w (by omega)
  unfold decF
  rw [ew]
  by_cases h : blamesF M k m = 0
  · simp only [h, true_and]
    exact ⟨(clW (nI w + -1)).toNatClampNeg, Nat.le_of_lt_succ w3, w1.symm.trans w2⟩
  · rw [if_neg (fun z => h z.1)]
    exact ⟨w, hw, by simp⟩
theorem okRow_N1 (h7 : n ≤ 7) (h4 : k ≤ 4) (W : okW M n) (o : okRow (M 4) n k (M 8)) : ∀ j, j ≤ n → okRow (M 4) n k (N1 M k j)
  | 0, _ => by
    have : N1 M k 0 = base1 M k := by funext i; unfold N1; rw [if_neg (by omega)]
    rw [this]
    exact okRow_sums h7 h4 (by decide) o
  | j + 1, hj => by
    rw [N1_s]
    obtain ⟨w, hw, ew⟩ := dec_w (k := k) W (m := j) (by omega)
    exact okRow_worn h7 (by omega) hw ew (okRow_N1 h7 h4 W o j (by omega))
theorem N1_b {j x : Nat} (hj : j ≤ 7) (hx : x < 4) : N1 M k j (7 + x) = M 8 (7 + x) := by
  unfold N1 base1
  rw [if_neg (by omega), upd_n (by omega)]
theorem okRow_setsNow (I : okM M n k) (W : okW M n) (r : okR M n) : okRow (M 4) n k (setsNow M n k) := by
  have h7 := I.1; have h4 := I.2.1
  refine ⟨okB_sets I, fun m hm => ?_, fun m hm h hh => ?_⟩
  · have e : setsNow M n k m = decF M k m := by
      unfold setsNow
      rw [upd_n (by omega), upd_n (by omega)]
      unfold sets3 sets2 sets1
      rw [if_neg (by omega), if_neg (by omega), if_pos hm]
    rw [e]
    exact dec_w W hm
  · have e : setsNow M n k (13 + 6 * m + h) = M 3 (6 * m + h) := by
      unfold setsNow
      rw [upd_n (by omega), upd_n (by omega)]
      unfold sets3
      rw [if_pos (by omega)]
      congr 1
      omega
    rw [e]
    exact r m hm h hh
theorem rowEq_setsNow (R : rel1 S M n k) {c : Nat → Int32} (e : rowEq n k c (N2 M n k k)) : rowEq n k (upd (fun j => if j < 42 then S 18 j else c j) 54 (c 54 + 1)) (setsNow M n k) := by
  have h7 := R.1.1; have h4 := R.1.2.1
  obtain ⟨e1, e2, e3, e4, e5⟩ := e
  refine ⟨fun m hm h hh => ?_, fun m hm => ?_, fun x hx => ?_, ?_, ?_⟩
  · rw [upd_n (by omega)]
    show (if 6 * m + h < 42 then _ else _) = _
    rw [if_pos (by omega), (R_man R hm).2.2.2 h hh]
    unfold setsNow
    rw [upd_n (by omega), upd_n (by omega)]
    unfold sets3
    rw [if_pos (by omega)]
    congr 1
    omega
  · rw [upd_n (by omega)]
    show (if 42 + m < 42 then _ else _) = _
    rw [if_neg (by omega), e2 m hm]
    unfold setsNow
    rw [upd_n (by omega), upd_n (by omega)]
    unfold sets3 sets2 sets1 N2 N1
    rw [if_neg (by omega), if_pos hm, if_neg (by omega), if_neg (by omega), if_pos hm]
  · rw [upd_n (by omega)]
    show (if 49 + x < 42 then _ else _) = _
    rw [if_neg (by omega), e3 x hx]
    unfold setsNow
    rw [upd_n (by omega), upd_n (by omega)]
    unfold sets3 sets2 N2
    rw [if_pos (by omega), if_neg (by omega), if_pos (by omega)]
  · rw [upd_n (by omega)]
    show (if 53 < 42 then _ else _) = _
    rw [if_neg (by omega), e4]
    unfold setsNow
    rw [upd_n (by omega), upd_s]
    unfold N2 N1 base1
    rw [if_neg (by omega), if_neg (by omega), upd_s]
  · rw [upd_s, e5]
    unfold setsNow
    rw [upd_s]
    unfold N2 N1 base1
    rw [if_neg (by omega), if_neg (by omega), upd_n (by decide)]
theorem c_endDay (R : rel1 S M n k) : zRuns gB_endDay (d + 5) [.ref 0] (encC S) (fun v σ' => v = some (.int (paidF M k)) ∧ ∃ c, σ' = encC (zUr S 26 c) ∧ rowEq n k c (setsNow M n k)) := by
  have h7 := R.1.1; have h4 := R.1.2.1
  have o := okRow_of R.2.1 R.2.2.1
  refine m_B_endDay [26, 65] rfl (Nat.le_of_ble_eq_true rfl) ?_
  refine z_call (c_Ct_freeInAll R) ?_
  have ep : S 14 2 * allFreeU M k = paidF M k := by rw [R.2.2.2.1.2.2.2.2.1]; rfl
  refine z_call (s_spend (S := S) (c := S 26)) ?_
  refine ⟨trivial, ?_⟩
  rw [ep]
  have r0 : rowEq n k (upd (S 26) 53 (S 26 53 + paidF M k)) (N1 M k 0) := by
    have : N1 M k 0 = base1 M k := by funext i; unfold N1; rw [if_neg (by omega)]
    rw [this]
    exact rowEq_spent h7 h4 (by rw [R.2.2.2.2.2.2.2.1]) R.2.2.2.2
  generalize upd (S 26) 53 (S 26 53 + paidF M k) = c0 at r0
  refine z_up (P := fun j => ∀ i c, i = nI j → rowEq n k c (N1 M k j) → zGood gB_endDay (d + 5) (fun v σ' => v = some (.int (paidF M k)) ∧ ∃ c, σ' = encC (zUr S 26 c) ∧ rowEq n k c (setsNow M n k)) 26 [some (.ref 0), some (.int (paidF M k)), some (.int i)] [] (encC (zUr S 26 c)) 0 0) n (fun j hj ih i c hi hc => ?_) 0 (Nat.zero_le _) 0 c0 nI_0.symm r0
  subst hi
  refine w_B_endDay [26, 65] ?_
  refine ⟨fun q => ?_, fun q => ?_⟩
  · have e := z_end (R_men R) hj (by omega) q
    subst e
    refine ⟨trivial, ?_⟩
    have r1 : rowEq j k c (N2 M j k 0) := by
      have : N2 M j k 0 = N1 M k j := by funext i; unfold N2; rw [if_neg (by omega)]
      rw [this]
      exact hc
    refine z_up (P := fun x => ∀ i c, i = nI x → rowEq j k c (N2 M j k x) → zGood gB_endDay (d + 5) (fun v σ' => v = some (.int (paidF M k)) ∧ ∃ c, σ' = encC (zUr S 26 c) ∧ rowEq j k c (setsNow M j k)) 65 [some (.ref 0), some (.int (paidF M k)), some (.int i)] [] (encC (zUr S 26 c)) 0 0) k (fun x hx ihx i c hi hc => ?_) 0 (Nat.zero_le _) 0 c nI_0.symm r1
    subst hi
    refine w_B_endDay [26, 65] ?_
    refine ⟨fun q2 => ?_, fun q2 => ?_⟩
    · have e := z_end (R_mis R) hx (by omega) q2
      subst e
      refine z_call s_takeRows ?_
      refine z_call s_countDay ?_
      exact ⟨rfl, _, rfl, rowEq_setsNow R hc⟩
    · have hlt := z_go (R_mis R) hx (by omega) q2
      refine z_call (s_setBlamed (by omega)) ?_
      refine ⟨trivial, ihx hlt _ _ (nI_1 x) ?_⟩
      rw [N2_s]
      exact rowEq_blamed h7 h4 hlt rfl hc
  · have hlt := z_go (R_men R) hj (by omega) q
    have R1 : rel1 (zUr S 26 c) (zUr M 8 (N1 M k j)) n k := rel1_row R hc (okRow_N1 h7 h4 R.2.2.1 o j hj)
    refine z_call (c_Ct_blamesOf R1 (by omega)) ?_
    have eb : blamesF (zUr M 8 (N1 M k j)) k j = blamesF M k j := blamesF_congr fun x hx => by rw [zUr_s]; exact N1_b (by omega) (by omega)
    rw [eb]
    have ej : N1 M k j j = M 8 j := by unfold N1 base1; rw [if_neg (by omega), upd_n (by omega)]
    refine ⟨fun h => ?_, fun h => ?_⟩
    · refine z_call (s_wear (by omega)) ?_
      refine ⟨trivial, ih hlt _ _ (nI_1 j) ?_⟩
      rw [N1_s]
      refine rowEq_worn h7 h4 hlt ?_ hc
      obtain ⟨w, hw, ew⟩ := R.2.2.1.1 j hlt
      rw [hc.2.1 j hlt, ej, ew, (b_wd w (by omega)).1]
      unfold decF
      rw [ew]
      simp [h]
    · refine ⟨trivial, ih hlt _ _ (nI_1 j) ?_⟩
      rw [N1_s]
      have : upd (N1 M k j) j (decF M k j) = N1 M k j := by
        funext i
        by_cases z : i = j
        · subst z
          rw [upd_s, ej]
          unfold decF
          rw [if_neg (fun z => h z.1)]
          simp
        · rw [upd_n z]
      rw [this]
      exact hc
theorem c_sunset (C : relC S M n k) : zRuns gB_sunset (d + 6) [.ref 0] (encC S) (fun v σ' => v = some (.int (pSunset M k)) ∧ ∃ S', σ' = encC S' ∧ relC S' (gSunset M n k) n k) := by
  have R := C.1
  refine m_B_sunset [] rfl (Nat.le_of_ble_eq_true rfl) ?_
  show (S 14 0 = 0 → _) ∧ (¬ S 14 0 = 0 → _)
  rw [R.2.2.2.1.2.2.1]
  refine ⟨fun h => ?_, fun h => ?_⟩
  · exact ⟨by unfold pSunset; rw [if_pos h], S, rfl, by unfold gSunset; rw [if_pos h]; exact C⟩
  refine z_call (c_St_days R) ?_
  refine ⟨fun h2 => ?_, fun h2 => ?_⟩
  · have h2' := Int32.not_lt.mpr h2
    refine z_callE (c_remember C) ?_
    rintro v σ' ⟨rfl, S1, rfl, C1⟩
    refine z_callE (c_endDay C1.1) ?_
    rintro v σ' ⟨rfl, c, rfl, e⟩
    rw [paidF_notes]
    refine ⟨by unfold pSunset; rw [if_neg h, if_neg h2'], _, rfl, ?_⟩
    unfold gSunset
    rw [if_neg h, if_neg h2', ← setsNow_notes (de := (M 0 20).toNatClampNeg)]
    exact relC_row C1 e (okRow_setsNow C1.1.1 C1.1.2.2.1 C1.2.2.2.2.2.2.2)
  · have h2' := Int32.not_le.mp h2
    exact ⟨by unfold pSunset; rw [if_neg h, if_pos h2'], S, rfl, by unfold gSunset; rw [if_neg h, if_pos h2']; exact C⟩
theorem relC_seed {v : Int32} (C : relC S M n k) : relC (zU S 0 11 v) (zU M 0 24 v) n k := by
  obtain ⟨R, P, T, I, ⟨de, nx, h1, h2, h3, h4, h5, h6⟩, f, s, r⟩ := C
  refine ⟨⟨okM_seed R.1, R.2.1, R.2.2.1, R.2.2.2.1, R.2.2.2.2⟩, P, T, I, ⟨de, nx, h1, h2, h3, h4, h5, fun t ht => ?_⟩, f, rfl, r⟩
  rw [zU_k (by omega)]
  exact h6 t ht
theorem c_draw {x : Int32} (hx : 0 < x) : zRuns gB_draw (d + 1) [.ref 0, .int x] (encC S) (fun v σ' => v = some (.int (drawF (S 0 11) x)) ∧ σ' = encC (zU S 0 11 (lcgM (S 0 11)))) := by
  refine m_B_draw [] rfl (Nat.le_of_ble_eq_true rfl) ?_
  refine ⟨fun h => absurd (Int32.lt_of_lt_of_le hx h) Int32.lt_irrefl, fun _ => ?_⟩
  have hx0 : ¬ x = 0 := fun z => by rw [z] at hx; exact absurd hx (by decide)
  refine ⟨by decide, ?_⟩
  refine ⟨hx0, ?_⟩
  rw [drawF, lcg_eq]
  exact ⟨rfl, rfl⟩
theorem c_memberOf {σ : List va_E} {s kk : Int32} : zRuns gB_memberOf (d + 2) [.int s, .int kk] σ (fun v σ' => v = some (.int (memU s kk (-1) 7 0 0)) ∧ σ' = σ) := by
  generalize hG : memU s kk (-1) 7 0 0 = G
  refine m_B_memberOf [4] rfl (Nat.le_of_ble_eq_true rfl) ?_
  refine ⟨trivial, ?_⟩
  refine z_up (P := fun j => ∀ i c, i = nI j → G = memU s kk (-1) (7 - j) j c → zGood gB_memberOf (d + 2) (fun v σ' => v = some (.int (G)) ∧ σ' = σ) 4 [some (.int s), some (.int kk), some (.int c), some (.int i)] [] σ 0 0) 7 (fun j hj ih i c hi hc => ?_) 0 (Nat.zero_le _) 0 0 nI_0.symm hG.symm
  subst hi
  refine w_B_memberOf [4] ?_
  refine z_le (a := 7) (b := j) rfl rfl (by decide) (by omega) (fun q => ?_) (fun q => ?_)
  · have : j = 7 := by omega
    subst this
    exact ⟨by rw [hc]; rfl, rfl⟩
  rw [show 7 - j = (7 - (j + 1)) + 1 by omega, memU] at hc
  refine z_call (c_isIn rfl (by omega)) ?_
  refine z_b (fun h => ?_) (fun h => ?_)
  · have h' : hasB s (nI j) = false := h
    rw [h', if_neg (by decide)] at hc
    exact ⟨trivial, ih q _ _ (nI_1 j) hc⟩
  · have h' : hasB s (nI j) = true := h
    rw [h', if_pos rfl] at hc
    refine ⟨fun h2 => ?_, fun h2 => ?_⟩
    · rw [if_pos h2] at hc
      exact ⟨by rw [hc], rfl⟩
    · rw [if_neg h2] at hc
      exact ⟨trivial, ih q _ _ (nI_1 j) hc⟩
end D3
end
section
/-! the class's deeds: the drift, undoing -/
def fmF (x : Int32) : Int32 := if 0 ≤ x ^^^ 30 then x - x / 30 * 30 else if x - x / 30 * 30 = 0 then x - x / 30 * 30 else x - x / 30 * 30 + 30
theorem b_fm2 : ∀ j, j < 30 → ∀ u, u < 31 → fmF (nI j - nI u) = nI ((j + 30 - u) % 30) := by decide +kernel
theorem c_floorMod {d : Nat} {σ : List va_E} {x : Int32} : zRuns gJM_floorMod (d + 1) [.int x, .int 30] σ (fun v σ' => v = some (.int (fmF x)) ∧ σ' = σ) := by
  refine m_JM_floorMod [] rfl (Nat.le_of_ble_eq_true rfl) ?_
  refine ⟨by decide, ?_⟩
  unfold fmF
  refine ⟨fun h => ?_, fun h => ?_⟩
  · exact ⟨by rw [if_pos h], rfl⟩
  · refine ⟨fun h2 => ?_, fun h2 => ?_⟩
    · exact ⟨by rw [if_neg h, if_pos h2], rfl⟩
    · exact ⟨by rw [if_neg h, if_neg h2], rfl⟩
section D4
variable {d : Nat} {S M : zS} {n k : Nat}
theorem c_blameByDraws (C : relC S M n k) {x : Nat} (hx : x < k) : zRuns gB_blameByDraws (d + 6) [.ref 0, .int (nI x)] (encC S) (fun v σ' => v = none ∧ ∃ S', σ' = encC S' ∧ relC S' (dxU n k x 7 M) n k) := by
  have h7 := C.1.1.1; have h4 := C.1.1.2.1
  refine m_B_blameByDraws [2] rfl (Nat.le_of_ble_eq_true rfl) ?_
  refine ⟨trivial, ?_⟩
  generalize hG : dxU n k x 7 M = G
  refine z_up (P := fun j => ∀ S M i u w, i = nI j → relC S M n k → dxU n k x (7 - j) M = G → zGood gB_blameByDraws (d + 6) (fun v σ' => v = none ∧ ∃ S', σ' = encC S' ∧ relC S' G n k) 2 [some (.ref 0), some (.int (nI x)), some (.int i), u, w] [] (encC S) 0 0) 7 (fun j hj ih S M i u w hi C hG => ?_) 0 (Nat.zero_le _) S M 0 none none nI_0.symm C hG
  subst hi
  refine w_B_blameByDraws [2] ?_
  refine z_le (a := 7) (b := j) rfl rfl (by decide) (by omega) (fun q => ?_) (fun q => ?_)
  · have : j = 7 := by omega
    subst this
    exact ⟨rfl, S, rfl, hG ▸ C⟩
  rw [show 7 - j = (7 - (j + 1)) + 1 by omega, dxU] at hG
  refine z_call (c_Ct_takers C.1 hx) ?_
  refine ⟨fun h => ?_, fun h => ?_⟩
  · rw [if_pos h] at hG
    exact ⟨rfl, S, rfl, hG ▸ C⟩
  rw [if_neg h] at hG
  obtain ⟨m, hm, em, hmay, -⟩ := pick h7 h
  obtain ⟨e1, e2, e3⟩ := pick2 h7 h
  have e24 : S 0 11 = M 0 24 := C.2.2.2.2.2.2.1
  refine z_call c_bitCount ?_
  rw [e1]
  refine z_call (c_draw e2) ?_
  refine z_call c_memberOf ?_
  rw [e24, e3, em]
  refine ⟨fun h9 => absurd h9 (nI_ne (by omega)), fun _ => ?_⟩
  have C1 := relC_seed (v := lcgM (M 0 24)) C
  refine z_call (c_putBlame C1.1 hm hx) ?_
  obtain ⟨r1, r2⟩ := row_put C1.1 hm hx hmay
  have C2 := relC_row C1 r1 r2
  refine ⟨trivial, ih q _ _ _ _ _ (nI_1 j) C2 ?_⟩
  rw [← hG]
  unfold blStep
  rw [em, nI_clamp (by omega)]
  rfl
theorem c_drift (C : relC S M n k) {a : Int32} : zRuns gB_drift (d + 7) [.ref 0, .int a] (encC S) (fun v σ' => v = some (.int (pDrift M n k a)) ∧ ∃ S', σ' = encC S' ∧ relC S' (gDrift M n k a) n k) := by
  have R := C.1
  have h7 := R.1.1; have h4 := R.1.2.1
  refine m_B_drift [44, 62] rfl (Nat.le_of_ble_eq_true rfl) ?_
  refine z_call c_isWithin ?_
  refine z_dec (fun h => ?_) (fun h => ?_)
  · exact ⟨by unfold pDrift; rw [if_pos h], S, rfl, by unfold gDrift; rw [if_pos h]; exact C⟩
  show (S 14 0 = 0 → _) ∧ (¬ S 14 0 = 0 → _)
  rw [R.2.2.2.1.2.2.1]
  refine ⟨fun h2 => ?_, fun h2 => ?_⟩
  · exact ⟨by unfold pDrift; rw [if_neg (fun z => z h), if_pos h2], S, rfl, by unfold gDrift; rw [if_neg (fun z => z h), if_pos h2]; exact C⟩
  refine z_call (c_St_days R) ?_
  refine ⟨fun h3 => ?_, fun h3 => ?_⟩
  · have h3' := Int32.not_lt.mpr h3
    have p0 : pDrift M n k a = driftU n k a.toNatClampNeg M 8 11 := by unfold pDrift; rw [if_neg (fun z => z h), if_neg h2, if_neg h3']
    have g0 : gDrift M n k a = driftU n k a.toNatClampNeg M := by unfold gDrift; rw [if_neg (fun z => z h), if_neg h2, if_neg h3']
    rw [p0, g0]
    obtain ⟨t, ht, rfl⟩ := z_rng (N := 20) (by decide) ⟨Int32.le_trans (by decide) h.1, h.2⟩
    rw [nI_clamp (by omega)]
    refine ⟨trivial, ?_⟩
    refine z_up (P := fun j => ∀ S i u, i = nI j → relC S (driftU n k j M) n k → zGood gB_drift (d + 7) (fun v σ' => v = some (.int (driftU n k t M 8 11)) ∧ ∃ S', σ' = encC S' ∧ relC S' (driftU n k t M) n k) 44 [some (.ref 0), some (.int (nI t)), some (.int i), u] [] (encC S) 0 0) t (fun j hj ih S i u hi C => ?_) 0 (Nat.zero_le _) S 0 none nI_0.symm C
    subst hi
    refine w_B_drift [44, 62] ?_
    refine z_le (a := t) (b := j) rfl rfl (by omega) (by omega) (fun q => ?_) (fun q => ?_)
    · have : j = t := by omega
      subst this
      refine z_call (c_St_spent C.1) ?_
      exact ⟨rfl, S, rfl, C⟩
    have go := fun S u => ih q S (nI j + 1) u (nI_1 j)
    rw [show driftU n k (j + 1) M = dayF n k (driftU n k j M) from rfl] at go
    generalize driftU n k j M = D at C go
    refine z_callE (c_remember C) ?_
    rintro v σ' ⟨rfl, S1, rfl, C1⟩
    refine ⟨trivial, ?_⟩
    refine z_up (P := fun x => ∀ S i, i = nI x → relC S (dxAll n k x (notesF D (D 0 20).toNatClampNeg)) n k → zGood gB_drift (d + 7) (fun v σ' => v = some (.int (driftU n k t M 8 11)) ∧ ∃ S', σ' = encC S' ∧ relC S' (driftU n k t M) n k) 62 [some (.ref 0), some (.int (nI t)), some (.int (nI j)), some (.int i)] [] (encC S) 0 0) k (fun x hx ihx S i hi C => ?_) 0 (Nat.zero_le _) S1 0 nI_0.symm C1
    subst hi
    refine w_B_drift [44, 62] ?_
    refine ⟨fun q2 => ?_, fun q2 => ?_⟩
    · have e := z_end (R_mis C.1) hx (by omega) q2
      subst e
      refine z_callE (c_endDay C.1) ?_
      rintro v σ' ⟨rfl, c, rfl, e⟩
      refine ⟨trivial, go _ _ ?_⟩
      unfold dayF
      exact relC_row C e (okRow_setsNow C.1.1 C.1.2.2.1 C.2.2.2.2.2.2.2)
    · have hlt := z_go (R_mis C.1) hx (by omega) q2
      refine z_callE (c_blameByDraws C hlt) ?_
      rintro v σ' ⟨rfl, S2, rfl, C2⟩
      exact ⟨trivial, ihx hlt S2 _ (nI_1 x) C2⟩
  · have h3' := Int32.not_le.mp h3
    exact ⟨by unfold pDrift; rw [if_neg (fun z => z h), if_neg h2, if_pos h3'], S, rfl, by unfold gDrift; rw [if_neg (fun z => z h), if_neg h2, if_pos h3']; exact C⟩
theorem s_giveBack {nx de u : Nat} (h1 : nx < 30) (h2 : de ≤ 30) (hu : u ≤ de) (hu1 : 1 ≤ u) (e1 : S 39 1 = nI nx) (e2 : S 39 2 = nI de) : zRuns gPs_giveBack (d + 2) [.ref 39, .int (nI u), .ref 25] (encC S) (fun v σ' => v = none ∧ σ' = encC (zUr (zU (zU S 39 1 (nI ((nx + 30 - u) % 30))) 39 2 (nI (de - u))) 26 (fun j => if j < 55 then S (41 + (nx + 30 - u) % 30) j else S 26 j))) := by
  refine m_Ps_giveBack [] rfl (Nat.le_of_ble_eq_true rfl) ?_
  refine z_call c_floorMod ?_
  refine z_call c_max ?_
  have hx : (nx + 30 - u) % 30 < 30 := Nat.mod_lt _ (by decide)
  rw [e1, e2, b_fm2 nx h1 u (by omega), pk_sub hu]
  generalize (nx + 30 - u) % 30 = z at hx
  have em : (if (0 : Int32) < nI (de - u) then nI (de - u) else 0) = nI (de - u) := by
    by_cases y : de - u = 0
    · rw [y]; rfl
    · exact if_pos (nI_lt (a := 0) (Nat.pos_of_ne_zero y) (by omega))
  rw [em]
  refine ⟨fun q => absurd q (nI_pos (by omega)), fun _ => ?_⟩
  refine ⟨fun q => absurd q (nI_ge hx (by decide)), fun _ => ?_⟩
  refine ⟨vp_in_nI hx (by decide), ?_⟩
  generalize hS1 : (zU (zU S 39 1 (nI z)) 39 2 (nI (de - u))) = S1
  have g1 : S1 26 = S 26 := by rw [← hS1]; rfl
  have g2 : S1 (41 + z) = S (41 + z) := by rw [← hS1, zU_k (by omega), zU_k (by omega)]
  have cp : ∀ r : Value, r = .ref (41 + z) → zRuns gB_copyRow (d + 1) [r, .ref 26] (encC S1) (fun v σ' => v = none ∧ σ' = encC (zUr S1 26 (fun j => if j < 55 then S (41 + z) j else S 26 j))) := by
    rintro _ rfl
    rw [← g1, ← g2]
    exact c_copyRow (r1 := 41 + z) (r2 := 26) (n1 := 55) (n2 := 55) (enc_at z hx) rfl (by omega) (by decide) (by decide)
  rw [← hS1] at cp
  refine z_call (cp _ (by rw [nI_clamp (by omega)]; simp [zRf, hx])) ?_
  exact ⟨rfl, by rw [hS1]⟩
theorem c_undo (C : relC S M n k) {u : Int32} : zRuns gB_undo (d + 4) [.ref 0, .int u] (encC S) (fun v σ' => v = some (.int (pUndo M u)) ∧ ∃ S', σ' = encC S' ∧ relC S' (gUndo M u) n k) := by
  have C0 := C
  have hn := C.1.1.1; have hk := C.1.1.2.1
  obtain ⟨R, P, T, I, ⟨de, nx, h1, h2, h3, h4, h5, h6⟩, f, s, r⟩ := C
  refine m_B_undo [] rfl (Nat.le_of_ble_eq_true rfl) ?_
  refine z_call c_isWithin ?_
  refine z_dec (fun h => ?_) (fun h => ?_)
  · exact ⟨by unfold pUndo; rw [if_pos h], S, rfl, by unfold gUndo; rw [if_pos h]; exact C0⟩
  show (u ≤ S 39 2 → _) ∧ (¬ u ≤ S 39 2 → _)
  rw [h4, ← h3]
  refine ⟨fun h7 => ?_, fun h7 => ?_⟩
  · obtain ⟨t, ht, rfl⟩ := z_rng (N := 30) (by decide) ⟨Int32.le_trans (by decide) h.1, h.2⟩
    have ht1 : 1 ≤ t := by
      rcases Nat.eq_zero_or_pos t with z | z
      · subst z; exact absurd h.1 (by decide)
      · exact z
    have htd : t ≤ de := by
      rw [h3] at h7
      exact Nat.not_lt.mp fun z => nI_ge z (by omega) h7
    have ede : (M 0 20).toNatClampNeg = de := by rw [h3, nI_clamp (by omega)]
    have p0 : pUndo M (nI t) = M 9 (55 * (de - t) + 12) := by unfold pUndo; rw [if_neg (fun z => z h), if_neg (fun z => z h7), ede, nI_clamp (by omega)]
    have g0 : gUndo M (nI t) = zUr (zU M 0 20 (nI (de - t))) 8 (cpyF (M 9) (M 8) (55 * (de - t)) 0) := by unfold gUndo; rw [if_neg (fun z => z h), if_neg (fun z => z h7), ede, nI_clamp (by omega)]
    rw [p0, g0]
    refine z_call (s_giveBack h2 h1 htd ht1 h5 h4) ?_
    obtain ⟨r1, r2⟩ := h6 (t - 1) (by omega)
    rw [show (nx + 29 - (t - 1)) % 30 = (nx + 30 - t) % 30 by congr 1; omega, show de - 1 - (t - 1) = de - t by omega] at r1
    rw [show de - 1 - (t - 1) = de - t by omega] at r2
    have en : ∀ j, j < 55 → cpyF (M 9) (M 8) (55 * (de - t)) 0 j = M 9 (55 * (de - t) + j) := by
      intro j hj
      unfold cpyF
      rw [if_pos (by omega), Nat.sub_zero]
    generalize hz : (nx + 30 - t) % 30 = z at *
    have hz30 : z < 30 := by rw [← hz]; exact Nat.mod_lt _ (by decide)
    have D : relC (zUr (zU (zU S 39 1 (nI z)) 39 2 (nI (de - t))) 26 (fun j => if j < 55 then S (41 + z) j else S 26 j)) (zUr (zU M 0 20 (nI (de - t))) 8 (cpyF (M 9) (M 8) (55 * (de - t)) 0)) n k := by
      have B : relC (zU (zU S 39 1 (nI z)) 39 2 (nI (de - t))) (zU M 0 20 (nI (de - t))) n k := by
        refine ⟨⟨okM_of R.1 rfl rfl rfl rfl rfl, R.2.1, R.2.2.1, R.2.2.2.1, R.2.2.2.2⟩, P, T, I, ⟨de - t, z, by omega, hz30, rfl, rfl, rfl, fun y hy => ?_⟩, f, s, r⟩
        rw [zU_k (by omega), zU_k (by omega)]
        obtain ⟨q1, q2⟩ := h6 (t + y) (by omega)
        rw [show (nx + 29 - (t + y)) % 30 = (z + 29 - y) % 30 by omega, show de - 1 - (t + y) = de - t - 1 - y by omega] at q1
        rw [show de - 1 - (t + y) = de - t - 1 - y by omega] at q2
        exact ⟨q1, q2⟩
      exact relC_row B (rowEq_congr hn hk (fun j hj => if_pos hj) en r1) (okRow_congr hn hk rfl en r2)
    refine z_call (c_St_days D.1) ?_
    refine ⟨?_, _, rfl, D⟩
    rw [zUr_s, en 12 (by decide)]
  · exact ⟨by unfold pUndo; rw [if_neg (fun z => z h), if_pos h7], S, rfl, by unfold gUndo; rw [if_neg (fun z => z h), if_pos h7]; exact C0⟩
end D4
end
section
/-! the class's deeds: the text, the papers, the images -/
section D5
variable {d : Nat} {S M : zS} {n k : Nat}
theorem c_fault (C : relC S M n k) : zRuns gB_fault d [.ref 0] (encC S) (fun v σ' => v = some (.int (M 0 2)) ∧ σ' = encC S) := by
  refine m_B_fault [] rfl (Nat.le_of_ble_eq_true rfl) ?_
  exact ⟨congrArg (fun z => some (Value.int z)) C.2.2.2.2.2.1, rfl⟩
theorem c_feed (C : relC S M n k) {l : Int32} : zRuns gB_feed (d + 3) [.ref 0, .int l] (encC S) (fun v σ' => v = some (.int (pFeed M l)) ∧ ∃ S', σ' = encC S' ∧ relC S' (gFeed M l) n k) := by
  have C0 := C
  obtain ⟨R, P, ⟨t, t1, t2, t3, t4⟩, I, ⟨de, nx, h1, h2, h3, h4, h5, h6⟩, f, s, r⟩ := C
  refine m_B_feed [] rfl (Nat.le_of_ble_eq_true rfl) ?_
  refine z_call c_isWithin ?_
  refine z_dec (fun h => ?_) (fun h => ?_)
  · exact ⟨by unfold pFeed; rw [if_pos h], S, rfl, by unfold gFeed; rw [if_pos h]; exact C0⟩
  refine z_lt (a := t) (b := 230) t2 rfl (by omega) (by decide) (fun q => ?_) (fun q => ?_)
  rotate_left
  · have e : M 0 1 = 230 := by rw [t3, show t = 230 by omega]; rfl
    exact ⟨by unfold pFeed; rw [if_neg (fun z => z h), if_pos e], S, rfl, by unfold gFeed; rw [if_neg (fun z => z h), if_pos e]; exact C0⟩
  have ne : ¬ M 0 1 = 230 := by
    intro z
    rw [t3] at z
    have := congrArg Int32.toNatClampNeg z
    rw [nI_clamp (by omega)] at this
    have z2 : (230 : Int32).toNatClampNeg = 230 := by decide
    omega
  have p0 : pFeed M l = M 0 1 + 1 := by unfold pFeed; rw [if_neg (fun z => z h), if_neg ne]
  have g0 : gFeed M l = zU (zU M 1 t l) 0 1 (M 0 1 + 1) := by unfold gFeed; rw [if_neg (fun z => z h), if_neg ne, t3, nI_clamp (by omega)]
  rw [p0, g0]
  have ad : zRuns gTe_add (d + 2) [.ref 1, .int l] (encC S) (fun v σ' => v = some (.int (S 1 1 + 1)) ∧ σ' = encC (zU (zU S 2 t l) 1 1 (S 1 1 + 1))) := by
    refine m_Te_add [] rfl (Nat.le_of_ble_eq_true rfl) ?_
    refine z_call (c_put (n := 230) (f := S 2) (j := t) rfl (by decide) t2 (by omega)) ?_
    exact ⟨rfl, rfl⟩
  refine z_call ad ?_
  refine ⟨by rw [t2, t3], _, rfl, ?_⟩
  obtain ⟨b, hb, eb⟩ := z_rng (N := 255) (by decide) h
  refine ⟨⟨okM_of R.1 rfl rfl rfl rfl rfl, R.2.1, R.2.2.1, R.2.2.2.1, R.2.2.2.2⟩, P, ⟨t + 1, by omega, ?_, ?_, fun j hj => ?_⟩, I, ⟨de, nx, h1, h2, h3, h4, h5, fun y hy => ?_⟩, f, s, r⟩
  · show S 1 1 + 1 = nI (t + 1)
    rw [t2, nI_1]
  · show M 0 1 + 1 = nI (t + 1)
    rw [t3, nI_1]
  · show upd (S 2) t l j = upd (M 1) t l j ∧ ∃ c, c < 256 ∧ upd (M 1) t l j = nI c
    by_cases z : j = t
    · subst z
      rw [upd_s, upd_s]
      exact ⟨rfl, b, by omega, eb⟩
    · rw [upd_n z, upd_n z]
      exact t4 j (by omega)
  · rw [zU_k (by omega), zU_k (by omega)]
    exact h6 y hy
theorem c_seed (C : relC S M n k) {v : Int32} : zRuns gB_seed d [.ref 0, .int v] (encC S) (fun r σ' => r = some (.int (pSeed M v)) ∧ ∃ S', σ' = encC S' ∧ relC S' (gSeed M v) n k) := by
  have e24 : S 0 11 = M 0 24 := C.2.2.2.2.2.2.1
  refine m_B_seed [] rfl (Nat.le_of_ble_eq_true rfl) ?_
  refine ⟨fun h => ?_, fun h => ?_⟩
  · refine ⟨?_, zU S 0 11 v, rfl, ?_⟩
    · show some (Value.int (S 0 11)) = _
      unfold pSeed; rw [if_pos h, e24]
    · unfold gSeed; rw [if_pos h]; exact relC_seed C
  · exact ⟨by unfold pSeed; rw [if_neg h], S, rfl, by unfold gSeed; rw [if_neg h]; exact C⟩
theorem relC_burn (C : relC S M n k) : relC (zU (zU S 71 3 0) 71 6 0) (zU (zU M 0 26 0) 0 28 0) n k := by
  obtain ⟨R, P, T, I, ⟨de, nx, h1, h2, h3, h4, h5, h6⟩, f, s, r⟩ := C
  refine ⟨⟨okM_of R.1 rfl rfl rfl rfl rfl, R.2.1, R.2.2.1, R.2.2.2.1, R.2.2.2.2⟩, ⟨0, 0, by omega, by omega, rfl, rfl, rfl, rfl, fun j hj => absurd hj (by omega), fun j hj => absurd hj (by omega)⟩, T, I, ⟨de, nx, h1, h2, h3, h4, h5, fun y hy => ?_⟩, f, s, r⟩
  rw [zU_k (by omega), zU_k (by omega)]
  exact h6 y hy
theorem c_burn : zRuns gPa_burn d [.ref 71] (encC S) (fun r σ' => r = none ∧ σ' = encC (zU (zU S 71 3 0) 71 6 0)) := by
  refine m_Pa_burn [] rfl (Nat.le_of_ble_eq_true rfl) ?_
  exact ⟨rfl, rfl⟩
theorem c_tear (C : relC S M n k) : zRuns gB_tear (d + 1) [.ref 0] (encC S) (fun v σ' => v = some (.int (M 0 26 + M 0 28)) ∧ ∃ S', σ' = encC S' ∧ relC S' (gTear M) n k) := by
  have C0 := C
  obtain ⟨R, ⟨s, e, hs, he, p1, p2, p3, p4, p5, p6⟩, -⟩ := C
  refine m_B_tear [] rfl (Nat.le_of_ble_eq_true rfl) ?_
  refine z_call c_burn ?_
  refine ⟨?_, _, rfl, relC_burn C0⟩
  rw [p1, p3, ← p2, ← p4]
theorem ne_n {x y : Int32} {a b : Nat} (hx : x = nI a) (hy : y = nI b) (ha : a < 2 ^ 31) (hb : b < 2 ^ 31) (h : a ≠ b) : x ≠ y := by
  rw [hx, hy]
  intro z
  have := congrArg Int32.toNatClampNeg z
  rw [nI_clamp ha, nI_clamp hb] at this
  exact h this
theorem c_see (C : relC S M n k) {m h p : Int32} : zRuns gB_see (d + 3) [.ref 0, .int m, .int h, .int p] (encC S) (fun v σ' => v = some (.int (pSee M n m h p)) ∧ ∃ S', σ' = encC S' ∧ relC S' (gSee M n m h p) n k) := by
  have C0 := C
  have h7 := C.1.1.1
  obtain ⟨R, ⟨s, e, hs, he, p1, p2, p3, p4, p5, p6⟩, T, I, ⟨de, nx, h1, h2, h3, h4, h5, h6⟩, f, sd, r⟩ := C
  refine m_B_see [] rfl (Nat.le_of_ble_eq_true rfl) ?_
  refine z_call (c_isMan R) ?_
  refine z_b (fun h1 => ?_) (fun g1 => ?_)
  · exact ⟨by unfold pSee; rw [if_pos h1], S, rfl, by unfold gSee; rw [if_pos h1]; exact C0⟩
  refine z_call c_isHour ?_
  refine z_dec (fun h2 => ?_) (fun g2 => ?_)
  · exact ⟨by unfold pSee; rw [g1, if_neg (by decide), if_pos h2], S, rfl, by unfold gSee; rw [g1, if_neg (by decide), if_pos h2]; exact C0⟩
  refine z_call c_isPlace ?_
  refine z_dec (fun h3 => ?_) (fun g3 => ?_)
  · exact ⟨by unfold pSee; rw [g1, if_neg (by decide), if_neg (fun z => z g2), if_pos h3], S, rfl, by unfold gSee; rw [g1, if_neg (by decide), if_neg (fun z => z g2), if_pos h3]; exact C0⟩
  have q0 : pSee M n m h p = if M 0 26 = 6 then kFUL else M 0 26 + 1 := by unfold pSee; rw [g1, if_neg (by decide), if_neg (fun z => z g2), if_neg (fun z => z g3)]
  have w0 : gSee M n m h p = if M 0 26 = 6 then M else zU (zU (zU (zU M 13 (3 * s) m) 13 (3 * s + 1) h) 13 (3 * s + 2) p) 0 26 (M 0 26 + 1) := by unfold gSee; rw [g1, if_neg (by decide), if_neg (fun z => z g2), if_neg (fun z => z g3), p1, nI_clamp (by omega)]
  rw [q0, w0]
  refine z_lt (a := s) (b := 6) p2 rfl (by omega) (by decide) (fun q => ?_) (fun q => ?_)
  rotate_left
  · have e6 : M 0 26 = 6 := by rw [p1, show s = 6 by omega]; rfl
    exact ⟨by rw [if_pos e6], S, rfl, by rw [if_pos e6]; exact C0⟩
  have e6 : M 0 26 ≠ 6 := ne_n p1 q6 (by omega) (by decide) (by omega)
  rw [if_neg e6, if_neg e6]
  have ad : zRuns gPa_addSeen (d + 2) [.ref 71, .int m, .int h, .int p] (encC S) (fun v σ' => v = some (.int (S 71 3 + 1)) ∧ σ' = encC (zU (zU (zU (zU S 72 s m) 73 s h) 74 s p) 71 3 (S 71 3 + 1))) := by
    refine m_Pa_addSeen [] rfl (Nat.le_of_ble_eq_true rfl) ?_
    refine z_call (c_put (n := 6) (f := S 72) (j := s) rfl (by decide) p2 (by omega)) ?_
    refine z_call (c_put (n := 6) (f := S 73) (j := s) rfl (by decide) p2 (by omega)) ?_
    refine z_call (c_put (n := 6) (f := S 74) (j := s) rfl (by decide) p2 (by omega)) ?_
    exact ⟨rfl, rfl⟩
  refine z_call ad ?_
  refine ⟨by rw [p1, p2], _, rfl, ?_⟩
  obtain ⟨a, ha, ea⟩ := z_rng (N := 5) (by decide) g2
  obtain ⟨b, hb, eb⟩ := z_rng (N := 5) (by decide) g3
  refine ⟨⟨okM_of R.1 rfl rfl rfl rfl rfl, R.2.1, R.2.2.1, R.2.2.2.1, R.2.2.2.2⟩, ⟨s + 1, e, by omega, he, ?_, ?_, p3, p4, fun j hj => ?_, p6⟩, T, I, ⟨de, nx, h1, h2, h3, h4, h5, fun y hy => ?_⟩, f, sd, r⟩
  · show M 0 26 + 1 = nI (s + 1)
    rw [p1, nI_1]
  · show S 71 3 + 1 = nI (s + 1)
    rw [p2, nI_1]
  · show upd (S 72) s m j = upd (upd (upd (M 13) (3 * s) m) (3 * s + 1) h) (3 * s + 2) p (3 * j) ∧ upd (S 73) s h j = upd (upd (upd (M 13) (3 * s) m) (3 * s + 1) h) (3 * s + 2) p (3 * j + 1) ∧ upd (S 74) s p j = upd (upd (upd (M 13) (3 * s) m) (3 * s + 1) h) (3 * s + 2) p (3 * j + 2) ∧ (∃ h', h' < 6 ∧ upd (upd (upd (M 13) (3 * s) m) (3 * s + 1) h) (3 * s + 2) p (3 * j + 1) = nI h') ∧ ∃ p', p' < 6 ∧ upd (upd (upd (M 13) (3 * s) m) (3 * s + 1) h) (3 * s + 2) p (3 * j + 2) = nI p'
    by_cases z : j = s
    · subst z
      rw [upd_s, upd_s, upd_s, upd_s, upd_n (show 3 * j + 1 ≠ 3 * j + 2 by omega), upd_s, upd_n (show 3 * j ≠ 3 * j + 2 by omega), upd_n (show 3 * j ≠ 3 * j + 1 by omega), upd_s]
      exact ⟨rfl, rfl, rfl, ⟨a, by omega, ea⟩, b, by omega, eb⟩
    · rw [upd_n z, upd_n z, upd_n z, upd_n (show 3 * j ≠ 3 * s + 2 by omega), upd_n (show 3 * j ≠ 3 * s + 1 by omega), upd_n (show 3 * j ≠ 3 * s by omega), upd_n (show 3 * j + 1 ≠ 3 * s + 2 by omega), upd_n (show 3 * j + 1 ≠ 3 * s + 1 by omega), upd_n (show 3 * j + 1 ≠ 3 * s by omega), upd_n (show 3 * j + 2 ≠ 3 * s + 2 by omega), upd_n (show 3 * j + 2 ≠ 3 * s + 1 by omega), upd_n (show 3 * j + 2 ≠ 3 * s by omega)]
      exact p5 j (by omega)
  · rw [zU_k (by omega), zU_k (by omega), zU_k (by omega), zU_k (by omega)]
    exact h6 y hy
theorem c_write (C : relC S M n k) {m x : Int32} : zRuns gB_write (d + 3) [.ref 0, .int m, .int x] (encC S) (fun v σ' => v = some (.int (pWrite M n k m x)) ∧ ∃ S', σ' = encC S' ∧ relC S' (gWrite M n k m x) n k) := by
  have C0 := C
  have h7 := C.1.1.1; have h4' := C.1.1.2.1
  obtain ⟨R, ⟨s, e, hs, he, p1, p2, p3, p4, p5, p6⟩, T, I, ⟨de, nx, h1, h2, h3, h4, h5, h6⟩, f, sd, r⟩ := C
  refine m_B_write [] rfl (Nat.le_of_ble_eq_true rfl) ?_
  refine z_call (c_isMan R) ?_
  refine z_b (fun h1 => ?_) (fun g1 => ?_)
  · exact ⟨by unfold pWrite; rw [if_pos h1], S, rfl, by unfold gWrite; rw [if_pos h1]; exact C0⟩
  refine z_call (c_isMishap R) ?_
  refine z_b (fun h2 => ?_) (fun g2 => ?_)
  · exact ⟨by unfold pWrite; rw [g1, if_neg (by decide), if_pos h2], S, rfl, by unfold gWrite; rw [g1, if_neg (by decide), if_pos h2]; exact C0⟩
  have q0 : pWrite M n k m x = if M 0 28 = 20 then kFUL else M 0 28 + 1 := by unfold pWrite; rw [g1, g2, if_neg (by decide), if_neg (by decide)]
  have w0 : gWrite M n k m x = if M 0 28 = 20 then M else zU (zU (zU M 14 (2 * e) m) 14 (2 * e + 1) x) 0 28 (M 0 28 + 1) := by unfold gWrite; rw [g1, g2, if_neg (by decide), if_neg (by decide), p3, nI_clamp (by omega)]
  rw [q0, w0]
  refine z_lt (a := e) (b := 20) p4 rfl (by omega) (by decide) (fun q => ?_) (fun q => ?_)
  rotate_left
  · have e6 : M 0 28 = 20 := by rw [p3, show e = 20 by omega]; rfl
    exact ⟨by rw [if_pos e6], S, rfl, by rw [if_pos e6]; exact C0⟩
  have e6 : M 0 28 ≠ 20 := ne_n p3 q20 (by omega) (by decide) (by omega)
  rw [if_neg e6, if_neg e6]
  have ad : zRuns gPa_addEntry (d + 2) [.ref 71, .int m, .int x] (encC S) (fun v σ' => v = some (.int (S 71 6 + 1)) ∧ σ' = encC (zU (zU (zU S 75 e m) 76 e x) 71 6 (S 71 6 + 1))) := by
    refine m_Pa_addEntry [] rfl (Nat.le_of_ble_eq_true rfl) ?_
    refine z_call (c_put (n := 20) (f := S 75) (j := e) rfl (by decide) p4 (by omega)) ?_
    refine z_call (c_put (n := 20) (f := S 76) (j := e) rfl (by decide) p4 (by omega)) ?_
    exact ⟨rfl, rfl⟩
  refine z_call ad ?_
  refine ⟨by rw [p3, p4], _, rfl, ?_⟩
  obtain ⟨a, ha, ea⟩ := ixB_t (by omega) g1
  obtain ⟨b, hb, eb⟩ := ixB_t (by omega) g2
  refine ⟨⟨okM_of R.1 rfl rfl rfl rfl rfl, R.2.1, R.2.2.1, R.2.2.2.1, R.2.2.2.2⟩, ⟨s, e + 1, hs, by omega, p1, p2, ?_, ?_, p5, fun j hj => ?_⟩, T, I, ⟨de, nx, h1, h2, h3, h4, h5, fun y hy => ?_⟩, f, sd, r⟩
  · show M 0 28 + 1 = nI (e + 1)
    rw [p3, nI_1]
  · show S 71 6 + 1 = nI (e + 1)
    rw [p4, nI_1]
  · show upd (S 75) e m j = upd (upd (M 14) (2 * e) m) (2 * e + 1) x (2 * j) ∧ upd (S 76) e x j = upd (upd (M 14) (2 * e) m) (2 * e + 1) x (2 * j + 1) ∧ (∃ m', m' < n ∧ upd (upd (M 14) (2 * e) m) (2 * e + 1) x (2 * j) = nI m') ∧ ∃ x', x' < k ∧ upd (upd (M 14) (2 * e) m) (2 * e + 1) x (2 * j + 1) = nI x'
    by_cases z : j = e
    · subst z
      rw [upd_s, upd_s, upd_s, upd_n (show 2 * j ≠ 2 * j + 1 by omega), upd_s]
      exact ⟨rfl, rfl, ⟨a, ha, ea⟩, b, hb, eb⟩
    · rw [upd_n z, upd_n z, upd_n (show 2 * j ≠ 2 * e + 1 by omega), upd_n (show 2 * j ≠ 2 * e by omega), upd_n (show 2 * j + 1 ≠ 2 * e + 1 by omega), upd_n (show 2 * j + 1 ≠ 2 * e by omega)]
      exact p6 j (by omega)
  · rw [zU_k (by omega), zU_k (by omega), zU_k (by omega)]
    exact h6 y hy
end D5
end
section
/-! the class's deeds: the images -/
section D6
variable {d : Nat} {S M : zS} {n k : Nat}
theorem c_forget : zRuns gPs_forget d [.ref 39] (encC S) (fun r σ' => r = none ∧ σ' = encC (zU S 39 2 0)) := by
  refine m_Ps_forget [] rfl (Nat.le_of_ble_eq_true rfl) ?_
  exact ⟨rfl, rfl⟩
theorem c_image0 : zRuns gB_imageOf d [.ref 0, .int 0] (encC S) (fun r σ' => r = some (.ref 77) ∧ σ' = encC S) := by
  refine m_B_imageOf [] rfl (Nat.le_of_ble_eq_true rfl) ?_
  refine br_t rfl ?_
  exact ⟨rfl, rfl⟩
theorem c_image1 : zRuns gB_imageOf d [.ref 0, .int 1] (encC S) (fun r σ' => r = some (.ref 79) ∧ σ' = encC S) := by
  refine m_B_imageOf [] rfl (Nat.le_of_ble_eq_true rfl) ?_
  refine br_f (by decide) ?_
  refine br_t rfl ?_
  exact ⟨rfl, rfl⟩
theorem c_image2 {i : Int32} (h0 : ¬ i = 0) (h1 : ¬ i = 1) : zRuns gB_imageOf d [.ref 0, .int i] (encC S) (fun r σ' => r = some .null ∧ σ' = encC S) := by
  refine m_B_imageOf [] rfl (Nat.le_of_ble_eq_true rfl) ?_
  refine ⟨fun h => absurd h h0, fun _ => ?_⟩
  refine ⟨fun h => absurd h h1, fun _ => ?_⟩
  exact ⟨rfl, rfl⟩
theorem t_0 : (0 : Int32).toNatClampNeg = 0 := by decide
theorem t_1 : (1 : Int32).toNatClampNeg = 1 := by decide
theorem img_of {i : Int32} (h : 0 ≤ i ∧ i ≤ 1) : i = 0 ∨ i = 1 := by
  obtain ⟨j, hj, rfl⟩ := z_rng (N := 1) (by decide) h
  have : j = 0 ∨ j = 1 := by omega
  rcases this with e | e <;> subst e
  · exact Or.inl rfl
  · exact Or.inr rfl
theorem img_no {i : Int32} (h : ¬ (0 ≤ i ∧ i ≤ 1)) : ¬ i = 0 ∧ ¬ i = 1 := ⟨fun z => h (by rw [z]; decide), fun z => h (by rw [z]; decide)⟩
theorem cpy_in {f g : Nat → Int32} {a b : Nat} : ∀ j, j < 55 → cpyF f g a b (b + j) = f (a + j) := by
  intro j hj
  unfold cpyF
  rw [if_pos (by omega), show b + j - b = j by omega]
theorem cpy_in0 {f g : Nat → Int32} {a : Nat} : ∀ j, j < 55 → cpyF f g a 0 j = f (a + j) := by
  intro j hj
  have := cpy_in (f := f) (g := g) (a := a) (b := 0) j hj
  rwa [Nat.zero_add] at this
theorem cpy_out {f g : Nat → Int32} {a b c : Nat} (h : b + 55 ≤ c ∨ c + 55 ≤ b) : ∀ j, j < 55 → cpyF f g a b (c + j) = g (c + j) := by
  intro j hj
  unfold cpyF
  rw [if_neg (by omega)]
theorem relC_keep0 (C : relC S M n k) : relC (zU (zU (zU (zUr S 78 (fun j => if j < 55 then S 26 j else S 78 j)) 77 1 (S 0 11)) 77 2 1) 39 2 0) (zU (zU (zU (zUr M 10 (cpyF (M 8) (M 10) 0 (55 * 0))) 11 0 (M 0 24)) 12 0 1) 0 20 0) n k := by
  have hn := C.1.1.1; have hk := C.1.1.2.1
  have now := relC_now C
  obtain ⟨R, P, T, ⟨i1, i2, i3, i4⟩, ⟨de, nx, h1, h2, h3, h4, h5, h6⟩, f, s, r⟩ := C
  refine ⟨⟨okM_of R.1 rfl rfl rfl rfl rfl, R.2.1, R.2.2.1, R.2.2.2.1, R.2.2.2.2⟩, P, T, ⟨rfl, i2, fun _ => ⟨s, ?_, ?_⟩, fun h => ⟨(i4 h).1, ?_, ?_⟩⟩, ⟨0, nx, by omega, h2, rfl, rfl, h5, fun y hy => absurd hy (by omega)⟩, f, s, r⟩
  · exact rowEq_congr hn hk (fun j hj => if_pos hj) (fun j hj => (cpy_in (a := 0) (b := 0) j hj).trans (by rw [Nat.zero_add])) R.2.2.2.2
  · exact okRow_congr hn hk rfl (fun j hj => (cpy_in (a := 0) (b := 0) j hj).trans (by rw [Nat.zero_add])) now
  · exact rowEq_congr hn hk (fun j hj => rfl) (cpy_out (by omega)) (i4 h).2.1
  · exact okRow_congr hn hk rfl (cpy_out (by omega)) (i4 h).2.2
theorem relC_keep1 (C : relC S M n k) : relC (zU (zU (zU (zUr S 80 (fun j => if j < 55 then S 26 j else S 80 j)) 79 1 (S 0 11)) 79 2 1) 39 2 0) (zU (zU (zU (zUr M 10 (cpyF (M 8) (M 10) 0 (55 * 1))) 11 1 (M 0 24)) 12 1 1) 0 20 0) n k := by
  have hn := C.1.1.1; have hk := C.1.1.2.1
  have now := relC_now C
  obtain ⟨R, P, T, ⟨i1, i2, i3, i4⟩, ⟨de, nx, h1, h2, h3, h4, h5, h6⟩, f, s, r⟩ := C
  refine ⟨⟨okM_of R.1 rfl rfl rfl rfl rfl, R.2.1, R.2.2.1, R.2.2.2.1, R.2.2.2.2⟩, P, T, ⟨i1, rfl, fun h => ⟨(i3 h).1, ?_, ?_⟩, fun _ => ⟨s, ?_, ?_⟩⟩, ⟨0, nx, by omega, h2, rfl, rfl, h5, fun y hy => absurd hy (by omega)⟩, f, s, r⟩
  · exact rowEq_congr hn hk (fun j hj => rfl) (cpy_out (by omega)) (i3 h).2.1
  · exact okRow_congr hn hk rfl (cpy_out (by omega)) (i3 h).2.2
  · exact rowEq_congr hn hk (fun j hj => if_pos hj) (fun j hj => (cpy_in (a := 0) (b := 55) j hj).trans (by rw [Nat.zero_add])) R.2.2.2.2
  · exact okRow_congr hn hk rfl (fun j hj => (cpy_in (a := 0) (b := 55) j hj).trans (by rw [Nat.zero_add])) now
theorem c_keep (C : relC S M n k) {i : Int32} : zRuns gB_keep (d + 2) [.ref 0, .int i] (encC S) (fun v σ' => v = some (.int (pKeep i)) ∧ ∃ S', σ' = encC S' ∧ relC S' (gKeep M i) n k) := by
  refine m_B_keep [] rfl (Nat.le_of_ble_eq_true rfl) ?_
  by_cases h : 0 ≤ i ∧ i ≤ 1
  · rcases img_of h with rfl | rfl
    · refine z_call c_image0 ?_
      refine z_call (c_copyRow (r1 := 26) (r2 := 78) (n1 := 55) (n2 := 55) (f1 := S 26) (f2 := S 78) rfl rfl (by decide) (by decide) (by decide)) ?_
      refine ⟨Or.inr rfl, ?_⟩
      refine z_call (c_forget (S := zU (zU (zUr S 78 (fun j => if j < 55 then S 26 j else S 78 j)) 77 1 (S 0 11)) 77 2 1)) ?_
      exact ⟨by unfold pKeep; rw [if_neg (fun z => z h)], _, rfl, by unfold gKeep; rw [if_neg (fun z => z h), t_0]; exact relC_keep0 C⟩
    · refine z_call c_image1 ?_
      refine z_call (c_copyRow (r1 := 26) (r2 := 80) (n1 := 55) (n2 := 55) (f1 := S 26) (f2 := S 80) rfl rfl (by decide) (by decide) (by decide)) ?_
      refine ⟨Or.inr rfl, ?_⟩
      refine z_call (c_forget (S := zU (zU (zUr S 80 (fun j => if j < 55 then S 26 j else S 80 j)) 79 1 (S 0 11)) 79 2 1)) ?_
      exact ⟨by unfold pKeep; rw [if_neg (fun z => z h)], _, rfl, by unfold gKeep; rw [if_neg (fun z => z h), t_1]; exact relC_keep1 C⟩
  · obtain ⟨h0, h1⟩ := img_no h
    refine z_call (c_image2 h0 h1) ?_
    exact ⟨by unfold pKeep; rw [if_pos h], S, rfl, by unfold gKeep; rw [if_pos h]; exact C⟩
theorem relC_back {c N : Nat → Int32} {v : Int32} (C : relC S M n k) (e : rowEq n k c N) (o : okRow (M 4) n k N) : relC (zU (zU (zUr S 26 c) 0 11 v) 39 2 0) (zU (zU (zUr M 8 N) 0 24 v) 0 20 0) n k := by
  obtain ⟨R, P, T, I, ⟨de, nx, h1, h2, h3, h4, h5, h6⟩, f, s, r⟩ := relC_seed (v := v) (relC_row C e o)
  exact ⟨⟨okM_of R.1 rfl rfl rfl rfl rfl, R.2.1, R.2.2.1, R.2.2.2.1, R.2.2.2.2⟩, P, T, I, ⟨0, nx, by omega, h2, rfl, rfl, h5, fun y hy => absurd hy (by omega)⟩, f, s, r⟩
theorem c_goBack (C : relC S M n k) {i : Int32} : zRuns gB_goBack (d + 2) [.ref 0, .int i] (encC S) (fun v σ' => v = some (.int (pBack M i)) ∧ ∃ S', σ' = encC S' ∧ relC S' (gBack M i) n k) := by
  have C0 := C
  have hn := C.1.1.1; have hk := C.1.1.2.1
  obtain ⟨R, P, T, ⟨i1, i2, i3, i4⟩, -⟩ := C
  refine m_B_goBack [] rfl (Nat.le_of_ble_eq_true rfl) ?_
  by_cases h : 0 ≤ i ∧ i ≤ 1
  · rcases img_of h with rfl | rfl
    · refine z_call c_image0 ?_
      show (S 77 2 = 0 → _) ∧ (¬ S 77 2 = 0 → _)
      rw [i1]
      refine ⟨fun g => ?_, fun g => ?_⟩
      · exact ⟨by unfold pBack; rw [if_neg (fun z => z h), t_0, if_pos g], S, rfl, by unfold gBack; rw [if_neg (fun z => z h), t_0, if_pos g]; exact C0⟩
      obtain ⟨a1, a2, a3⟩ := i3 g
      refine z_call (c_copyRow (r1 := 78) (r2 := 26) (n1 := 55) (n2 := 55) (f1 := S 78) (f2 := S 26) rfl rfl (by decide) (by decide) (by decide)) ?_
      refine z_call (c_forget (S := zU (zUr S 26 (fun j => if j < 55 then S 78 j else S 26 j)) 0 11 (S 77 1))) ?_
      refine ⟨by unfold pBack; rw [if_neg (fun z => z h), t_0, if_neg g], _, rfl, ?_⟩
      unfold gBack
      rw [if_neg (fun z => z h), t_0, if_neg g, a1]
      exact relC_back C0 (rowEq_congr hn hk (fun j hj => if_pos hj) (fun j hj => cpy_in0 (a := 0) j hj) a2) (okRow_congr hn hk rfl (fun j hj => cpy_in0 (a := 0) j hj) a3)
    · refine z_call c_image1 ?_
      show (S 79 2 = 0 → _) ∧ (¬ S 79 2 = 0 → _)
      rw [i2]
      refine ⟨fun g => ?_, fun g => ?_⟩
      · exact ⟨by unfold pBack; rw [if_neg (fun z => z h), t_1, if_pos g], S, rfl, by unfold gBack; rw [if_neg (fun z => z h), t_1, if_pos g]; exact C0⟩
      obtain ⟨a1, a2, a3⟩ := i4 g
      refine z_call (c_copyRow (r1 := 80) (r2 := 26) (n1 := 55) (n2 := 55) (f1 := S 80) (f2 := S 26) rfl rfl (by decide) (by decide) (by decide)) ?_
      refine z_call (c_forget (S := zU (zUr S 26 (fun j => if j < 55 then S 80 j else S 26 j)) 0 11 (S 79 1))) ?_
      refine ⟨by unfold pBack; rw [if_neg (fun z => z h), t_1, if_neg g], _, rfl, ?_⟩
      unfold gBack
      rw [if_neg (fun z => z h), t_1, if_neg g, a1]
      exact relC_back C0 (rowEq_congr hn hk (fun j hj => if_pos hj) (fun j hj => cpy_in0 (a := 55) j hj) a2) (okRow_congr hn hk rfl (fun j hj => cpy_in0 (a := 55) j hj) a3)
  · obtain ⟨h0, h1⟩ := img_no h
    refine z_call (c_image2 h0 h1) ?_
    exact ⟨by unfold pBack; rw [if_pos h], S, rfl, by unfold gBack; rw [if_pos h]; exact C0⟩
end D6
end
section
/-! reading, the reference: where the eye is, and the first fault -/
def lkF (T : Nat → Int32) (t a : Nat) : Int32 := if a < t then T a else -1
def skU (T : Nat → Int32) (t : Nat) : Nat → Nat → Nat
  | 0, a => a
  | f + 1, a => if lkF T t a = 32 then skU T t f (a + 1) else a
def skF (T : Nat → Int32) (t a : Nat) : Nat := skU T t (t - a) a
def isD (x : Int32) : Bool := decide (48 ≤ x ∧ x ≤ 57)
def dgU (T : Nat → Int32) (t : Nat) : Nat → Nat → Nat
  | 0, a => a
  | f + 1, a => if isD (lkF T t a) then dgU T t f (a + 1) else a
def dgF (T : Nat → Int32) (t a : Nat) : Nat := dgU T t (t - a) a
theorem lk_lt {T : Nat → Int32} {t a : Nat} (h : lkF T t a ≠ -1) : a < t := by
  by_cases z : a < t
  · exact z
  · exact absurd (if_neg z) h
theorem skF_t {T : Nat → Int32} {t a : Nat} (h : lkF T t a = 32) : skF T t a = skF T t (a + 1) := by
  have hl : a < t := lk_lt (by rw [h]; decide)
  unfold skF
  rw [show t - a = (t - (a + 1)) + 1 by omega, skU, if_pos h]
theorem skF_f {T : Nat → Int32} {t a : Nat} (h : ¬ lkF T t a = 32) : skF T t a = a := by
  unfold skF
  cases t - a with
  | zero => rfl
  | succ f => rw [skU, if_neg h]
theorem dgF_t {T : Nat → Int32} {t a : Nat} (h : isD (lkF T t a) = true) : dgF T t a = dgF T t (a + 1) := by
  have hl : a < t := lk_lt (by intro z; rw [z] at h; exact absurd h (by decide))
  unfold dgF
  rw [show t - a = (t - (a + 1)) + 1 by omega, dgU, if_pos h]
theorem dgF_f {T : Nat → Int32} {t a : Nat} (h : isD (lkF T t a) = false) : dgF T t a = a := by
  unfold dgF
  cases t - a with
  | zero => rfl
  | succ f => rw [dgU, h]; rfl
theorem skU_r {T : Nat → Int32} {t : Nat} : ∀ f a, a ≤ t → f = t - a → a ≤ skU T t f a ∧ skU T t f a ≤ t
  | 0, a, h, _ => ⟨Nat.le_refl a, h⟩
  | f + 1, a, h, hf => by
    unfold skU
    split
    · have := skU_r (T := T) (t := t) f (a + 1) (by omega) (by omega)
      exact ⟨by omega, this.2⟩
    · exact ⟨Nat.le_refl a, h⟩
theorem skF_r {T : Nat → Int32} {t a : Nat} (h : a ≤ t) : a ≤ skF T t a ∧ skF T t a ≤ t := skU_r _ a h rfl
theorem dgU_r {T : Nat → Int32} {t : Nat} : ∀ f a, a ≤ t → f = t - a → a ≤ dgU T t f a ∧ dgU T t f a ≤ t
  | 0, a, h, _ => ⟨Nat.le_refl a, h⟩
  | f + 1, a, h, hf => by
    unfold dgU
    split
    · have := dgU_r (T := T) (t := t) f (a + 1) (by omega) (by omega)
      exact ⟨by omega, this.2⟩
    · exact ⟨Nat.le_refl a, h⟩
theorem dgF_r {T : Nat → Int32} {t a : Nat} (h : a ≤ t) : a ≤ dgF T t a ∧ dgF T t a ≤ t := dgU_r _ a h rfl
/-- where the eye is; or the first fault, what and where -/
abbrev zCur : Type := Nat ⊕ (Nat × Nat)
def qw : zCur → Int32
  | .inl _ => 0
  | .inr p => nI p.1
def qa : zCur → Int32
  | .inl a => nI a
  | .inr p => nI p.2
def okQ (t : Nat) : zCur → Prop
  | .inl a => a ≤ t
  | .inr p => 1 ≤ p.1 ∧ p.1 ≤ 3 ∧ p.2 ≤ t
def mP (M : zS) (q : zCur) : zS := zU (zU M 0 30 (qw q)) 0 29 (qa q)
theorem qw_bad {t : Nat} {p : Nat × Nat} (h : okQ t (.inr p)) : ¬ qw (.inr p) = 0 := nI_ne0 h.1 (by have := h.2.1; omega)
def skQ (T : Nat → Int32) (t : Nat) : zCur → zCur
  | .inl a => .inl (skF T t a)
  | .inr p => .inr p
def wdQ (T : Nat → Int32) (t : Nat) (w : Int32) : zCur → zCur
  | .inl a => if lkF T t (skF T t a) = w then .inl (skF T t a + 1) else .inr (1, skF T t a)
  | .inr p => .inr p
def valU (T : Nat → Int32) (s : Nat) : Nat → Int32
  | 0 => 0
  | j + 1 => if j < 3 then 10 * valU T s j + T (s + j) - 48 else valU T s j
def nmQ (T : Nat → Int32) (t : Nat) (lo hi : Int32) : zCur → zCur
  | .inl a => if isD (lkF T t (skF T t a)) = false then .inr (1, skF T t a) else
      if dgF T t (skF T t a) - skF T t a ≤ 3 ∧ (lo ≤ valU T (skF T t a) (dgF T t (skF T t a) - skF T t a) ∧ valU T (skF T t a) (dgF T t (skF T t a) - skF T t a) ≤ hi) then .inl (dgF T t (skF T t a)) else .inr (2, skF T t a)
  | .inr p => .inr p
def nmV (T : Nat → Int32) (t : Nat) : zCur → Int32
  | .inl a => valU T (skF T t a) (dgF T t (skF T t a) - skF T t a)
  | .inr _ => 0
theorem wdQ_i {T : Nat → Int32} {t a : Nat} {w : Int32} : wdQ T t w (.inl a) = if lkF T t (skF T t a) = w then .inl (skF T t a + 1) else .inr (1, skF T t a) := rfl
theorem nmQ_i {T : Nat → Int32} {t a : Nat} {lo hi : Int32} : nmQ T t lo hi (.inl a) = if isD (lkF T t (skF T t a)) = false then .inr (1, skF T t a) else
      if dgF T t (skF T t a) - skF T t a ≤ 3 ∧ (lo ≤ valU T (skF T t a) (dgF T t (skF T t a) - skF T t a) ∧ valU T (skF T t a) (dgF T t (skF T t a) - skF T t a) ≤ hi) then .inl (dgF T t (skF T t a)) else .inr (2, skF T t a) := rfl
theorem nmV_i {T : Nat → Int32} {t a : Nat} : nmV T t (.inl a) = valU T (skF T t a) (dgF T t (skF T t a) - skF T t a) := rfl
theorem skQ_ok {T : Nat → Int32} {t : Nat} {q : zCur} (h : okQ t q) : okQ t (skQ T t q) := by
  cases q with
  | inl a => exact (skF_r h).2
  | inr p => exact h
theorem wdQ_ok {T : Nat → Int32} {t : Nat} {w : Int32} {q : zCur} (hw : w ≠ -1) (h : okQ t q) : okQ t (wdQ T t w q) := by
  cases q with
  | inl a =>
    unfold wdQ
    by_cases z : lkF T t (skF T t a) = w
    · simp only [if_pos z]
      exact lk_lt (by rw [z]; exact hw)
    · simp only [if_neg z]
      exact ⟨(by decide : (1 : Nat) ≤ 1), (by decide : (1 : Nat) ≤ 3), (skF_r h).2⟩
  | inr p => exact h
theorem nmQ_ok {T : Nat → Int32} {t : Nat} {lo hi : Int32} {q : zCur} (h : okQ t q) : okQ t (nmQ T t lo hi q) := by
  cases q with
  | inl a =>
    have hs := (skF_r (T := T) h).2
    unfold nmQ
    by_cases z : isD (lkF T t (skF T t a)) = false
    · simp only [if_pos z]
      exact ⟨(by decide : (1 : Nat) ≤ 1), (by decide : (1 : Nat) ≤ 3), hs⟩
    · simp only [if_neg z]
      split
      · exact (dgF_r hs).2
      · exact ⟨(by decide : (1 : Nat) ≤ 2), (by decide : (2 : Nat) ≤ 3), hs⟩
  | inr p => exact h
theorem zU_id {M : zS} {c j : Nat} {v : Int32} (h : M c j = v) : zU M c j v = M := by
  subst h
  funext a b
  by_cases z : a = c
  · subst z
    rw [zU_s]
    by_cases y : b = j
    · subst y; exact upd_s
    · exact upd_n y
  · rw [zU_k z]
theorem zU_zU {M : zS} {c j : Nat} {v w : Int32} : zU (zU M c j v) c j w = zU M c j w := by
  funext a b
  by_cases z : a = c
  · subst z
    rw [zU_s, zU_s, zU_s]
    by_cases y : b = j
    · subst y; rw [upd_s, upd_s]
    · rw [upd_n y, upd_n y, upd_n y]
  · rw [zU_k z, zU_k z, zU_k z]
section P1
variable {d : Nat} {M : zS} {t : Nat}
theorem c_M_look {a : Nat} (ht : t ≤ 230) (h1 : M 0 1 = nI t) (h2 : M 0 29 = nI a) (ha : a ≤ 1000) : zRuns gM_look d [.ref 0] (encM M) (fun v σ' => v = some (.int (lkF (M 1) t a)) ∧ σ' = encM M) := by
  refine m_M_look [] rfl (Nat.le_of_ble_eq_true rfl) ?_
  refine z_le (a := t) (b := a) h1 h2 (by omega) (by omega) (fun q => ?_) (fun q => ?_)
  · exact ⟨by unfold lkF; rw [if_neg (by omega)], rfl⟩
  · refine z_ld (k := a) h2 (by omega) (by decide) ?_
    exact ⟨by unfold lkF; rw [if_pos q], rfl⟩
theorem c_M_skips {a : Nat} (ht : t ≤ 230) (h1 : M 0 1 = nI t) (h2 : M 0 29 = nI a) (ha : a ≤ t) : zRuns gM_skips (d + 1) [.ref 0] (encM M) (fun v σ' => v = none ∧ σ' = encM (zU M 0 29 (nI (skF (M 1) t a)))) := by
  have key : ∀ b, b ≤ t → skF (M 1) t a = skF (M 1) t b → zX gM_skips false pM kM_skips [0] (d + 1) (fun v σ' => v = none ∧ σ' = encM (zU M 0 29 (nI (skF (M 1) t a)))) 400 true 0 (zArgs 1 [.ref 0]) [] (encM (zU M 0 29 (nI b))) 0 0 := by
    refine z_up (P := fun b => skF (M 1) t a = skF (M 1) t b → zX gM_skips false pM kM_skips [0] (d + 1) (fun v σ' => v = none ∧ σ' = encM (zU M 0 29 (nI (skF (M 1) t a)))) 400 true 0 (zArgs 1 [.ref 0]) [] (encM (zU M 0 29 (nI b))) 0 0) t (fun b hb ih he => ?_)
    refine z_call (c_M_look (M := zU M 0 29 (nI b)) (a := b) ht h1 rfl (by omega)) ?_
    refine ⟨fun q => ?_, fun q => ?_⟩
    · have q' : lkF (M 1) t b = 32 := q
      have hl := lk_lt (T := M 1) (t := t) (a := b) (by rw [q']; decide)
      refine ⟨trivial, w_M_skips [0] ?_⟩
      have := ih hl (he.trans (skF_t q'))
      rw [← nI_1] at this
      exact this
    · have q' : ¬ lkF (M 1) t b = 32 := q
      exact ⟨rfl, by rw [he, skF_f q']⟩
  refine m_M_skips [0] rfl (Nat.le_of_ble_eq_true rfl) ?_
  have := key a ha rfl
  rw [zU_id h2] at this
  exact this
theorem c_M_fails {c : Int32} : zRuns gM_fails d [.ref 0, .int c] (encM M) (fun v σ' => v = none ∧ σ' = encM (zU M 0 30 (if M 0 30 = 0 then c else M 0 30))) := by
  refine m_M_fails [] rfl (Nat.le_of_ble_eq_true rfl) ?_
  refine ⟨fun h => ?_, fun h => ?_⟩
  · exact ⟨rfl, by rw [if_pos h]; rfl⟩
  · exact ⟨rfl, by rw [if_neg h]; rfl⟩
theorem c_M_skipsQ {q : zCur} (ht : t ≤ 230) (h1 : M 0 1 = nI t) (hq : okQ t q) : zRuns gM_skipsIfWell (d + 2) [.ref 0] (encM (mP M q)) (fun v σ' => v = none ∧ σ' = encM (mP M (skQ (M 1) t q))) := by
  refine m_M_skipsIfWell [] rfl (Nat.le_of_ble_eq_true rfl) ?_
  cases q with
  | inl a =>
    refine br_t rfl ?_
    refine z_call (c_M_skips (M := mP M (.inl a)) (a := a) ht h1 rfl hq) ?_
    exact ⟨rfl, by unfold mP skQ; rw [zU_zU]; rfl⟩
  | inr p =>
    refine br_f (qw_bad hq) ?_
    exact ⟨rfl, rfl⟩
theorem mP_s {b : Nat} : encM (mP M (.inl (b + 1))) = encM (zU (mP M (.inl b)) 0 29 (nI b + 1)) := by
  rw [nI_1]
  unfold mP
  rw [zU_zU]
  rfl
theorem c_M_word {q : zCur} {w : Int32} (ht : t ≤ 230) (h1 : M 0 1 = nI t) (hq : okQ t q) : zRuns gM_word (d + 2) [.ref 0, .int w] (encM (mP M q)) (fun v σ' => v = none ∧ σ' = encM (mP M (wdQ (M 1) t w q))) := by
  refine m_M_word [] rfl (Nat.le_of_ble_eq_true rfl) ?_
  cases q with
  | inl a =>
    have hs := (skF_r (T := M 1) hq).2
    refine br_t rfl ?_
    refine z_call (σ1 := encM (mP M (.inl (skF (M 1) t a)))) (by
      have := c_M_skips (d := d) (M := mP M (.inl a)) (a := a) ht h1 rfl hq
      unfold mP at this ⊢
      rw [zU_zU] at this
      exact this) ?_
    refine z_call (c_M_look (M := mP M (.inl (skF (M 1) t a))) (a := skF (M 1) t a) ht h1 rfl (by omega)) ?_
    refine ⟨fun h => ?_, fun h => ?_⟩
    · have h' : lkF (M 1) t (skF (M 1) t a) = w := h
      refine ⟨rfl, ?_⟩
      rw [wdQ_i, if_pos h']
      rw [mP_s]
      rfl
    · have h' : ¬ lkF (M 1) t (skF (M 1) t a) = w := h
      refine z_call c_M_fails ?_
      refine ⟨rfl, ?_⟩
      rw [wdQ_i, if_neg h']
      rfl
  | inr p =>
    refine br_f (qw_bad hq) ?_
    exact ⟨rfl, rfl⟩
theorem isD_b {T : Nat → Int32} {t a : Nat} : decide (48 ≤ lkF T t a ∧ lkF T t a ≤ 57) = isD (lkF T t a) := rfl
theorem c_M_number {q : zCur} {lo hi : Int32} (ht : t ≤ 230) (h1 : M 0 1 = nI t) (hq : okQ t q) : zRuns gM_number (d + 2) [.ref 0, .int lo, .int hi] (encM (mP M q)) (fun v σ' => (∃ x, v = some (.int x) ∧ ((∃ a, nmQ (M 1) t lo hi q = .inl a) → x = nmV (M 1) t q)) ∧ σ' = encM (mP M (nmQ (M 1) t lo hi q))) := by
  refine m_M_number [42] rfl (Nat.le_of_ble_eq_true rfl) ?_
  cases q with
  | inr p =>
    refine br_f (qw_bad hq) ?_
    exact ⟨⟨_, rfl, fun ⟨a, h⟩ => by cases h⟩, rfl⟩
  | inl a =>
    have hs := (skF_r (T := M 1) hq).2
    refine br_t rfl ?_
    refine z_call (σ1 := encM (mP M (.inl (skF (M 1) t a)))) (by
      have := c_M_skips (d := d) (M := mP M (.inl a)) (a := a) ht h1 rfl hq
      unfold mP at this ⊢
      rw [zU_zU] at this
      exact this) ?_
    rw [nmQ_i, nmV_i]
    generalize skF (M 1) t a = s at *
    refine z_call (c_M_look (M := mP M (.inl s)) (a := s) ht h1 rfl (by omega)) ?_
    refine z_call c_M_in ?_
    refine z_b (fun h => ?_) (fun h => ?_)
    · have h' : isD (lkF (M 1) t s) = false := h
      refine z_call c_M_fails ?_
      rw [if_pos h']
      exact ⟨⟨_, rfl, fun ⟨a, h⟩ => by cases h⟩, rfl⟩
    have h' : ¬ isD (lkF (M 1) t s) = false := by
      have h'' : isD (lkF (M 1) t s) = true := h
      rw [h'']; decide
    rw [if_neg h']
    have he := dgF_r (T := M 1) hs
    generalize hE : dgF (M 1) t s = e at *
    refine ⟨trivial, ?_⟩
    refine z_up (P := fun b => ∀ y, s ≤ b → dgF (M 1) t s = dgF (M 1) t b → y = valU (M 1) s (b - s) → zGood gM_number (d + 2) (fun v σ' => (∃ x, v = some (.int x) ∧ ((∃ a, (if e - s ≤ 3 ∧ (lo ≤ valU (M 1) s (e - s) ∧ valU (M 1) s (e - s) ≤ hi) then Sum.inl e else Sum.inr (2, s) : zCur) = .inl a) → x = valU (M 1) s (e - s))) ∧ σ' = encM (mP M (if e - s ≤ 3 ∧ (lo ≤ valU (M 1) s (e - s) ∧ valU (M 1) s (e - s) ≤ hi) then Sum.inl e else Sum.inr (2, s)))) 42 [some (.ref 0), some (.int lo), some (.int hi), some (.int (nI s)), some (.int y)] [] (encM (mP M (.inl b))) 0 0) t (fun b hb ih y hsb hdg hy => ?_) s hs 0 (Nat.le_refl s) rfl (by rw [Nat.sub_self]; rfl)
    subst hy
    refine w_M_number [42] ?_
    refine z_call (c_M_look (M := mP M (.inl b)) (a := b) ht h1 rfl (by omega)) ?_
    refine z_call c_M_in ?_
    refine z_b (fun h2 => ?_) (fun h2 => ?_)
    · have h2' : isD (lkF (M 1) t b) = false := h2
      have eb : e = b := by rw [← hE, hdg, dgF_f h2']
      subst eb
      refine z_lt (x := 3) (y := nI e - nI s) (a := 3) (b := e - s) q3 (pk_sub hsb) (by decide) (by omega) (fun h3 => ?_) (fun h3 => ?_)
      · refine z_call (c_M_fails (M := mP M (.inl s))) ?_
        rw [if_neg (fun z => Nat.not_le.mpr h3 z.1)]
        exact ⟨⟨_, rfl, fun ⟨a, h⟩ => by cases h⟩, rfl⟩
      · refine z_call c_M_in ?_
        refine z_dec (fun h4 => ?_) (fun h4 => ?_)
        · refine z_call (c_M_fails (M := mP M (.inl s))) ?_
          rw [if_neg (fun z => h4 z.2)]
          exact ⟨⟨_, rfl, fun ⟨a, h⟩ => by cases h⟩, rfl⟩
        · rw [if_pos ⟨h3, h4⟩]
          exact ⟨⟨_, rfl, fun _ => rfl⟩, rfl⟩
    · have h2' : isD (lkF (M 1) t b) = true := h2
      have hl : b < t := lk_lt (T := M 1) (by intro z; rw [z] at h2'; exact absurd h2' (by decide))
      have go := ih hl
      rw [← dgF_t h2', ← hdg, show b + 1 - s = (b - s) + 1 by omega, valU] at go
      have em : encM (mP M (.inl (b + 1))) = encM (zU (mP M (.inl b)) 0 29 (nI b + 1)) := mP_s
      refine z_le (x := 3) (y := nI b - nI s) (a := 3) (b := b - s) q3 (pk_sub hsb) (by decide) (by omega) (fun h3 => ?_) (fun h3 => ?_)
      · rw [if_neg (by omega), em] at go
        exact ⟨trivial, go _ (by omega) rfl rfl⟩
      · rw [if_pos (by omega), em] at go
        refine z_call (c_M_look (M := mP M (.inl b)) (a := b) ht h1 rfl (by omega)) ?_
        have el : lkF (M 1) t b = M 1 (s + (b - s)) := by
          unfold lkF
          rw [if_pos hl, show s + (b - s) = b by omega]
        refine ⟨trivial, go _ (by omega) rfl ?_⟩
        rw [← el]
        rfl
end P1
end
