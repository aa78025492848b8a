/-- a private method of a class that the tables say can be made, by its rows of tables_1 -/
def lw_okq (q : MethodName × Nat) : Prop := (q.1.cls ≠ "java/lang/invoke/MethodHandle" ∧ q.1.cls ≠ "java/lang/invoke/VarHandle") ∧ Cond.instantiable q.1.cls q.2 ∈ tables_1 ∧ Cond.privateMethod q.1 ∈ tables_1 ∧ Cond.instanceMethod q.1 ∈ tables_1
theorem lw_p0 : lw_okq (⟨"OutByTurns", "comesFromRow", "(II)Z"⟩, 12) := ⟨⟨by decide +kernel, by decide +kernel⟩, List.mem_of_getElem? (i := 20) (by decide +kernel), List.mem_of_getElem? (i := 290) (by decide +kernel), List.mem_of_getElem? (i := 291) (by decide +kernel)⟩
theorem lw_p1 : lw_okq (⟨"OutByTurns$Changes", "forgetFirst", "()V"⟩, 7) := ⟨⟨by decide +kernel, by decide +kernel⟩, List.mem_of_getElem? (i := 46) (by decide +kernel), List.mem_of_getElem? (i := 323) (by decide +kernel), List.mem_of_getElem? (i := 324) (by decide +kernel)⟩
theorem lw_p2 : lw_okq (⟨"OutByTurns$Text", "read", "()I"⟩, 5) := ⟨⟨by decide +kernel, by decide +kernel⟩, List.mem_of_getElem? (i := 74) (by decide +kernel), List.mem_of_getElem? (i := 352) (by decide +kernel), List.mem_of_getElem? (i := 353) (by decide +kernel)⟩
theorem lw_p3 : lw_okq (⟨"OutByTurns$Text", "joined", "(II)I"⟩, 5) := ⟨⟨by decide +kernel, by decide +kernel⟩, List.mem_of_getElem? (i := 74) (by decide +kernel), List.mem_of_getElem? (i := 356) (by decide +kernel), List.mem_of_getElem? (i := 357) (by decide +kernel)⟩
theorem lw_p4 : lw_okq (⟨"OutByTurns$Text", "single", "(I)I"⟩, 5) := ⟨⟨by decide +kernel, by decide +kernel⟩, List.mem_of_getElem? (i := 74) (by decide +kernel), List.mem_of_getElem? (i := 360) (by decide +kernel), List.mem_of_getElem? (i := 361) (by decide +kernel)⟩
theorem lw_p5 : lw_okq (⟨"OutByTurns$Text", "next", "()I"⟩, 5) := ⟨⟨by decide +kernel, by decide +kernel⟩, List.mem_of_getElem? (i := 74) (by decide +kernel), List.mem_of_getElem? (i := 364) (by decide +kernel), List.mem_of_getElem? (i := 365) (by decide +kernel)⟩
theorem lw_p6 : lw_okq (⟨"OutByTurns$Text", "number", "()I"⟩, 5) := ⟨⟨by decide +kernel, by decide +kernel⟩, List.mem_of_getElem? (i := 74) (by decide +kernel), List.mem_of_getElem? (i := 368) (by decide +kernel), List.mem_of_getElem? (i := 369) (by decide +kernel)⟩
theorem lw_p7 : lw_okq (⟨"OutByTurns$Text", "bracketed", "(I)I"⟩, 5) := ⟨⟨by decide +kernel, by decide +kernel⟩, List.mem_of_getElem? (i := 74) (by decide +kernel), List.mem_of_getElem? (i := 461) (by decide +kernel), List.mem_of_getElem? (i := 462) (by decide +kernel)⟩
theorem lw_p8 : lw_okq (⟨"OutByTurns", "yardsCarried", "(I)I"⟩, 12) := ⟨⟨by decide +kernel, by decide +kernel⟩, List.mem_of_getElem? (i := 20) (by decide +kernel), List.mem_of_getElem? (i := 486) (by decide +kernel), List.mem_of_getElem? (i := 487) (by decide +kernel)⟩
theorem lw_p9 : lw_okq (⟨"OutByTurns", "readOrder", "(I)I"⟩, 12) := ⟨⟨by decide +kernel, by decide +kernel⟩, List.mem_of_getElem? (i := 20) (by decide +kernel), List.mem_of_getElem? (i := 514) (by decide +kernel), List.mem_of_getElem? (i := 515) (by decide +kernel)⟩
theorem lw_p10 : lw_okq (⟨"OutByTurns", "weighAll", "()V"⟩, 12) := ⟨⟨by decide +kernel, by decide +kernel⟩, List.mem_of_getElem? (i := 20) (by decide +kernel), List.mem_of_getElem? (i := 538) (by decide +kernel), List.mem_of_getElem? (i := 539) (by decide +kernel)⟩
theorem lw_p11 : lw_okq (⟨"OutByTurns", "way", "()I"⟩, 12) := ⟨⟨by decide +kernel, by decide +kernel⟩, List.mem_of_getElem? (i := 20) (by decide +kernel), List.mem_of_getElem? (i := 553) (by decide +kernel), List.mem_of_getElem? (i := 554) (by decide +kernel)⟩
theorem lw_p12 : lw_okq (⟨"OutByTurns", "lineUp", "(II)V"⟩, 12) := ⟨⟨by decide +kernel, by decide +kernel⟩, List.mem_of_getElem? (i := 20) (by decide +kernel), List.mem_of_getElem? (i := 557) (by decide +kernel), List.mem_of_getElem? (i := 558) (by decide +kernel)⟩
theorem lw_p13 : lw_okq (⟨"OutByTurns", "sendOut", "(III)V"⟩, 12) := ⟨⟨by decide +kernel, by decide +kernel⟩, List.mem_of_getElem? (i := 20) (by decide +kernel), List.mem_of_getElem? (i := 565) (by decide +kernel), List.mem_of_getElem? (i := 566) (by decide +kernel)⟩
theorem lw_p14 : lw_okq (⟨"OutByTurns", "ahead", "(II)I"⟩, 12) := ⟨⟨by decide +kernel, by decide +kernel⟩, List.mem_of_getElem? (i := 20) (by decide +kernel), List.mem_of_getElem? (i := 569) (by decide +kernel), List.mem_of_getElem? (i := 570) (by decide +kernel)⟩
theorem lw_p15 : lw_okq (⟨"OutByTurns", "carriedOf", "(I)I"⟩, 12) := ⟨⟨by decide +kernel, by decide +kernel⟩, List.mem_of_getElem? (i := 20) (by decide +kernel), List.mem_of_getElem? (i := 574) (by decide +kernel), List.mem_of_getElem? (i := 575) (by decide +kernel)⟩
def lw_privs_1 : List (MethodName × Nat) := [(⟨"OutByTurns", "comesFromRow", "(II)Z"⟩, 12), (⟨"OutByTurns$Changes", "forgetFirst", "()V"⟩, 7), (⟨"OutByTurns$Text", "read", "()I"⟩, 5), (⟨"OutByTurns$Text", "joined", "(II)I"⟩, 5), (⟨"OutByTurns$Text", "single", "(I)I"⟩, 5), (⟨"OutByTurns$Text", "next", "()I"⟩, 5), (⟨"OutByTurns$Text", "number", "()I"⟩, 5), (⟨"OutByTurns$Text", "bracketed", "(I)I"⟩, 5), (⟨"OutByTurns", "yardsCarried", "(I)I"⟩, 12), (⟨"OutByTurns", "readOrder", "(I)I"⟩, 12), (⟨"OutByTurns", "weighAll", "()V"⟩, 12), (⟨"OutByTurns", "way", "()I"⟩, 12), (⟨"OutByTurns", "lineUp", "(II)V"⟩, 12), (⟨"OutByTurns", "sendOut", "(III)V"⟩, 12), (⟨"OutByTurns", "ahead", "(II)I"⟩, 12), (⟨"OutByTurns", "carriedOf", "(I)I"⟩, 12)]
theorem lw_r1 : ∀ q ∈ lw_privs_1, lw_okq q := List.forall_mem_cons.mpr ⟨lw_p0, List.forall_mem_cons.mpr ⟨lw_p1, List.forall_mem_cons.mpr ⟨lw_p2, List.forall_mem_cons.mpr ⟨lw_p3, List.forall_mem_cons.mpr ⟨lw_p4, List.forall_mem_cons.mpr ⟨lw_p5, List.forall_mem_cons.mpr ⟨lw_p6, List.forall_mem_cons.mpr ⟨lw_p7, List.forall_mem_cons.mpr ⟨lw_p8, List.forall_mem_cons.mpr ⟨lw_p9, List.forall_mem_cons.mpr ⟨lw_p10, List.forall_mem_cons.mpr ⟨lw_p11, List.forall_mem_cons.mpr ⟨lw_p12, List.forall_mem_cons.mpr ⟨lw_p13, List.forall_mem_cons.mpr ⟨lw_p14, List.forall_mem_cons.mpr ⟨lw_p15, fun _ h => absurd h List.not_mem_nil⟩⟩⟩⟩⟩⟩⟩⟩⟩⟩⟩⟩⟩⟩⟩⟩
theorem lw_p16 : lw_okq (⟨"OutByTurns$Jumps", "wellFrom", "(IZ)I"⟩, 5) := ⟨⟨by decide +kernel, by decide +kernel⟩, List.mem_of_getElem? (i := 126) (by decide +kernel), List.mem_of_getElem? (i := 601) (by decide +kernel), List.mem_of_getElem? (i := 602) (by decide +kernel)⟩
theorem lw_p17 : lw_okq (⟨"OutByTurns", "bestSpot", "()I"⟩, 12) := ⟨⟨by decide +kernel, by decide +kernel⟩, List.mem_of_getElem? (i := 20) (by decide +kernel), List.mem_of_getElem? (i := 621) (by decide +kernel), List.mem_of_getElem? (i := 622) (by decide +kernel)⟩
theorem lw_p18 : lw_okq (⟨"OutByTurns", "inOnePass", "(II)I"⟩, 12) := ⟨⟨by decide +kernel, by decide +kernel⟩, List.mem_of_getElem? (i := 20) (by decide +kernel), List.mem_of_getElem? (i := 655) (by decide +kernel), List.mem_of_getElem? (i := 656) (by decide +kernel)⟩
theorem lw_p19 : lw_okq (⟨"OutByTurns", "goodByBestSpot", "()I"⟩, 12) := ⟨⟨by decide +kernel, by decide +kernel⟩, List.mem_of_getElem? (i := 20) (by decide +kernel), List.mem_of_getElem? (i := 659) (by decide +kernel), List.mem_of_getElem? (i := 660) (by decide +kernel)⟩
theorem lw_p20 : lw_okq (⟨"OutByTurns", "passes", "(I)I"⟩, 12) := ⟨⟨by decide +kernel, by decide +kernel⟩, List.mem_of_getElem? (i := 20) (by decide +kernel), List.mem_of_getElem? (i := 663) (by decide +kernel), List.mem_of_getElem? (i := 664) (by decide +kernel)⟩
theorem lw_p21 : lw_okq (⟨"OutByTurns", "goodIfStopped", "(IIII)I"⟩, 12) := ⟨⟨by decide +kernel, by decide +kernel⟩, List.mem_of_getElem? (i := 20) (by decide +kernel), List.mem_of_getElem? (i := 688) (by decide +kernel), List.mem_of_getElem? (i := 689) (by decide +kernel)⟩
theorem lw_p22 : lw_okq (⟨"OutByTurns", "goodWithout", "(II)I"⟩, 12) := ⟨⟨by decide +kernel, by decide +kernel⟩, List.mem_of_getElem? (i := 20) (by decide +kernel), List.mem_of_getElem? (i := 692) (by decide +kernel), List.mem_of_getElem? (i := 693) (by decide +kernel)⟩
theorem lw_p23 : lw_okq (⟨"OutByTurns", "sticksOf", "(I)I"⟩, 12) := ⟨⟨by decide +kernel, by decide +kernel⟩, List.mem_of_getElem? (i := 20) (by decide +kernel), List.mem_of_getElem? (i := 701) (by decide +kernel), List.mem_of_getElem? (i := 702) (by decide +kernel)⟩
theorem lw_p24 : lw_okq (⟨"OutByTurns", "twelfths", "(II)J"⟩, 12) := ⟨⟨by decide +kernel, by decide +kernel⟩, List.mem_of_getElem? (i := 20) (by decide +kernel), List.mem_of_getElem? (i := 712) (by decide +kernel), List.mem_of_getElem? (i := 713) (by decide +kernel)⟩
theorem lw_p25 : lw_okq (⟨"OutByTurns", "refusalOfPair", "(I)I"⟩, 12) := ⟨⟨by decide +kernel, by decide +kernel⟩, List.mem_of_getElem? (i := 20) (by decide +kernel), List.mem_of_getElem? (i := 729) (by decide +kernel), List.mem_of_getElem? (i := 730) (by decide +kernel)⟩
theorem lw_p26 : lw_okq (⟨"OutByTurns", "firstUnlike", "(III)I"⟩, 12) := ⟨⟨by decide +kernel, by decide +kernel⟩, List.mem_of_getElem? (i := 20) (by decide +kernel), List.mem_of_getElem? (i := 733) (by decide +kernel), List.mem_of_getElem? (i := 734) (by decide +kernel)⟩
theorem lw_p27 : lw_okq (⟨"OutByTurns$Acts", "from", "(IIII)I"⟩, 6) := ⟨⟨by decide +kernel, by decide +kernel⟩, List.mem_of_getElem? (i := 191) (by decide +kernel), List.mem_of_getElem? (i := 863) (by decide +kernel), List.mem_of_getElem? (i := 864) (by decide +kernel)⟩
theorem lw_p28 : lw_okq (⟨"OutByTurns$Acts", "note", "(I)V"⟩, 6) := ⟨⟨by decide +kernel, by decide +kernel⟩, List.mem_of_getElem? (i := 191) (by decide +kernel), List.mem_of_getElem? (i := 874) (by decide +kernel), List.mem_of_getElem? (i := 875) (by decide +kernel)⟩
theorem lw_p29 : lw_okq (⟨"OutByTurns$Acts", "plain", "(III)I"⟩, 6) := ⟨⟨by decide +kernel, by decide +kernel⟩, List.mem_of_getElem? (i := 191) (by decide +kernel), List.mem_of_getElem? (i := 881) (by decide +kernel), List.mem_of_getElem? (i := 882) (by decide +kernel)⟩
theorem lw_p30 : lw_okq (⟨"OutByTurns$Acts", "own", "(III)I"⟩, 6) := ⟨⟨by decide +kernel, by decide +kernel⟩, List.mem_of_getElem? (i := 191) (by decide +kernel), List.mem_of_getElem? (i := 885) (by decide +kernel), List.mem_of_getElem? (i := 886) (by decide +kernel)⟩
theorem lw_p31 : lw_okq (⟨"OutByTurns$Acts", "more", "(IIII)I"⟩, 6) := ⟨⟨by decide +kernel, by decide +kernel⟩, List.mem_of_getElem? (i := 191) (by decide +kernel), List.mem_of_getElem? (i := 889) (by decide +kernel), List.mem_of_getElem? (i := 890) (by decide +kernel)⟩
def lw_privs_2 : List (MethodName × Nat) := [(⟨"OutByTurns$Jumps", "wellFrom", "(IZ)I"⟩, 5), (⟨"OutByTurns", "bestSpot", "()I"⟩, 12), (⟨"OutByTurns", "inOnePass", "(II)I"⟩, 12), (⟨"OutByTurns", "goodByBestSpot", "()I"⟩, 12), (⟨"OutByTurns", "passes", "(I)I"⟩, 12), (⟨"OutByTurns", "goodIfStopped", "(IIII)I"⟩, 12), (⟨"OutByTurns", "goodWithout", "(II)I"⟩, 12), (⟨"OutByTurns", "sticksOf", "(I)I"⟩, 12), (⟨"OutByTurns", "twelfths", "(II)J"⟩, 12), (⟨"OutByTurns", "refusalOfPair", "(I)I"⟩, 12), (⟨"OutByTurns", "firstUnlike", "(III)I"⟩, 12), (⟨"OutByTurns$Acts", "from", "(IIII)I"⟩, 6), (⟨"OutByTurns$Acts", "note", "(I)V"⟩, 6), (⟨"OutByTurns$Acts", "plain", "(III)I"⟩, 6), (⟨"OutByTurns$Acts", "own", "(III)I"⟩, 6), (⟨"OutByTurns$Acts", "more", "(IIII)I"⟩, 6)]
theorem lw_r2 : ∀ q ∈ lw_privs_2, lw_okq q := List.forall_mem_cons.mpr ⟨lw_p16, List.forall_mem_cons.mpr ⟨lw_p17, List.forall_mem_cons.mpr ⟨lw_p18, List.forall_mem_cons.mpr ⟨lw_p19, List.forall_mem_cons.mpr ⟨lw_p20, List.forall_mem_cons.mpr ⟨lw_p21, List.forall_mem_cons.mpr ⟨lw_p22, List.forall_mem_cons.mpr ⟨lw_p23, List.forall_mem_cons.mpr ⟨lw_p24, List.forall_mem_cons.mpr ⟨lw_p25, List.forall_mem_cons.mpr ⟨lw_p26, List.forall_mem_cons.mpr ⟨lw_p27, List.forall_mem_cons.mpr ⟨lw_p28, List.forall_mem_cons.mpr ⟨lw_p29, List.forall_mem_cons.mpr ⟨lw_p30, List.forall_mem_cons.mpr ⟨lw_p31, fun _ h => absurd h List.not_mem_nil⟩⟩⟩⟩⟩⟩⟩⟩⟩⟩⟩⟩⟩⟩⟩⟩
theorem lw_p32 : lw_okq (⟨"OutByTurnsModel", "adds", "(III)V"⟩, 53) := ⟨⟨by decide +kernel, by decide +kernel⟩, List.mem_of_getElem? (i := 974) (by decide +kernel), List.mem_of_getElem? (i := 1160) (by decide +kernel), List.mem_of_getElem? (i := 1161) (by decide +kernel)⟩
theorem lw_p33 : lw_okq (⟨"OutByTurnsModel", "placeOf", "(II)I"⟩, 53) := ⟨⟨by decide +kernel, by decide +kernel⟩, List.mem_of_getElem? (i := 974) (by decide +kernel), List.mem_of_getElem? (i := 1177) (by decide +kernel), List.mem_of_getElem? (i := 1178) (by decide +kernel)⟩
theorem lw_p34 : lw_okq (⟨"OutByTurnsModel", "isJumper", "(J)Z"⟩, 53) := ⟨⟨by decide +kernel, by decide +kernel⟩, List.mem_of_getElem? (i := 974) (by decide +kernel), List.mem_of_getElem? (i := 1182) (by decide +kernel), List.mem_of_getElem? (i := 1183) (by decide +kernel)⟩
theorem lw_p35 : lw_okq (⟨"OutByTurnsModel", "mayBecome", "(II)Z"⟩, 53) := ⟨⟨by decide +kernel, by decide +kernel⟩, List.mem_of_getElem? (i := 974) (by decide +kernel), List.mem_of_getElem? (i := 1188) (by decide +kernel), List.mem_of_getElem? (i := 1189) (by decide +kernel)⟩
theorem lw_p36 : lw_okq (⟨"OutByTurnsModel", "becomes", "(II)I"⟩, 53) := ⟨⟨by decide +kernel, by decide +kernel⟩, List.mem_of_getElem? (i := 974) (by decide +kernel), List.mem_of_getElem? (i := 1201) (by decide +kernel), List.mem_of_getElem? (i := 1202) (by decide +kernel)⟩
theorem lw_p37 : lw_okq (⟨"OutByTurnsModel", "workOut", "(II)I"⟩, 53) := ⟨⟨by decide +kernel, by decide +kernel⟩, List.mem_of_getElem? (i := 974) (by decide +kernel), List.mem_of_getElem? (i := 1218) (by decide +kernel), List.mem_of_getElem? (i := 1219) (by decide +kernel)⟩
theorem lw_p38 : lw_okq (⟨"OutByTurnsModel", "either", "()I"⟩, 53) := ⟨⟨by decide +kernel, by decide +kernel⟩, List.mem_of_getElem? (i := 974) (by decide +kernel), List.mem_of_getElem? (i := 1222) (by decide +kernel), List.mem_of_getElem? (i := 1223) (by decide +kernel)⟩
theorem lw_p39 : lw_okq (⟨"OutByTurnsModel", "both", "()I"⟩, 53) := ⟨⟨by decide +kernel, by decide +kernel⟩, List.mem_of_getElem? (i := 974) (by decide +kernel), List.mem_of_getElem? (i := 1226) (by decide +kernel), List.mem_of_getElem? (i := 1227) (by decide +kernel)⟩
theorem lw_p40 : lw_okq (⟨"OutByTurnsModel", "compared", "()I"⟩, 53) := ⟨⟨by decide +kernel, by decide +kernel⟩, List.mem_of_getElem? (i := 974) (by decide +kernel), List.mem_of_getElem? (i := 1230) (by decide +kernel), List.mem_of_getElem? (i := 1231) (by decide +kernel)⟩
theorem lw_p41 : lw_okq (⟨"OutByTurnsModel", "sums", "()I"⟩, 53) := ⟨⟨by decide +kernel, by decide +kernel⟩, List.mem_of_getElem? (i := 974) (by decide +kernel), List.mem_of_getElem? (i := 1234) (by decide +kernel), List.mem_of_getElem? (i := 1235) (by decide +kernel)⟩
theorem lw_p42 : lw_okq (⟨"OutByTurnsModel", "product", "()I"⟩, 53) := ⟨⟨by decide +kernel, by decide +kernel⟩, List.mem_of_getElem? (i := 974) (by decide +kernel), List.mem_of_getElem? (i := 1238) (by decide +kernel), List.mem_of_getElem? (i := 1239) (by decide +kernel)⟩
theorem lw_p43 : lw_okq (⟨"OutByTurnsModel", "one", "()I"⟩, 53) := ⟨⟨by decide +kernel, by decide +kernel⟩, List.mem_of_getElem? (i := 974) (by decide +kernel), List.mem_of_getElem? (i := 1242) (by decide +kernel), List.mem_of_getElem? (i := 1243) (by decide +kernel)⟩
theorem lw_p44 : lw_okq (⟨"OutByTurnsModel", "byteAt", "()I"⟩, 53) := ⟨⟨by decide +kernel, by decide +kernel⟩, List.mem_of_getElem? (i := 974) (by decide +kernel), List.mem_of_getElem? (i := 1246) (by decide +kernel), List.mem_of_getElem? (i := 1247) (by decide +kernel)⟩
theorem lw_p45 : lw_okq (⟨"OutByTurnsModel", "wrong", "()I"⟩, 53) := ⟨⟨by decide +kernel, by decide +kernel⟩, List.mem_of_getElem? (i := 974) (by decide +kernel), List.mem_of_getElem? (i := 1250) (by decide +kernel), List.mem_of_getElem? (i := 1251) (by decide +kernel)⟩
theorem lw_p46 : lw_okq (⟨"OutByTurnsModel", "takes", "(I)Z"⟩, 53) := ⟨⟨by decide +kernel, by decide +kernel⟩, List.mem_of_getElem? (i := 974) (by decide +kernel), List.mem_of_getElem? (i := 1254) (by decide +kernel), List.mem_of_getElem? (i := 1255) (by decide +kernel)⟩
theorem lw_p47 : lw_okq (⟨"OutByTurnsModel", "carriedBy", "(I)I"⟩, 53) := ⟨⟨by decide +kernel, by decide +kernel⟩, List.mem_of_getElem? (i := 974) (by decide +kernel), List.mem_of_getElem? (i := 1265) (by decide +kernel), List.mem_of_getElem? (i := 1266) (by decide +kernel)⟩
def lw_privs_3 : List (MethodName × Nat) := [(⟨"OutByTurnsModel", "adds", "(III)V"⟩, 53), (⟨"OutByTurnsModel", "placeOf", "(II)I"⟩, 53), (⟨"OutByTurnsModel", "isJumper", "(J)Z"⟩, 53), (⟨"OutByTurnsModel", "mayBecome", "(II)Z"⟩, 53), (⟨"OutByTurnsModel", "becomes", "(II)I"⟩, 53), (⟨"OutByTurnsModel", "workOut", "(II)I"⟩, 53), (⟨"OutByTurnsModel", "either", "()I"⟩, 53), (⟨"OutByTurnsModel", "both", "()I"⟩, 53), (⟨"OutByTurnsModel", "compared", "()I"⟩, 53), (⟨"OutByTurnsModel", "sums", "()I"⟩, 53), (⟨"OutByTurnsModel", "product", "()I"⟩, 53), (⟨"OutByTurnsModel", "one", "()I"⟩, 53), (⟨"OutByTurnsModel", "byteAt", "()I"⟩, 53), (⟨"OutByTurnsModel", "wrong", "()I"⟩, 53), (⟨"OutByTurnsModel", "takes", "(I)Z"⟩, 53), (⟨"OutByTurnsModel", "carriedBy", "(I)I"⟩, 53)]
theorem lw_r3 : ∀ q ∈ lw_privs_3, lw_okq q := List.forall_mem_cons.mpr ⟨lw_p32, List.forall_mem_cons.mpr ⟨lw_p33, List.forall_mem_cons.mpr ⟨lw_p34, List.forall_mem_cons.mpr ⟨lw_p35, List.forall_mem_cons.mpr ⟨lw_p36, List.forall_mem_cons.mpr ⟨lw_p37, List.forall_mem_cons.mpr ⟨lw_p38, List.forall_mem_cons.mpr ⟨lw_p39, List.forall_mem_cons.mpr ⟨lw_p40, List.forall_mem_cons.mpr ⟨lw_p41, List.forall_mem_cons.mpr ⟨lw_p42, List.forall_mem_cons.mpr ⟨lw_p43, List.forall_mem_cons.mpr ⟨lw_p44, List.forall_mem_cons.mpr ⟨lw_p45, List.forall_mem_cons.mpr ⟨lw_p46, List.forall_mem_cons.mpr ⟨lw_p47, fun _ h => absurd h List.not_mem_nil⟩⟩⟩⟩⟩⟩⟩⟩⟩⟩⟩⟩⟩⟩⟩⟩
theorem lw_p48 : lw_okq (⟨"OutByTurnsModel", "ofJumper", "(II)I"⟩, 53) := ⟨⟨by decide +kernel, by decide +kernel⟩, List.mem_of_getElem? (i := 974) (by decide +kernel), List.mem_of_getElem? (i := 1269) (by decide +kernel), List.mem_of_getElem? (i := 1270) (by decide +kernel)⟩
theorem lw_p49 : lw_okq (⟨"OutByTurnsModel", "rowIs", "(II)I"⟩, 53) := ⟨⟨by decide +kernel, by decide +kernel⟩, List.mem_of_getElem? (i := 974) (by decide +kernel), List.mem_of_getElem? (i := 1277) (by decide +kernel), List.mem_of_getElem? (i := 1278) (by decide +kernel)⟩
theorem lw_p50 : lw_okq (⟨"OutByTurnsModel", "takesOrder", "(II)V"⟩, 53) := ⟨⟨by decide +kernel, by decide +kernel⟩, List.mem_of_getElem? (i := 974) (by decide +kernel), List.mem_of_getElem? (i := 1288) (by decide +kernel), List.mem_of_getElem? (i := 1289) (by decide +kernel)⟩
theorem lw_p51 : lw_okq (⟨"OutByTurnsModel", "itemAt", "(II)J"⟩, 53) := ⟨⟨by decide +kernel, by decide +kernel⟩, List.mem_of_getElem? (i := 974) (by decide +kernel), List.mem_of_getElem? (i := 1292) (by decide +kernel), List.mem_of_getElem? (i := 1293) (by decide +kernel)⟩
theorem lw_p52 : lw_okq (⟨"OutByTurnsModel", "counts", "(I)V"⟩, 53) := ⟨⟨by decide +kernel, by decide +kernel⟩, List.mem_of_getElem? (i := 974) (by decide +kernel), List.mem_of_getElem? (i := 1299) (by decide +kernel), List.mem_of_getElem? (i := 1300) (by decide +kernel)⟩
theorem lw_p53 : lw_okq (⟨"OutByTurnsModel", "asksCarried", "()V"⟩, 53) := ⟨⟨by decide +kernel, by decide +kernel⟩, List.mem_of_getElem? (i := 974) (by decide +kernel), List.mem_of_getElem? (i := 1303) (by decide +kernel), List.mem_of_getElem? (i := 1304) (by decide +kernel)⟩
theorem lw_p54 : lw_okq (⟨"OutByTurnsModel", "fills", "(I)V"⟩, 53) := ⟨⟨by decide +kernel, by decide +kernel⟩, List.mem_of_getElem? (i := 974) (by decide +kernel), List.mem_of_getElem? (i := 1310) (by decide +kernel), List.mem_of_getElem? (i := 1311) (by decide +kernel)⟩
theorem lw_p55 : lw_okq (⟨"OutByTurnsModel", "wellMany", "()I"⟩, 53) := ⟨⟨by decide +kernel, by decide +kernel⟩, List.mem_of_getElem? (i := 974) (by decide +kernel), List.mem_of_getElem? (i := 1319) (by decide +kernel), List.mem_of_getElem? (i := 1320) (by decide +kernel)⟩
theorem lw_p56 : lw_okq (⟨"OutByTurnsModel", "isWell", "(I)Z"⟩, 53) := ⟨⟨by decide +kernel, by decide +kernel⟩, List.mem_of_getElem? (i := 974) (by decide +kernel), List.mem_of_getElem? (i := 1323) (by decide +kernel), List.mem_of_getElem? (i := 1324) (by decide +kernel)⟩
theorem lw_p57 : lw_okq (⟨"OutByTurnsModel", "meetMany", "()I"⟩, 53) := ⟨⟨by decide +kernel, by decide +kernel⟩, List.mem_of_getElem? (i := 974) (by decide +kernel), List.mem_of_getElem? (i := 1330) (by decide +kernel), List.mem_of_getElem? (i := 1331) (by decide +kernel)⟩
theorem lw_p58 : lw_okq (⟨"OutByTurnsModel", "meets", "(I)Z"⟩, 53) := ⟨⟨by decide +kernel, by decide +kernel⟩, List.mem_of_getElem? (i := 974) (by decide +kernel), List.mem_of_getElem? (i := 1334) (by decide +kernel), List.mem_of_getElem? (i := 1335) (by decide +kernel)⟩
theorem lw_p59 : lw_okq (⟨"OutByTurnsModel", "goodMany", "()I"⟩, 53) := ⟨⟨by decide +kernel, by decide +kernel⟩, List.mem_of_getElem? (i := 974) (by decide +kernel), List.mem_of_getElem? (i := 1338) (by decide +kernel), List.mem_of_getElem? (i := 1339) (by decide +kernel)⟩
theorem lw_p60 : lw_okq (⟨"OutByTurnsModel", "findsSpot", "()V"⟩, 53) := ⟨⟨by decide +kernel, by decide +kernel⟩, List.mem_of_getElem? (i := 974) (by decide +kernel), List.mem_of_getElem? (i := 1346) (by decide +kernel), List.mem_of_getElem? (i := 1347) (by decide +kernel)⟩
theorem lw_p61 : lw_okq (⟨"OutByTurnsModel", "goodFrom", "(I)I"⟩, 53) := ⟨⟨by decide +kernel, by decide +kernel⟩, List.mem_of_getElem? (i := 974) (by decide +kernel), List.mem_of_getElem? (i := 1350) (by decide +kernel), List.mem_of_getElem? (i := 1351) (by decide +kernel)⟩
theorem lw_p62 : lw_okq (⟨"OutByTurnsModel", "ordersOn", "(III)V"⟩, 53) := ⟨⟨by decide +kernel, by decide +kernel⟩, List.mem_of_getElem? (i := 974) (by decide +kernel), List.mem_of_getElem? (i := 1362) (by decide +kernel), List.mem_of_getElem? (i := 1363) (by decide +kernel)⟩
theorem lw_p63 : lw_okq (⟨"OutByTurnsModel", "passFrom", "(IIII)I"⟩, 53) := ⟨⟨by decide +kernel, by decide +kernel⟩, List.mem_of_getElem? (i := 974) (by decide +kernel), List.mem_of_getElem? (i := 1370) (by decide +kernel), List.mem_of_getElem? (i := 1371) (by decide +kernel)⟩
def lw_privs_4 : List (MethodName × Nat) := [(⟨"OutByTurnsModel", "ofJumper", "(II)I"⟩, 53), (⟨"OutByTurnsModel", "rowIs", "(II)I"⟩, 53), (⟨"OutByTurnsModel", "takesOrder", "(II)V"⟩, 53), (⟨"OutByTurnsModel", "itemAt", "(II)J"⟩, 53), (⟨"OutByTurnsModel", "counts", "(I)V"⟩, 53), (⟨"OutByTurnsModel", "asksCarried", "()V"⟩, 53), (⟨"OutByTurnsModel", "fills", "(I)V"⟩, 53), (⟨"OutByTurnsModel", "wellMany", "()I"⟩, 53), (⟨"OutByTurnsModel", "isWell", "(I)Z"⟩, 53), (⟨"OutByTurnsModel", "meetMany", "()I"⟩, 53), (⟨"OutByTurnsModel", "meets", "(I)Z"⟩, 53), (⟨"OutByTurnsModel", "goodMany", "()I"⟩, 53), (⟨"OutByTurnsModel", "findsSpot", "()V"⟩, 53), (⟨"OutByTurnsModel", "goodFrom", "(I)I"⟩, 53), (⟨"OutByTurnsModel", "ordersOn", "(III)V"⟩, 53), (⟨"OutByTurnsModel", "passFrom", "(IIII)I"⟩, 53)]
theorem lw_r4 : ∀ q ∈ lw_privs_4, lw_okq q := List.forall_mem_cons.mpr ⟨lw_p48, List.forall_mem_cons.mpr ⟨lw_p49, List.forall_mem_cons.mpr ⟨lw_p50, List.forall_mem_cons.mpr ⟨lw_p51, List.forall_mem_cons.mpr ⟨lw_p52, List.forall_mem_cons.mpr ⟨lw_p53, List.forall_mem_cons.mpr ⟨lw_p54, List.forall_mem_cons.mpr ⟨lw_p55, List.forall_mem_cons.mpr ⟨lw_p56, List.forall_mem_cons.mpr ⟨lw_p57, List.forall_mem_cons.mpr ⟨lw_p58, List.forall_mem_cons.mpr ⟨lw_p59, List.forall_mem_cons.mpr ⟨lw_p60, List.forall_mem_cons.mpr ⟨lw_p61, List.forall_mem_cons.mpr ⟨lw_p62, List.forall_mem_cons.mpr ⟨lw_p63, fun _ h => absurd h List.not_mem_nil⟩⟩⟩⟩⟩⟩⟩⟩⟩⟩⟩⟩⟩⟩⟩⟩
theorem lw_p64 : lw_okq (⟨"OutByTurnsModel", "leavesOut", "(I)V"⟩, 53) := ⟨⟨by decide +kernel, by decide +kernel⟩, List.mem_of_getElem? (i := 974) (by decide +kernel), List.mem_of_getElem? (i := 1390) (by decide +kernel), List.mem_of_getElem? (i := 1391) (by decide +kernel)⟩
theorem lw_p65 : lw_okq (⟨"OutByTurnsModel", "soIs", "(I)I"⟩, 53) := ⟨⟨by decide +kernel, by decide +kernel⟩, List.mem_of_getElem? (i := 974) (by decide +kernel), List.mem_of_getElem? (i := 1421) (by decide +kernel), List.mem_of_getElem? (i := 1422) (by decide +kernel)⟩
theorem lw_p66 : lw_okq (⟨"OutByTurnsModel", "firstFalse", "(I)I"⟩, 53) := ⟨⟨by decide +kernel, by decide +kernel⟩, List.mem_of_getElem? (i := 974) (by decide +kernel), List.mem_of_getElem? (i := 1425) (by decide +kernel), List.mem_of_getElem? (i := 1426) (by decide +kernel)⟩
theorem lw_p67 : lw_okq (⟨"OutByTurnsModel", "waysOn", "(IIIII)V"⟩, 53) := ⟨⟨by decide +kernel, by decide +kernel⟩, List.mem_of_getElem? (i := 974) (by decide +kernel), List.mem_of_getElem? (i := 1437) (by decide +kernel), List.mem_of_getElem? (i := 1438) (by decide +kernel)⟩
theorem lw_p68 : lw_okq (⟨"OutByTurnsModel", "hasGone", "(I)Z"⟩, 53) := ⟨⟨by decide +kernel, by decide +kernel⟩, List.mem_of_getElem? (i := 974) (by decide +kernel), List.mem_of_getElem? (i := 1454) (by decide +kernel), List.mem_of_getElem? (i := 1455) (by decide +kernel)⟩
theorem lw_p69 : lw_okq (⟨"OutByTurnsModel", "isBody", "(I)Z"⟩, 53) := ⟨⟨by decide +kernel, by decide +kernel⟩, List.mem_of_getElem? (i := 974) (by decide +kernel), List.mem_of_getElem? (i := 1483) (by decide +kernel), List.mem_of_getElem? (i := 1484) (by decide +kernel)⟩
theorem lw_p70 : lw_okq (⟨"OutByTurnsModel", "goesAs", "(II)I"⟩, 53) := ⟨⟨by decide +kernel, by decide +kernel⟩, List.mem_of_getElem? (i := 974) (by decide +kernel), List.mem_of_getElem? (i := 1487) (by decide +kernel), List.mem_of_getElem? (i := 1488) (by decide +kernel)⟩
theorem lw_p71 : lw_okq (⟨"OutByTurnsModel", "begins", "(I)V"⟩, 53) := ⟨⟨by decide +kernel, by decide +kernel⟩, List.mem_of_getElem? (i := 974) (by decide +kernel), List.mem_of_getElem? (i := 1491) (by decide +kernel), List.mem_of_getElem? (i := 1492) (by decide +kernel)⟩
theorem lw_p72 : lw_okq (⟨"OutByTurnsModel", "fallsAs", "(II)I"⟩, 53) := ⟨⟨by decide +kernel, by decide +kernel⟩, List.mem_of_getElem? (i := 974) (by decide +kernel), List.mem_of_getElem? (i := 1495) (by decide +kernel), List.mem_of_getElem? (i := 1496) (by decide +kernel)⟩
theorem lw_p73 : lw_okq (⟨"OutByTurnsModel", "steersAs", "(II)I"⟩, 53) := ⟨⟨by decide +kernel, by decide +kernel⟩, List.mem_of_getElem? (i := 974) (by decide +kernel), List.mem_of_getElem? (i := 1499) (by decide +kernel), List.mem_of_getElem? (i := 1500) (by decide +kernel)⟩
theorem lw_p74 : lw_okq (⟨"OutByTurnsModel", "tellsAs", "(II)I"⟩, 53) := ⟨⟨by decide +kernel, by decide +kernel⟩, List.mem_of_getElem? (i := 974) (by decide +kernel), List.mem_of_getElem? (i := 1503) (by decide +kernel), List.mem_of_getElem? (i := 1504) (by decide +kernel)⟩
theorem lw_p75 : lw_okq (⟨"OutByTurnsModel", "refusal", "(II)I"⟩, 53) := ⟨⟨by decide +kernel, by decide +kernel⟩, List.mem_of_getElem? (i := 974) (by decide +kernel), List.mem_of_getElem? (i := 1523) (by decide +kernel), List.mem_of_getElem? (i := 1524) (by decide +kernel)⟩
theorem lw_p76 : lw_okq (⟨"OutByTurnsModel", "kindOf", "(I)I"⟩, 53) := ⟨⟨by decide +kernel, by decide +kernel⟩, List.mem_of_getElem? (i := 974) (by decide +kernel), List.mem_of_getElem? (i := 1542) (by decide +kernel), List.mem_of_getElem? (i := 1543) (by decide +kernel)⟩
def lw_privs_5 : List (MethodName × Nat) := [(⟨"OutByTurnsModel", "leavesOut", "(I)V"⟩, 53), (⟨"OutByTurnsModel", "soIs", "(I)I"⟩, 53), (⟨"OutByTurnsModel", "firstFalse", "(I)I"⟩, 53), (⟨"OutByTurnsModel", "waysOn", "(IIIII)V"⟩, 53), (⟨"OutByTurnsModel", "hasGone", "(I)Z"⟩, 53), (⟨"OutByTurnsModel", "isBody", "(I)Z"⟩, 53), (⟨"OutByTurnsModel", "goesAs", "(II)I"⟩, 53), (⟨"OutByTurnsModel", "begins", "(I)V"⟩, 53), (⟨"OutByTurnsModel", "fallsAs", "(II)I"⟩, 53), (⟨"OutByTurnsModel", "steersAs", "(II)I"⟩, 53), (⟨"OutByTurnsModel", "tellsAs", "(II)I"⟩, 53), (⟨"OutByTurnsModel", "refusal", "(II)I"⟩, 53), (⟨"OutByTurnsModel", "kindOf", "(I)I"⟩, 53)]
theorem lw_r5 : ∀ q ∈ lw_privs_5, lw_okq q := List.forall_mem_cons.mpr ⟨lw_p64, List.forall_mem_cons.mpr ⟨lw_p65, List.forall_mem_cons.mpr ⟨lw_p66, List.forall_mem_cons.mpr ⟨lw_p67, List.forall_mem_cons.mpr ⟨lw_p68, List.forall_mem_cons.mpr ⟨lw_p69, List.forall_mem_cons.mpr ⟨lw_p70, List.forall_mem_cons.mpr ⟨lw_p71, List.forall_mem_cons.mpr ⟨lw_p72, List.forall_mem_cons.mpr ⟨lw_p73, List.forall_mem_cons.mpr ⟨lw_p74, List.forall_mem_cons.mpr ⟨lw_p75, List.forall_mem_cons.mpr ⟨lw_p76, fun _ h => absurd h List.not_mem_nil⟩⟩⟩⟩⟩⟩⟩⟩⟩⟩⟩⟩⟩
def lw_privs : List (MethodName × Nat) := lw_privs_1 ++ (lw_privs_2 ++ (lw_privs_3 ++ (lw_privs_4 ++ (lw_privs_5))))
def lw_tbl : List Cond := k2_sels lw_privs ++ tables_1
theorem lw_privs_ok : ∀ q ∈ lw_privs, lw_okq q := by
  show ∀ q ∈ lw_privs_1 ++ (lw_privs_2 ++ (lw_privs_3 ++ (lw_privs_4 ++ (lw_privs_5)))), lw_okq q
  exact List.forall_mem_append.mpr ⟨lw_r1, List.forall_mem_append.mpr ⟨lw_r2, List.forall_mem_append.mpr ⟨lw_r3, List.forall_mem_append.mpr ⟨lw_r4, lw_r5⟩⟩⟩⟩
def RX0 : String := "OutByTurns$Acts"
def TX0 : u_T := fun k => match k with
  | 0 => ("OutByTurns$Acts", "kinds", "[I", true)
  | 1 => ("OutByTurns$Acts", "bodies", "I", false)
  | 2 => ("OutByTurns$Acts", "traced", "[I", true)
  | 3 => ("OutByTurns$Acts", "ran", "I", false)
  | 4 => ("OutByTurns$Acts", "number", "I", false)
  | _ => ("OutByTurns$Acts", "kind", "I", false)
def tyX0 : Nat → FieldType := fun k => match k with
  | 0 => .array .int
  | 1 => .int
  | 2 => .array .int
  | 3 => .int
  | 4 => .int
  | _ => .int
theorem nmX0 : ∀ a, a < 6 → ∀ b, b < 6 → a ≠ b → (TX0 a).2.1 ≠ (TX0 b).2.1 := by decide +kernel
theorem tyX0_ok : ∀ k, k < 6 → parseFieldDescriptor (TX0 k).2.2.1 = some (tyX0 k) := by decide +kernel
abbrev cX0_init : ByteArray := prog_2_method_1_code
def yX0_init : MethodName := ⟨RX0, "<init>", "()V"⟩
abbrev cX0_bodiesKept : ByteArray := prog_2_method_2_code
def yX0_bodiesKept : MethodName := ⟨RX0, "bodiesKept", "()I"⟩
abbrev cX0_bodiesRun : ByteArray := prog_2_method_3_code
def yX0_bodiesRun : MethodName := ⟨RX0, "bodiesRun", "()I"⟩
abbrev cX0_isKind : ByteArray := prog_2_method_4_code
def yX0_isKind : MethodName := ⟨RX0, "isKind", "(I)Z"⟩
abbrev cX0_isBody : ByteArray := prog_2_method_5_code
def yX0_isBody : MethodName := ⟨RX0, "isBody", "(I)Z"⟩
abbrev cX0_newBody : ByteArray := prog_2_method_6_code
def yX0_newBody : MethodName := ⟨RX0, "newBody", "(I)I"⟩
abbrev cX0_kindOf : ByteArray := prog_2_method_7_code
def yX0_kindOf : MethodName := ⟨RX0, "kindOf", "(I)I"⟩
abbrev cX0_isUnder : ByteArray := prog_2_method_8_code
def yX0_isUnder : MethodName := ⟨RX0, "isUnder", "(II)Z"⟩
abbrev cX0_tracedAt : ByteArray := prog_2_method_9_code
def yX0_tracedAt : MethodName := ⟨RX0, "tracedAt", "(I)I"⟩
abbrev cX0_play : ByteArray := prog_2_method_10_code
def yX0_play : MethodName := ⟨RX0, "play", "(III)I"⟩
abbrev cX0_note : ByteArray := prog_2_method_11_code
def yX0_note : MethodName := ⟨RX0, "note", "(I)V"⟩
abbrev cX0_ownBody : ByteArray := prog_2_method_12_code
def yX0_ownBody : MethodName := ⟨RX0, "ownBody", "(II)I"⟩
abbrev cX0_own : ByteArray := prog_2_method_13_code
def yX0_own : MethodName := ⟨RX0, "own", "(III)I"⟩
abbrev cX0_from : ByteArray := prog_2_method_14_code
def yX0_from : MethodName := ⟨RX0, "from", "(IIII)I"⟩
abbrev cX0_ofDrop : ByteArray := prog_2_method_15_code
def yX0_ofDrop : MethodName := ⟨RX0, "ofDrop", "(I)Z"⟩
abbrev cX0_plain : ByteArray := prog_2_method_16_code
def yX0_plain : MethodName := ⟨RX0, "plain", "(III)I"⟩
abbrev cX0_more : ByteArray := prog_2_method_17_code
def yX0_more : MethodName := ⟨RX0, "more", "(IIII)I"⟩
def RX1 : String := "OutByTurns$Changes"
def TX1 : u_T := fun k => match k with
  | 0 => ("OutByTurns$Changes", "numbers", "LOutByTurns$Numbers;", true)
  | 1 => ("OutByTurns$Changes", "who", "[I", true)
  | 2 => ("OutByTurns$Changes", "what", "[I", true)
  | 3 => ("OutByTurns$Changes", "was", "[I", true)
  | 4 => ("OutByTurns$Changes", "became", "[I", true)
  | 5 => ("OutByTurns$Changes", "done", "I", false)
  | _ => ("OutByTurns$Changes", "known", "I", false)
def tyX1 : Nat → FieldType := fun k => match k with
  | 0 => .object "OutByTurns$Numbers"
  | 1 => .array .int
  | 2 => .array .int
  | 3 => .array .int
  | 4 => .array .int
  | 5 => .int
  | _ => .int
theorem nmX1 : ∀ a, a < 7 → ∀ b, b < 7 → a ≠ b → (TX1 a).2.1 ≠ (TX1 b).2.1 := by decide +kernel
theorem tyX1_ok : ∀ k, k < 7 → parseFieldDescriptor (TX1 k).2.2.1 = some (tyX1 k) := by decide +kernel
abbrev cX1_init : ByteArray := prog_3_method_1_code
def yX1_init : MethodName := ⟨RX1, "<init>", "(LOutByTurns$Numbers;)V"⟩
abbrev cX1_undoable : ByteArray := prog_3_method_2_code
def yX1_undoable : MethodName := ⟨RX1, "undoable", "()I"⟩
abbrev cX1_note : ByteArray := prog_3_method_3_code
def yX1_note : MethodName := ⟨RX1, "note", "(III)V"⟩
abbrev cX1_forgetFirst : ByteArray := prog_3_method_4_code
def yX1_forgetFirst : MethodName := ⟨RX1, "forgetFirst", "()V"⟩
abbrev cX1_takeBack : ByteArray := prog_3_method_5_code
def yX1_takeBack : MethodName := ⟨RX1, "takeBack", "()I"⟩
abbrev cX1_makeAgain : ByteArray := prog_3_method_6_code
def yX1_makeAgain : MethodName := ⟨RX1, "makeAgain", "()I"⟩
def RX2 : String := "OutByTurns$Deed"
def TX2 : u_T := fun k => match k with
  | 0 => ("OutByTurns$Deed", "numbers", "LOutByTurns$Numbers;", true)
  | 1 => ("OutByTurns$Deed", "jumps", "LOutByTurns$Jumps;", true)
  | 2 => ("OutByTurns$Deed", "gone", "[Z", true)
  | 3 => ("OutByTurns$Deed", "on", "Z", false)
  | 4 => ("OutByTurns$Deed", "now", "I", false)
  | 5 => ("OutByTurns$Deed", "seconds", "I", false)
  | 6 => ("OutByTurns$Deed", "drops", "I", false)
  | 7 => ("OutByTurns$Deed", "jumped", "I", false)
  | 8 => ("OutByTurns$Deed", "good", "I", false)
  | 9 => ("OutByTurns$Deed", "farthest", "I", false)
  | _ => ("OutByTurns$Deed", "who", "I", false)
def tyX2 : Nat → FieldType := fun k => match k with
  | 0 => .object "OutByTurns$Numbers"
  | 1 => .object "OutByTurns$Jumps"
  | 2 => .array .boolean
  | 3 => .boolean
  | 4 => .int
  | 5 => .int
  | 6 => .int
  | 7 => .int
  | 8 => .int
  | 9 => .int
  | _ => .int
theorem nmX2 : ∀ a, a < 11 → ∀ b, b < 11 → a ≠ b → (TX2 a).2.1 ≠ (TX2 b).2.1 := by decide +kernel
theorem tyX2_ok : ∀ k, k < 11 → parseFieldDescriptor (TX2 k).2.2.1 = some (tyX2 k) := by decide +kernel
abbrev cX2_init : ByteArray := prog_4_method_1_code
def yX2_init : MethodName := ⟨RX2, "<init>", "(LOutByTurns$Numbers;)V"⟩
abbrev cX2_become : ByteArray := prog_4_method_2_code
def yX2_become : MethodName := ⟨RX2, "become", "(LOutByTurns$Deed;)V"⟩
abbrev cX2_drops : ByteArray := prog_4_method_3_code
def yX2_drops : MethodName := ⟨RX2, "drops", "()I"⟩
abbrev cX2_start : ByteArray := prog_4_method_4_code
def yX2_start : MethodName := ⟨RX2, "start", "(I)I"⟩
abbrev cX2_mayGo : ByteArray := prog_4_method_5_code
def yX2_mayGo : MethodName := ⟨RX2, "mayGo", "(I)Z"⟩
abbrev cX2_sendOut : ByteArray := prog_4_method_6_code
def yX2_sendOut : MethodName := ⟨RX2, "sendOut", "(IIII)I"⟩
abbrev cX2_end : ByteArray := prog_4_method_7_code
def yX2_end : MethodName := ⟨RX2, "end", "()I"⟩
abbrev cX2_tally : ByteArray := prog_4_method_8_code
def yX2_tally : MethodName := ⟨RX2, "tally", "(I)I"⟩
def RX3 : String := "OutByTurns$Jumps"
def TX3 : u_T := fun k => match k with
  | 0 => ("OutByTurns$Jumps", "numbers", "LOutByTurns$Numbers;", true)
  | 1 => ("OutByTurns$Jumps", "seconds", "[I", true)
  | 2 => ("OutByTurns$Jumps", "yards", "[I", true)
  | 3 => ("OutByTurns$Jumps", "meets", "[Z", true)
  | _ => ("OutByTurns$Jumps", "size", "I", false)
def tyX3 : Nat → FieldType := fun k => match k with
  | 0 => .object "OutByTurns$Numbers"
  | 1 => .array .int
  | 2 => .array .int
  | 3 => .array .boolean
  | _ => .int
theorem nmX3 : ∀ a, a < 5 → ∀ b, b < 5 → a ≠ b → (TX3 a).2.1 ≠ (TX3 b).2.1 := by decide +kernel
theorem tyX3_ok : ∀ k, k < 5 → parseFieldDescriptor (TX3 k).2.2.1 = some (tyX3 k) := by decide +kernel
abbrev cX3_init : ByteArray := prog_5_method_1_code
def yX3_init : MethodName := ⟨RX3, "<init>", "(LOutByTurns$Numbers;)V"⟩
abbrev cX3_size : ByteArray := prog_5_method_2_code
def yX3_size : MethodName := ⟨RX3, "size", "()I"⟩
abbrev cX3_clear : ByteArray := prog_5_method_3_code
def yX3_clear : MethodName := ⟨RX3, "clear", "()V"⟩
abbrev cX3_become : ByteArray := prog_5_method_4_code
def yX3_become : MethodName := ⟨RX3, "become", "(LOutByTurns$Jumps;)V"⟩
abbrev cX3_join : ByteArray := prog_5_method_5_code
def yX3_join : MethodName := ⟨RX3, "join", "(II)V"⟩
abbrev cX3_downOf : ByteArray := prog_5_method_6_code
def yX3_downOf : MethodName := ⟨RX3, "downOf", "(II)I"⟩
abbrev cX3_meeting : ByteArray := prog_5_method_7_code
def yX3_meeting : MethodName := ⟨RX3, "meeting", "()I"⟩
abbrev cX3_well : ByteArray := prog_5_method_8_code
def yX3_well : MethodName := ⟨RX3, "well", "(I)I"⟩
abbrev cX3_good : ByteArray := prog_5_method_9_code
def yX3_good : MethodName := ⟨RX3, "good", "(I)I"⟩
abbrev cX3_wellFrom : ByteArray := prog_5_method_10_code
def yX3_wellFrom : MethodName := ⟨RX3, "wellFrom", "(IZ)I"⟩
def RX4 : String := "OutByTurns$Numbers"
def TX4 : u_T := fun k => match k with
  | 0 => ("OutByTurns$Numbers", "told", "[I", true)
  | 1 => ("OutByTurns$Numbers", "toldOfJumpers", "[I", true)
  | _ => ("OutByTurns$Numbers", "jumpers", "I", false)
def tyX4 : Nat → FieldType := fun k => match k with
  | 0 => .array .int
  | 1 => .array .int
  | _ => .int
theorem nmX4 : ∀ a, a < 3 → ∀ b, b < 3 → a ≠ b → (TX4 a).2.1 ≠ (TX4 b).2.1 := by decide +kernel
theorem tyX4_ok : ∀ k, k < 3 → parseFieldDescriptor (TX4 k).2.2.1 = some (tyX4 k) := by decide +kernel
abbrev cX4_init : ByteArray := prog_6_method_1_code
def yX4_init : MethodName := ⟨RX4, "<init>", "()V"⟩
abbrev cX4_jumpersThere : ByteArray := prog_6_method_2_code
def yX4_jumpersThere : MethodName := ⟨RX4, "jumpersThere", "()I"⟩
abbrev cX4_isJumper : ByteArray := prog_6_method_3_code
def yX4_isJumper : MethodName := ⟨RX4, "isJumper", "(I)Z"⟩
abbrev cX4_isThere : ByteArray := prog_6_method_4_code
def yX4_isThere : MethodName := ⟨RX4, "isThere", "(II)Z"⟩
abbrev cX4_fits : ByteArray := prog_6_method_5_code
def yX4_fits : MethodName := ⟨RX4, "fits", "(II)Z"⟩
abbrev cX4_told : ByteArray := prog_6_method_6_code
def yX4_told : MethodName := ⟨RX4, "told", "(II)I"⟩
abbrev cX4_tell : ByteArray := prog_6_method_7_code
def yX4_tell : MethodName := ⟨RX4, "tell", "(III)V"⟩
abbrev cX4_welcome : ByteArray := prog_6_method_8_code
def yX4_welcome : MethodName := ⟨RX4, "welcome", "(III)I"⟩
abbrev cX4_fromMiddle : ByteArray := prog_6_method_9_code
def yX4_fromMiddle : MethodName := ⟨RX4, "fromMiddle", "(I)I"⟩
def RX5 : String := "OutByTurns$Order"
def TX5 : u_T := fun k => match k with
  | 0 => ("OutByTurns$Order", "who", "[I", true)
  | _ => ("OutByTurns$Order", "size", "I", false)
def tyX5 : Nat → FieldType := fun k => match k with
  | 0 => .array .int
  | _ => .int
theorem nmX5 : ∀ a, a < 2 → ∀ b, b < 2 → a ≠ b → (TX5 a).2.1 ≠ (TX5 b).2.1 := by decide +kernel
theorem tyX5_ok : ∀ k, k < 2 → parseFieldDescriptor (TX5 k).2.2.1 = some (tyX5 k) := by decide +kernel
abbrev cX5_init : ByteArray := prog_7_method_1_code
def yX5_init : MethodName := ⟨RX5, "<init>", "()V"⟩
abbrev cX5_size : ByteArray := prog_7_method_2_code
def yX5_size : MethodName := ⟨RX5, "size", "()I"⟩
abbrev cX5_clear : ByteArray := prog_7_method_3_code
def yX5_clear : MethodName := ⟨RX5, "clear", "()V"⟩
abbrev cX5_at : ByteArray := prog_7_method_4_code
def yX5_at : MethodName := ⟨RX5, "at", "(I)I"⟩
abbrev cX5_has : ByteArray := prog_7_method_5_code
def yX5_has : MethodName := ⟨RX5, "has", "(I)Z"⟩
abbrev cX5_append : ByteArray := prog_7_method_6_code
def yX5_append : MethodName := ⟨RX5, "append", "(I)V"⟩
abbrev cX5_spell : ByteArray := prog_7_method_7_code
def yX5_spell : MethodName := ⟨RX5, "spell", "(III)Z"⟩
abbrev cX5_power : ByteArray := prog_7_method_8_code
def yX5_power : MethodName := ⟨RX5, "power", "(II)I"⟩
abbrev cX5_asDigits : ByteArray := prog_7_method_9_code
def yX5_asDigits : MethodName := ⟨RX5, "asDigits", "()I"⟩
def RX6 : String := "OutByTurns$Shelves"
def TX6 : u_T := fun k => match k with
  | 0 => ("OutByTurns$Shelves", "held", "[I", true)
  | 1 => ("OutByTurns$Shelves", "sizes", "[I", true)
  | _ => ("OutByTurns$Shelves", "cells", "[J", true)
def tyX6 : Nat → FieldType := fun k => match k with
  | 0 => .array .int
  | 1 => .array .int
  | _ => .array .long
theorem nmX6 : ∀ a, a < 3 → ∀ b, b < 3 → a ≠ b → (TX6 a).2.1 ≠ (TX6 b).2.1 := by decide +kernel
theorem tyX6_ok : ∀ k, k < 3 → parseFieldDescriptor (TX6 k).2.2.1 = some (tyX6 k) := by decide +kernel
abbrev cX6_init : ByteArray := prog_8_method_1_code
def yX6_init : MethodName := ⟨RX6, "<init>", "()V"⟩
abbrev cX6_isThere : ByteArray := prog_8_method_2_code
def yX6_isThere : MethodName := ⟨RX6, "isThere", "(I)Z"⟩
abbrev cX6_holds : ByteArray := prog_8_method_3_code
def yX6_holds : MethodName := ⟨RX6, "holds", "(I)I"⟩
abbrev cX6_size : ByteArray := prog_8_method_4_code
def yX6_size : MethodName := ⟨RX6, "size", "(I)I"⟩
abbrev cX6_refusal : ByteArray := prog_8_method_5_code
def yX6_refusal : MethodName := ⟨RX6, "refusal", "(II)I"⟩
abbrev cX6_refusalOfPlace : ByteArray := prog_8_method_6_code
def yX6_refusalOfPlace : MethodName := ⟨RX6, "refusalOfPlace", "(II)I"⟩
abbrev cX6_lay : ByteArray := prog_8_method_7_code
def yX6_lay : MethodName := ⟨RX6, "lay", "(III)V"⟩
abbrev cX6_cell : ByteArray := prog_8_method_8_code
def yX6_cell : MethodName := ⟨RX6, "cell", "(II)J"⟩
abbrev cX6_set : ByteArray := prog_8_method_9_code
def yX6_set : MethodName := ⟨RX6, "set", "(IIJ)V"⟩
abbrev cX6_lowestBits : ByteArray := prog_8_method_10_code
def yX6_lowestBits : MethodName := ⟨RX6, "lowestBits", "(IJ)J"⟩
abbrev cX6_copy : ByteArray := prog_8_method_11_code
def yX6_copy : MethodName := ⟨RX6, "copy", "(IIIII)I"⟩
abbrev cX6_isStretch : ByteArray := prog_8_method_12_code
def yX6_isStretch : MethodName := ⟨RX6, "isStretch", "(III)Z"⟩
def RX7 : String := "OutByTurns$Text"
def TX7 : u_T := fun k => match k with
  | 0 => ("OutByTurns$Text", "bytes", "[I", true)
  | 1 => ("OutByTurns$Text", "named", "[I", true)
  | 2 => ("OutByTurns$Text", "size", "I", false)
  | 3 => ("OutByTurns$Text", "place", "I", false)
  | _ => ("OutByTurns$Text", "stuck", "Z", false)
def tyX7 : Nat → FieldType := fun k => match k with
  | 0 => .array .int
  | 1 => .array .int
  | 2 => .int
  | 3 => .int
  | _ => .boolean
theorem nmX7 : ∀ a, a < 5 → ∀ b, b < 5 → a ≠ b → (TX7 a).2.1 ≠ (TX7 b).2.1 := by decide +kernel
theorem tyX7_ok : ∀ k, k < 5 → parseFieldDescriptor (TX7 k).2.2.1 = some (tyX7 k) := by decide +kernel
abbrev cX7_init : ByteArray := prog_9_method_1_code
def yX7_init : MethodName := ⟨RX7, "<init>", "()V"⟩
abbrev cX7_size : ByteArray := prog_9_method_2_code
def yX7_size : MethodName := ⟨RX7, "size", "()I"⟩
abbrev cX7_clear : ByteArray := prog_9_method_3_code
def yX7_clear : MethodName := ⟨RX7, "clear", "()V"⟩
abbrev cX7_append : ByteArray := prog_9_method_4_code
def yX7_append : MethodName := ⟨RX7, "append", "(I)I"⟩
abbrev cX7_become : ByteArray := prog_9_method_5_code
def yX7_become : MethodName := ⟨RX7, "become", "(LOutByTurns$Text;)V"⟩
abbrev cX7_fault : ByteArray := prog_9_method_6_code
def yX7_fault : MethodName := ⟨RX7, "fault", "()I"⟩
abbrev cX7_worth : ByteArray := prog_9_method_7_code
def yX7_worth : MethodName := ⟨RX7, "worth", "(IIIIII)I"⟩
abbrev cX7_read : ByteArray := prog_9_method_8_code
def yX7_read : MethodName := ⟨RX7, "read", "()I"⟩
abbrev cX7_next : ByteArray := prog_9_method_9_code
def yX7_next : MethodName := ⟨RX7, "next", "()I"⟩
abbrev cX7_joined : ByteArray := prog_9_method_10_code
def yX7_joined : MethodName := ⟨RX7, "joined", "(II)I"⟩
abbrev cX7_rankOf : ByteArray := prog_9_method_11_code
def yX7_rankOf : MethodName := ⟨RX7, "rankOf", "(I)I"⟩
abbrev cX7_reckoned : ByteArray := prog_9_method_12_code
def yX7_reckoned : MethodName := ⟨RX7, "reckoned", "(III)I"⟩
abbrev cX7_single : ByteArray := prog_9_method_13_code
def yX7_single : MethodName := ⟨RX7, "single", "(I)I"⟩
abbrev cX7_bracketed : ByteArray := prog_9_method_14_code
def yX7_bracketed : MethodName := ⟨RX7, "bracketed", "(I)I"⟩
abbrev cX7_number : ByteArray := prog_9_method_15_code
def yX7_number : MethodName := ⟨RX7, "number", "()I"⟩
def RX8 : String := "OutByTurns"
def TX8 : u_T := fun k => match k with
  | 0 => ("OutByTurns", "numbers", "LOutByTurns$Numbers;", true)
  | 1 => ("OutByTurns", "changes", "LOutByTurns$Changes;", true)
  | 2 => ("OutByTurns", "tape", "LOutByTurns$Text;", true)
  | 3 => ("OutByTurns", "lawText", "LOutByTurns$Text;", true)
  | 4 => ("OutByTurns", "shelves", "LOutByTurns$Shelves;", true)
  | 5 => ("OutByTurns", "order", "LOutByTurns$Order;", true)
  | 6 => ("OutByTurns", "carries", "[I", true)
  | 7 => ("OutByTurns", "jumps", "LOutByTurns$Jumps;", true)
  | 8 => ("OutByTurns", "deed", "LOutByTurns$Deed;", true)
  | 9 => ("OutByTurns", "picture", "LOutByTurns$Deed;", true)
  | 10 => ("OutByTurns", "pictured", "Z", false)
  | _ => ("OutByTurns", "acts", "LOutByTurns$Acts;", true)
def tyX8 : Nat → FieldType := fun k => match k with
  | 0 => .object "OutByTurns$Numbers"
  | 1 => .object "OutByTurns$Changes"
  | 2 => .object "OutByTurns$Text"
  | 3 => .object "OutByTurns$Text"
  | 4 => .object "OutByTurns$Shelves"
  | 5 => .object "OutByTurns$Order"
  | 6 => .array .int
  | 7 => .object "OutByTurns$Jumps"
  | 8 => .object "OutByTurns$Deed"
  | 9 => .object "OutByTurns$Deed"
  | 10 => .boolean
  | _ => .object "OutByTurns$Acts"
theorem nmX8 : ∀ a, a < 12 → ∀ b, b < 12 → a ≠ b → (TX8 a).2.1 ≠ (TX8 b).2.1 := by decide +kernel
theorem tyX8_ok : ∀ k, k < 12 → parseFieldDescriptor (TX8 k).2.2.1 = some (tyX8 k) := by decide +kernel
abbrev cX8_init : ByteArray := prog_1_method_1_code
def yX8_init : MethodName := ⟨RX8, "<init>", "()V"⟩
abbrev cX8_jumper : ByteArray := prog_1_method_2_code
def yX8_jumper : MethodName := ⟨RX8, "jumper", "(II)I"⟩
abbrev cX8_jumpers : ByteArray := prog_1_method_3_code
def yX8_jumpers : MethodName := ⟨RX8, "jumpers", "(III)I"⟩
abbrev cX8_comesFromRow : ByteArray := prog_1_method_4_code
def yX8_comesFromRow : MethodName := ⟨RX8, "comesFromRow", "(II)Z"⟩
abbrev cX8_mend : ByteArray := prog_1_method_5_code
def yX8_mend : MethodName := ⟨RX8, "mend", "(III)I"⟩
abbrev cX8_of : ByteArray := prog_1_method_6_code
def yX8_of : MethodName := ⟨RX8, "of", "(II)I"⟩
abbrev cX8_feed : ByteArray := prog_1_method_7_code
def yX8_feed : MethodName := ⟨RX8, "feed", "(I)I"⟩
abbrev cX8_law : ByteArray := prog_1_method_8_code
def yX8_law : MethodName := ⟨RX8, "law", "()I"⟩
abbrev cX8_carried : ByteArray := prog_1_method_9_code
def yX8_carried : MethodName := ⟨RX8, "carried", "(I)I"⟩
abbrev cX8_yardsCarried : ByteArray := prog_1_method_10_code
def yX8_yardsCarried : MethodName := ⟨RX8, "yardsCarried", "(I)I"⟩
abbrev cX8_steered : ByteArray := prog_1_method_11_code
def yX8_steered : MethodName := ⟨RX8, "steered", "(III)I"⟩
abbrev cX8_isYard : ByteArray := prog_1_method_12_code
def yX8_isYard : MethodName := ⟨RX8, "isYard", "(I)Z"⟩
abbrev cX8_isCount : ByteArray := prog_1_method_13_code
def yX8_isCount : MethodName := ⟨RX8, "isCount", "(I)Z"⟩
abbrev cX8_isSpotAndCount : ByteArray := prog_1_method_14_code
def yX8_isSpotAndCount : MethodName := ⟨RX8, "isSpotAndCount", "(I)Z"⟩
abbrev cX8_spotOf : ByteArray := prog_1_method_15_code
def yX8_spotOf : MethodName := ⟨RX8, "spotOf", "(I)I"⟩
abbrev cX8_countOf : ByteArray := prog_1_method_16_code
def yX8_countOf : MethodName := ⟨RX8, "countOf", "(I)I"⟩
abbrev cX8_isPart : ByteArray := prog_1_method_17_code
def yX8_isPart : MethodName := ⟨RX8, "isPart", "(I)Z"⟩
abbrev cX8_readOrder : ByteArray := prog_1_method_18_code
def yX8_readOrder : MethodName := ⟨RX8, "readOrder", "(I)I"⟩
abbrev cX8_weighAll : ByteArray := prog_1_method_19_code
def yX8_weighAll : MethodName := ⟨RX8, "weighAll", "()V"⟩
abbrev cX8_carriedOf : ByteArray := prog_1_method_20_code
def yX8_carriedOf : MethodName := ⟨RX8, "carriedOf", "(I)I"⟩
abbrev cX8_way : ByteArray := prog_1_method_21_code
def yX8_way : MethodName := ⟨RX8, "way", "()I"⟩
abbrev cX8_ahead : ByteArray := prog_1_method_22_code
def yX8_ahead : MethodName := ⟨RX8, "ahead", "(II)I"⟩
abbrev cX8_sendOut : ByteArray := prog_1_method_23_code
def yX8_sendOut : MethodName := ⟨RX8, "sendOut", "(III)V"⟩
abbrev cX8_lineUp : ByteArray := prog_1_method_24_code
def yX8_lineUp : MethodName := ⟨RX8, "lineUp", "(II)V"⟩
abbrev cX8_goodIfStopped : ByteArray := prog_1_method_25_code
def yX8_goodIfStopped : MethodName := ⟨RX8, "goodIfStopped", "(IIII)I"⟩
abbrev cX8_bestSpot : ByteArray := prog_1_method_26_code
def yX8_bestSpot : MethodName := ⟨RX8, "bestSpot", "()I"⟩
abbrev cX8_goodByBestSpot : ByteArray := prog_1_method_27_code
def yX8_goodByBestSpot : MethodName := ⟨RX8, "goodByBestSpot", "()I"⟩
abbrev cX8_down : ByteArray := prog_1_method_28_code
def yX8_down : MethodName := ⟨RX8, "down", "(III)I"⟩
abbrev cX8_drop : ByteArray := prog_1_method_29_code
def yX8_drop : MethodName := ⟨RX8, "drop", "(III)I"⟩
abbrev cX8_spotFor : ByteArray := prog_1_method_30_code
def yX8_spotFor : MethodName := ⟨RX8, "spotFor", "(III)I"⟩
abbrev cX8_countFor : ByteArray := prog_1_method_31_code
def yX8_countFor : MethodName := ⟨RX8, "countFor", "(III)I"⟩
abbrev cX8_orderFor : ByteArray := prog_1_method_32_code
def yX8_orderFor : MethodName := ⟨RX8, "orderFor", "(II)I"⟩
abbrev cX8_pass : ByteArray := prog_1_method_33_code
def yX8_pass : MethodName := ⟨RX8, "pass", "(III)I"⟩
abbrev cX8_inOnePass : ByteArray := prog_1_method_34_code
def yX8_inOnePass : MethodName := ⟨RX8, "inOnePass", "(II)I"⟩
abbrev cX8_passes : ByteArray := prog_1_method_35_code
def yX8_passes : MethodName := ⟨RX8, "passes", "(I)I"⟩
abbrev cX8_runIn : ByteArray := prog_1_method_36_code
def yX8_runIn : MethodName := ⟨RX8, "runIn", "(II)I"⟩
abbrev cX8_room : ByteArray := prog_1_method_37_code
def yX8_room : MethodName := ⟨RX8, "room", "(I)I"⟩
abbrev cX8_last : ByteArray := prog_1_method_38_code
def yX8_last : MethodName := ⟨RX8, "last", "(II)I"⟩
abbrev cX8_sticks : ByteArray := prog_1_method_39_code
def yX8_sticks : MethodName := ⟨RX8, "sticks", "(IIII)I"⟩
abbrev cX8_goodWithout : ByteArray := prog_1_method_40_code
def yX8_goodWithout : MethodName := ⟨RX8, "goodWithout", "(II)I"⟩
abbrev cX8_sticksOf : ByteArray := prog_1_method_41_code
def yX8_sticksOf : MethodName := ⟨RX8, "sticksOf", "(I)I"⟩
abbrev cX8_lowest : ByteArray := prog_1_method_42_code
def yX8_lowest : MethodName := ⟨RX8, "lowest", "(JJI)J"⟩
abbrev cX8_sure : ByteArray := prog_1_method_43_code
def yX8_sure : MethodName := ⟨RX8, "sure", "(II)J"⟩
abbrev cX8_mean : ByteArray := prog_1_method_44_code
def yX8_mean : MethodName := ⟨RX8, "mean", "(IIII)J"⟩
abbrev cX8_twelfths : ByteArray := prog_1_method_45_code
def yX8_twelfths : MethodName := ⟨RX8, "twelfths", "(II)J"⟩
abbrev cX8_paper : ByteArray := prog_1_method_46_code
def yX8_paper : MethodName := ⟨RX8, "paper", "(I)I"⟩
abbrev cX8_windBy : ByteArray := prog_1_method_47_code
def yX8_windBy : MethodName := ⟨RX8, "windBy", "(II)I"⟩
abbrev cX8_refusalOfPair : ByteArray := prog_1_method_48_code
def yX8_refusalOfPair : MethodName := ⟨RX8, "refusalOfPair", "(I)I"⟩
abbrev cX8_firstUnlike : ByteArray := prog_1_method_49_code
def yX8_firstUnlike : MethodName := ⟨RX8, "firstUnlike", "(III)I"⟩
abbrev cX8_judge : ByteArray := prog_1_method_50_code
def yX8_judge : MethodName := ⟨RX8, "judge", "(II)I"⟩
abbrev cX8_fromWhere : ByteArray := prog_1_method_51_code
def yX8_fromWhere : MethodName := ⟨RX8, "fromWhere", "(II)I"⟩
abbrev cX8_which : ByteArray := prog_1_method_52_code
def yX8_which : MethodName := ⟨RX8, "which", "(III)I"⟩
abbrev cX8_drawn : ByteArray := prog_1_method_53_code
def yX8_drawn : MethodName := ⟨RX8, "drawn", "(IIII)I"⟩
abbrev cX8_begin : ByteArray := prog_1_method_54_code
def yX8_begin : MethodName := ⟨RX8, "begin", "(I)I"⟩
abbrev cX8_go : ByteArray := prog_1_method_55_code
def yX8_go : MethodName := ⟨RX8, "go", "(II)I"⟩
abbrev cX8_over : ByteArray := prog_1_method_56_code
def yX8_over : MethodName := ⟨RX8, "over", "()I"⟩
abbrev cX8_led : ByteArray := prog_1_method_57_code
def yX8_led : MethodName := ⟨RX8, "led", "(I)I"⟩
abbrev cX8_image : ByteArray := prog_1_method_58_code
def yX8_image : MethodName := ⟨RX8, "image", "()I"⟩
abbrev cX8_back : ByteArray := prog_1_method_59_code
def yX8_back : MethodName := ⟨RX8, "back", "()I"⟩
abbrev cX8_undo : ByteArray := prog_1_method_60_code
def yX8_undo : MethodName := ⟨RX8, "undo", "()I"⟩
abbrev cX8_redo : ByteArray := prog_1_method_61_code
def yX8_redo : MethodName := ⟨RX8, "redo", "()I"⟩
abbrev cX8_body : ByteArray := prog_1_method_62_code
def yX8_body : MethodName := ⟨RX8, "body", "(I)I"⟩
abbrev cX8_act : ByteArray := prog_1_method_63_code
def yX8_act : MethodName := ⟨RX8, "act", "(III)I"⟩
abbrev cX8_trace : ByteArray := prog_1_method_64_code
def yX8_trace : MethodName := ⟨RX8, "trace", "(I)I"⟩
abbrev cX8_keep : ByteArray := prog_1_method_65_code
def yX8_keep : MethodName := ⟨RX8, "keep", "(II)I"⟩
abbrev cX8_row : ByteArray := prog_1_method_66_code
def yX8_row : MethodName := ⟨RX8, "row", "(III)I"⟩
abbrev cX8_put : ByteArray := prog_1_method_67_code
def yX8_put : MethodName := ⟨RX8, "put", "(IIJ)I"⟩
abbrev cX8_element : ByteArray := prog_1_method_68_code
def yX8_element : MethodName := ⟨RX8, "element", "(II)J"⟩
abbrev cX8_shift : ByteArray := prog_1_method_69_code
def yX8_shift : MethodName := ⟨RX8, "shift", "(IIIII)I"⟩
abbrev cX8_taken : ByteArray := prog_1_method_70_code
def yX8_taken : MethodName := ⟨RX8, "taken", "(II)I"⟩
abbrev cX8_count : ByteArray := prog_1_method_71_code
def yX8_count : MethodName := ⟨RX8, "count", "(I)I"⟩
def RX9 : String := "OutByTurnsModel"
def TX9 : u_T := fun k => match k with
  | 0 => ("OutByTurnsModel", "may", "[I", true)
  | 1 => ("OutByTurnsModel", "changeAt", "[I", true)
  | 2 => ("OutByTurnsModel", "changeWas", "[I", true)
  | 3 => ("OutByTurnsModel", "changeIs", "[I", true)
  | 4 => ("OutByTurnsModel", "keptMany", "I", false)
  | 5 => ("OutByTurnsModel", "done", "I", false)
  | 6 => ("OutByTurnsModel", "jumpers", "I", false)
  | 7 => ("OutByTurnsModel", "tape", "[I", true)
  | 8 => ("OutByTurnsModel", "tapeMany", "I", false)
  | 9 => ("OutByTurnsModel", "text", "[I", true)
  | 10 => ("OutByTurnsModel", "textMany", "I", false)
  | 11 => ("OutByTurnsModel", "base", "I", false)
  | 12 => ("OutByTurnsModel", "at", "I", false)
  | 13 => ("OutByTurnsModel", "ends", "I", false)
  | 14 => ("OutByTurnsModel", "fault", "I", false)
  | 15 => ("OutByTurnsModel", "opened", "I", false)
  | 16 => ("OutByTurnsModel", "names", "[I", true)
  | 17 => ("OutByTurnsModel", "who", "[I", true)
  | 18 => ("OutByTurnsModel", "when", "[I", true)
  | 19 => ("OutByTurnsModel", "downAt", "[I", true)
  | 20 => ("OutByTurnsModel", "whoMany", "I", false)
  | 21 => ("OutByTurnsModel", "run", "I", false)
  | 22 => ("OutByTurnsModel", "carriedNow", "[I", true)
  | 23 => ("OutByTurnsModel", "bestSpot", "I", false)
  | 24 => ("OutByTurnsModel", "bestGood", "I", false)
  | 25 => ("OutByTurnsModel", "bestOrder", "[I", true)
  | 26 => ("OutByTurnsModel", "waysMany", "I", false)
  | 27 => ("OutByTurnsModel", "firstWay", "I", false)
  | 28 => ("OutByTurnsModel", "isOn", "Z", false)
  | 29 => ("OutByTurnsModel", "onMany", "I", false)
  | 30 => ("OutByTurnsModel", "onYard", "I", false)
  | 31 => ("OutByTurnsModel", "onSecond", "I", false)
  | 32 => ("OutByTurnsModel", "onWho", "[I", true)
  | 33 => ("OutByTurnsModel", "onWhen", "[I", true)
  | 34 => ("OutByTurnsModel", "onDown", "[I", true)
  | 35 => ("OutByTurnsModel", "ledDrops", "I", false)
  | 36 => ("OutByTurnsModel", "ledJumps", "I", false)
  | 37 => ("OutByTurnsModel", "ledGood", "I", false)
  | 38 => ("OutByTurnsModel", "ledFarthest", "I", false)
  | 39 => ("OutByTurnsModel", "ledWho", "I", false)
  | 40 => ("OutByTurnsModel", "isKept", "Z", false)
  | 41 => ("OutByTurnsModel", "imageOn", "Z", false)
  | 42 => ("OutByTurnsModel", "image", "[I", true)
  | 43 => ("OutByTurnsModel", "bodies", "I", false)
  | 44 => ("OutByTurnsModel", "bodyKind", "[I", true)
  | 45 => ("OutByTurnsModel", "trace", "[I", true)
  | 46 => ("OutByTurnsModel", "ran", "I", false)
  | 47 => ("OutByTurnsModel", "ownKind", "I", false)
  | 48 => ("OutByTurnsModel", "ownNumber", "I", false)
  | 49 => ("OutByTurnsModel", "shelf", "[I", true)
  | 50 => ("OutByTurnsModel", "many", "[I", true)
  | 51 => ("OutByTurnsModel", "items", "[J", true)
  | _ => ("OutByTurnsModel", "carried", "[J", true)
def tyX9 : Nat → FieldType := fun k => match k with
  | 0 => .array .int
  | 1 => .array .int
  | 2 => .array .int
  | 3 => .array .int
  | 4 => .int
  | 5 => .int
  | 6 => .int
  | 7 => .array .int
  | 8 => .int
  | 9 => .array .int
  | 10 => .int
  | 11 => .int
  | 12 => .int
  | 13 => .int
  | 14 => .int
  | 15 => .int
  | 16 => .array .int
  | 17 => .array .int
  | 18 => .array .int
  | 19 => .array .int
  | 20 => .int
  | 21 => .int
  | 22 => .array .int
  | 23 => .int
  | 24 => .int
  | 25 => .array .int
  | 26 => .int
  | 27 => .int
  | 28 => .boolean
  | 29 => .int
  | 30 => .int
  | 31 => .int
  | 32 => .array .int
  | 33 => .array .int
  | 34 => .array .int
  | 35 => .int
  | 36 => .int
  | 37 => .int
  | 38 => .int
  | 39 => .int
  | 40 => .boolean
  | 41 => .boolean
  | 42 => .array .int
  | 43 => .int
  | 44 => .array .int
  | 45 => .array .int
  | 46 => .int
  | 47 => .int
  | 48 => .int
  | 49 => .array .int
  | 50 => .array .int
  | 51 => .array .long
  | _ => .array .long
theorem nmX9 : ∀ a, a < 53 → ∀ b, b < 53 → a ≠ b → (TX9 a).2.1 ≠ (TX9 b).2.1 := by decide +kernel
theorem tyX9_ok : ∀ k, k < 53 → parseFieldDescriptor (TX9 k).2.2.1 = some (tyX9 k) := by decide +kernel
abbrev cX9_within : ByteArray := prog_11_method_1_code
def yX9_within : MethodName := ⟨RX9, "within", "(JJJ)Z"⟩
abbrev cX9_sizeOf : ByteArray := prog_11_method_2_code
def yX9_sizeOf : MethodName := ⟨RX9, "sizeOf", "(I)I"⟩
abbrev cX9_isIn : ByteArray := prog_11_method_3_code
def yX9_isIn : MethodName := ⟨RX9, "isIn", "(II)Z"⟩
abbrev cX9_init : ByteArray := prog_11_method_4_code
def yX9_init : MethodName := ⟨RX9, "<init>", "()V"⟩
abbrev cX9_becomes : ByteArray := prog_11_method_5_code
def yX9_becomes : MethodName := ⟨RX9, "becomes", "(II)I"⟩
abbrev cX9_undo : ByteArray := prog_11_method_6_code
def yX9_undo : MethodName := ⟨RX9, "undo", "()I"⟩
abbrev cX9_redo : ByteArray := prog_11_method_7_code
def yX9_redo : MethodName := ⟨RX9, "redo", "()I"⟩
abbrev cX9_isJumper : ByteArray := prog_11_method_8_code
def yX9_isJumper : MethodName := ⟨RX9, "isJumper", "(J)Z"⟩
abbrev cX9_ofJumper : ByteArray := prog_11_method_9_code
def yX9_ofJumper : MethodName := ⟨RX9, "ofJumper", "(II)I"⟩
abbrev cX9_isYard : ByteArray := prog_11_method_10_code
def yX9_isYard : MethodName := ⟨RX9, "isYard", "(I)Z"⟩
abbrev cX9_isOne : ByteArray := prog_11_method_11_code
def yX9_isOne : MethodName := ⟨RX9, "isOne", "(JJJ)Z"⟩
abbrev cX9_adds : ByteArray := prog_11_method_12_code
def yX9_adds : MethodName := ⟨RX9, "adds", "(III)V"⟩
abbrev cX9_jumper : ByteArray := prog_11_method_13_code
def yX9_jumper : MethodName := ⟨RX9, "jumper", "(II)I"⟩
abbrev cX9_jumpers : ByteArray := prog_11_method_14_code
def yX9_jumpers : MethodName := ⟨RX9, "jumpers", "(III)I"⟩
abbrev cX9_placeOf : ByteArray := prog_11_method_15_code
def yX9_placeOf : MethodName := ⟨RX9, "placeOf", "(II)I"⟩
abbrev cX9_mayBecome : ByteArray := prog_11_method_16_code
def yX9_mayBecome : MethodName := ⟨RX9, "mayBecome", "(II)Z"⟩
abbrev cX9_mend : ByteArray := prog_11_method_17_code
def yX9_mend : MethodName := ⟨RX9, "mend", "(III)I"⟩
abbrev cX9_of : ByteArray := prog_11_method_18_code
def yX9_of : MethodName := ⟨RX9, "of", "(II)I"⟩
abbrev cX9_feed : ByteArray := prog_11_method_19_code
def yX9_feed : MethodName := ⟨RX9, "feed", "(I)I"⟩
abbrev cX9_byteAt : ByteArray := prog_11_method_20_code
def yX9_byteAt : MethodName := ⟨RX9, "byteAt", "()I"⟩
abbrev cX9_wrong : ByteArray := prog_11_method_21_code
def yX9_wrong : MethodName := ⟨RX9, "wrong", "()I"⟩
abbrev cX9_takes : ByteArray := prog_11_method_22_code
def yX9_takes : MethodName := ⟨RX9, "takes", "(I)Z"⟩
abbrev cX9_either : ByteArray := prog_11_method_23_code
def yX9_either : MethodName := ⟨RX9, "either", "()I"⟩
abbrev cX9_both : ByteArray := prog_11_method_24_code
def yX9_both : MethodName := ⟨RX9, "both", "()I"⟩
abbrev cX9_compared : ByteArray := prog_11_method_25_code
def yX9_compared : MethodName := ⟨RX9, "compared", "()I"⟩
abbrev cX9_sums : ByteArray := prog_11_method_26_code
def yX9_sums : MethodName := ⟨RX9, "sums", "()I"⟩
abbrev cX9_product : ByteArray := prog_11_method_27_code
def yX9_product : MethodName := ⟨RX9, "product", "()I"⟩
abbrev cX9_nameOf : ByteArray := prog_11_method_28_code
def yX9_nameOf : MethodName := ⟨RX9, "nameOf", "(I)I"⟩
abbrev cX9_one : ByteArray := prog_11_method_29_code
def yX9_one : MethodName := ⟨RX9, "one", "()I"⟩
abbrev cX9_workOut : ByteArray := prog_11_method_30_code
def yX9_workOut : MethodName := ⟨RX9, "workOut", "(II)I"⟩
abbrev cX9_law : ByteArray := prog_11_method_31_code
def yX9_law : MethodName := ⟨RX9, "law", "()I"⟩
abbrev cX9_carriedBy : ByteArray := prog_11_method_32_code
def yX9_carriedBy : MethodName := ⟨RX9, "carriedBy", "(I)I"⟩
abbrev cX9_carried : ByteArray := prog_11_method_33_code
def yX9_carried : MethodName := ⟨RX9, "carried", "(I)I"⟩
abbrev cX9_asksCarried : ByteArray := prog_11_method_34_code
def yX9_asksCarried : MethodName := ⟨RX9, "asksCarried", "()V"⟩
abbrev cX9_fills : ByteArray := prog_11_method_35_code
def yX9_fills : MethodName := ⟨RX9, "fills", "(I)V"⟩
abbrev cX9_isWell : ByteArray := prog_11_method_36_code
def yX9_isWell : MethodName := ⟨RX9, "isWell", "(I)Z"⟩
abbrev cX9_meets : ByteArray := prog_11_method_37_code
def yX9_meets : MethodName := ⟨RX9, "meets", "(I)Z"⟩
abbrev cX9_wellMany : ByteArray := prog_11_method_38_code
def yX9_wellMany : MethodName := ⟨RX9, "wellMany", "()I"⟩
abbrev cX9_meetMany : ByteArray := prog_11_method_39_code
def yX9_meetMany : MethodName := ⟨RX9, "meetMany", "()I"⟩
abbrev cX9_goodMany : ByteArray := prog_11_method_40_code
def yX9_goodMany : MethodName := ⟨RX9, "goodMany", "()I"⟩
abbrev cX9_goodFrom : ByteArray := prog_11_method_41_code
def yX9_goodFrom : MethodName := ⟨RX9, "goodFrom", "(I)I"⟩
abbrev cX9_rowIs : ByteArray := prog_11_method_42_code
def yX9_rowIs : MethodName := ⟨RX9, "rowIs", "(II)I"⟩
abbrev cX9_itemAt : ByteArray := prog_11_method_43_code
def yX9_itemAt : MethodName := ⟨RX9, "itemAt", "(II)J"⟩
abbrev cX9_takesOrder : ByteArray := prog_11_method_44_code
def yX9_takesOrder : MethodName := ⟨RX9, "takesOrder", "(II)V"⟩
abbrev cX9_counts : ByteArray := prog_11_method_45_code
def yX9_counts : MethodName := ⟨RX9, "counts", "(I)V"⟩
abbrev cX9_isCount : ByteArray := prog_11_method_46_code
def yX9_isCount : MethodName := ⟨RX9, "isCount", "(I)Z"⟩
abbrev cX9_isYc : ByteArray := prog_11_method_47_code
def yX9_isYc : MethodName := ⟨RX9, "isYc", "(I)Z"⟩
abbrev cX9_spotOf : ByteArray := prog_11_method_48_code
def yX9_spotOf : MethodName := ⟨RX9, "spotOf", "(I)I"⟩
abbrev cX9_down : ByteArray := prog_11_method_49_code
def yX9_down : MethodName := ⟨RX9, "down", "(III)I"⟩
abbrev cX9_drop : ByteArray := prog_11_method_50_code
def yX9_drop : MethodName := ⟨RX9, "drop", "(III)I"⟩
abbrev cX9_findsSpot : ByteArray := prog_11_method_51_code
def yX9_findsSpot : MethodName := ⟨RX9, "findsSpot", "()V"⟩
abbrev cX9_spotFor : ByteArray := prog_11_method_52_code
def yX9_spotFor : MethodName := ⟨RX9, "spotFor", "(III)I"⟩
abbrev cX9_countFor : ByteArray := prog_11_method_53_code
def yX9_countFor : MethodName := ⟨RX9, "countFor", "(III)I"⟩
abbrev cX9_ordersOn : ByteArray := prog_11_method_54_code
def yX9_ordersOn : MethodName := ⟨RX9, "ordersOn", "(III)V"⟩
abbrev cX9_orderFor : ByteArray := prog_11_method_55_code
def yX9_orderFor : MethodName := ⟨RX9, "orderFor", "(II)I"⟩
abbrev cX9_passFrom : ByteArray := prog_11_method_56_code
def yX9_passFrom : MethodName := ⟨RX9, "passFrom", "(IIII)I"⟩
abbrev cX9_pass : ByteArray := prog_11_method_57_code
def yX9_pass : MethodName := ⟨RX9, "pass", "(III)I"⟩
abbrev cX9_runIn : ByteArray := prog_11_method_58_code
def yX9_runIn : MethodName := ⟨RX9, "runIn", "(II)I"⟩
abbrev cX9_room : ByteArray := prog_11_method_59_code
def yX9_room : MethodName := ⟨RX9, "room", "(I)I"⟩
abbrev cX9_last : ByteArray := prog_11_method_60_code
def yX9_last : MethodName := ⟨RX9, "last", "(II)I"⟩
abbrev cX9_leavesOut : ByteArray := prog_11_method_61_code
def yX9_leavesOut : MethodName := ⟨RX9, "leavesOut", "(I)V"⟩
abbrev cX9_sticks : ByteArray := prog_11_method_62_code
def yX9_sticks : MethodName := ⟨RX9, "sticks", "(IIII)I"⟩
abbrev cX9_commonOf : ByteArray := prog_11_method_63_code
def yX9_commonOf : MethodName := ⟨RX9, "commonOf", "(JJ)J"⟩
abbrev cX9_partOf : ByteArray := prog_11_method_64_code
def yX9_partOf : MethodName := ⟨RX9, "partOf", "(JJI)J"⟩
abbrev cX9_sure : ByteArray := prog_11_method_65_code
def yX9_sure : MethodName := ⟨RX9, "sure", "(II)J"⟩
abbrev cX9_mean : ByteArray := prog_11_method_66_code
def yX9_mean : MethodName := ⟨RX9, "mean", "(IIII)J"⟩
abbrev cX9_paper : ByteArray := prog_11_method_67_code
def yX9_paper : MethodName := ⟨RX9, "paper", "(I)I"⟩
abbrev cX9_windBy : ByteArray := prog_11_method_68_code
def yX9_windBy : MethodName := ⟨RX9, "windBy", "(II)I"⟩
abbrev cX9_firstFalse : ByteArray := prog_11_method_69_code
def yX9_firstFalse : MethodName := ⟨RX9, "firstFalse", "(I)I"⟩
abbrev cX9_soIs : ByteArray := prog_11_method_70_code
def yX9_soIs : MethodName := ⟨RX9, "soIs", "(I)I"⟩
abbrev cX9_judge : ByteArray := prog_11_method_71_code
def yX9_judge : MethodName := ⟨RX9, "judge", "(II)I"⟩
abbrev cX9_fromWhere : ByteArray := prog_11_method_72_code
def yX9_fromWhere : MethodName := ⟨RX9, "fromWhere", "(II)I"⟩
abbrev cX9_waysOn : ByteArray := prog_11_method_73_code
def yX9_waysOn : MethodName := ⟨RX9, "waysOn", "(IIIII)V"⟩
abbrev cX9_which : ByteArray := prog_11_method_74_code
def yX9_which : MethodName := ⟨RX9, "which", "(III)I"⟩
abbrev cX9_drawn : ByteArray := prog_11_method_75_code
def yX9_drawn : MethodName := ⟨RX9, "drawn", "(IIII)I"⟩
abbrev cX9_begin : ByteArray := prog_11_method_76_code
def yX9_begin : MethodName := ⟨RX9, "begin", "(I)I"⟩
abbrev cX9_hasGone : ByteArray := prog_11_method_77_code
def yX9_hasGone : MethodName := ⟨RX9, "hasGone", "(I)Z"⟩
abbrev cX9_go : ByteArray := prog_11_method_78_code
def yX9_go : MethodName := ⟨RX9, "go", "(II)I"⟩
abbrev cX9_over : ByteArray := prog_11_method_79_code
def yX9_over : MethodName := ⟨RX9, "over", "()I"⟩
abbrev cX9_led : ByteArray := prog_11_method_80_code
def yX9_led : MethodName := ⟨RX9, "led", "(I)I"⟩
abbrev cX9_image : ByteArray := prog_11_method_81_code
def yX9_image : MethodName := ⟨RX9, "image", "()I"⟩
abbrev cX9_back : ByteArray := prog_11_method_82_code
def yX9_back : MethodName := ⟨RX9, "back", "()I"⟩
abbrev cX9_isBody : ByteArray := prog_11_method_83_code
def yX9_isBody : MethodName := ⟨RX9, "isBody", "(I)Z"⟩
abbrev cX9_kindOf : ByteArray := prog_11_method_84_code
def yX9_kindOf : MethodName := ⟨RX9, "kindOf", "(I)I"⟩
abbrev cX9_body : ByteArray := prog_11_method_85_code
def yX9_body : MethodName := ⟨RX9, "body", "(I)I"⟩
abbrev cX9_above : ByteArray := prog_11_method_86_code
def yX9_above : MethodName := ⟨RX9, "above", "(I)I"⟩
abbrev cX9_begins : ByteArray := prog_11_method_87_code
def yX9_begins : MethodName := ⟨RX9, "begins", "(I)V"⟩
abbrev cX9_goesAs : ByteArray := prog_11_method_88_code
def yX9_goesAs : MethodName := ⟨RX9, "goesAs", "(II)I"⟩
abbrev cX9_fallsAs : ByteArray := prog_11_method_89_code
def yX9_fallsAs : MethodName := ⟨RX9, "fallsAs", "(II)I"⟩
abbrev cX9_steersAs : ByteArray := prog_11_method_90_code
def yX9_steersAs : MethodName := ⟨RX9, "steersAs", "(II)I"⟩
abbrev cX9_tellsAs : ByteArray := prog_11_method_91_code
def yX9_tellsAs : MethodName := ⟨RX9, "tellsAs", "(II)I"⟩
abbrev cX9_act : ByteArray := prog_11_method_92_code
def yX9_act : MethodName := ⟨RX9, "act", "(III)I"⟩
abbrev cX9_trace : ByteArray := prog_11_method_93_code
def yX9_trace : MethodName := ⟨RX9, "trace", "(I)I"⟩
abbrev cX9_isShelf : ByteArray := prog_11_method_94_code
def yX9_isShelf : MethodName := ⟨RX9, "isShelf", "(I)Z"⟩
abbrev cX9_keep : ByteArray := prog_11_method_95_code
def yX9_keep : MethodName := ⟨RX9, "keep", "(II)I"⟩
abbrev cX9_row : ByteArray := prog_11_method_96_code
def yX9_row : MethodName := ⟨RX9, "row", "(III)I"⟩
abbrev cX9_refusal : ByteArray := prog_11_method_97_code
def yX9_refusal : MethodName := ⟨RX9, "refusal", "(II)I"⟩
abbrev cX9_asSort : ByteArray := prog_11_method_98_code
def yX9_asSort : MethodName := ⟨RX9, "asSort", "(IJ)J"⟩
abbrev cX9_put : ByteArray := prog_11_method_99_code
def yX9_put : MethodName := ⟨RX9, "put", "(IIJ)I"⟩
abbrev cX9_element : ByteArray := prog_11_method_100_code
def yX9_element : MethodName := ⟨RX9, "element", "(II)J"⟩
abbrev cX9_shift : ByteArray := prog_11_method_101_code
def yX9_shift : MethodName := ⟨RX9, "shift", "(IIIII)I"⟩
abbrev cX9_taken : ByteArray := prog_11_method_102_code
def yX9_taken : MethodName := ⟨RX9, "taken", "(II)I"⟩
abbrev cX9_count : ByteArray := prog_11_method_103_code
def yX9_count : MethodName := ⟨RX9, "count", "(I)I"⟩
def RJ0 : String := "java/lang/String"
abbrev cJ0_indexOf_0f7a4 : ByteArray := prog_14_method_79_code
def yJ0_indexOf_0f7a4 : MethodName := ⟨RJ0, "indexOf", "(I)I"⟩
def RJ7 : String := "java/util/Arrays"
abbrev cJ7_rangeCheck_23922 : ByteArray := prog_18_method_30_code
def yJ7_rangeCheck_23922 : MethodName := ⟨RJ7, "rangeCheck", "(III)V"⟩
abbrev cJ7_fill_bad5a : ByteArray := prog_18_method_102_code
def yJ7_fill_bad5a : MethodName := ⟨RJ7, "fill", "([JIIJ)V"⟩
def RL : String := "OutByTurnsLaw"
abbrev vwCl : List vw_C := [(RX0, TX0, 6), (RX1, TX1, 7), (RX2, TX2, 11), (RX3, TX3, 5), (RX4, TX4, 3), (RX5, TX5, 2), (RX6, TX6, 3), (RX7, TX7, 5), (RX8, TX8, 12), (RX9, TX9, 53)]
