section
-- ===== PART A: goes FIRST, ahead of the names: the tables' words, and 'selects' of the private methods out of them =====
/-- a private method of a class that the tables say can be made, by its rows of tables_1 -/
def lw_okq (q : MethodName × Nat) : Prop := (q.1.cls ≠ "java/lang/invoke/MethodHandle" ∧ q.1.cls ≠ "java/lang/invoke/VarHandle") ∧ Cond.instantiable q.1.cls q.2 ∈ tables_1 ∧ Cond.privateMethod q.1 ∈ tables_1 ∧ Cond.instanceMethod q.1 ∈ tables_1
theorem lw_p0 : lw_okq (⟨"LoatheMatch$Rules", "setFirstLaws", "()V"⟩, 9) := ⟨⟨by decide +kernel, by decide +kernel⟩, List.mem_of_getElem? (i := 31) (by decide +kernel), List.mem_of_getElem? (i := 56) (by decide +kernel), List.mem_of_getElem? (i := 57) (by decide +kernel)⟩
theorem lw_p1 : lw_okq (⟨"LoatheMatch", "tapeFour", "(I)V"⟩, 14) := ⟨⟨by decide +kernel, by decide +kernel⟩, List.mem_of_getElem? (i := 23) (by decide +kernel), List.mem_of_getElem? (i := 391) (by decide +kernel), List.mem_of_getElem? (i := 392) (by decide +kernel)⟩
theorem lw_p2 : lw_okq (⟨"LoatheMatch$Reader", "next", "()V"⟩, 10) := ⟨⟨by decide +kernel, by decide +kernel⟩, List.mem_of_getElem? (i := 203) (by decide +kernel), List.mem_of_getElem? (i := 414) (by decide +kernel), List.mem_of_getElem? (i := 415) (by decide +kernel)⟩
theorem lw_p3 : lw_okq (⟨"LoatheMatch$Reader", "readLine", "()Z"⟩, 10) := ⟨⟨by decide +kernel, by decide +kernel⟩, List.mem_of_getElem? (i := 203) (by decide +kernel), List.mem_of_getElem? (i := 509) (by decide +kernel), List.mem_of_getElem? (i := 510) (by decide +kernel)⟩
theorem lw_p4 : lw_okq (⟨"LoatheMatch$Reader", "isWord", "(Ljava/lang/String;)Z"⟩, 10) := ⟨⟨by decide +kernel, by decide +kernel⟩, List.mem_of_getElem? (i := 203) (by decide +kernel), List.mem_of_getElem? (i := 514) (by decide +kernel), List.mem_of_getElem? (i := 515) (by decide +kernel)⟩
theorem lw_p5 : lw_okq (⟨"LoatheMatch$Reader", "readThing", "()Z"⟩, 10) := ⟨⟨by decide +kernel, by decide +kernel⟩, List.mem_of_getElem? (i := 203) (by decide +kernel), List.mem_of_getElem? (i := 539) (by decide +kernel), List.mem_of_getElem? (i := 540) (by decide +kernel)⟩
theorem lw_p6 : lw_okq (⟨"LoatheMatch$Reader", "blame", "(I)Z"⟩, 10) := ⟨⟨by decide +kernel, by decide +kernel⟩, List.mem_of_getElem? (i := 203) (by decide +kernel), List.mem_of_getElem? (i := 543) (by decide +kernel), List.mem_of_getElem? (i := 544) (by decide +kernel)⟩
theorem lw_p7 : lw_okq (⟨"LoatheMatch$Reader", "readNumber", "(II)I"⟩, 10) := ⟨⟨by decide +kernel, by decide +kernel⟩, List.mem_of_getElem? (i := 203) (by decide +kernel), List.mem_of_getElem? (i := 548) (by decide +kernel), List.mem_of_getElem? (i := 549) (by decide +kernel)⟩
theorem lw_p8 : lw_okq (⟨"LoatheMatch$Reader", "refuse", "()Z"⟩, 10) := ⟨⟨by decide +kernel, by decide +kernel⟩, List.mem_of_getElem? (i := 203) (by decide +kernel), List.mem_of_getElem? (i := 552) (by decide +kernel), List.mem_of_getElem? (i := 553) (by decide +kernel)⟩
theorem lw_p9 : lw_okq (⟨"LoatheMatch$Reader", "readPerson", "()Z"⟩, 10) := ⟨⟨by decide +kernel, by decide +kernel⟩, List.mem_of_getElem? (i := 203) (by decide +kernel), List.mem_of_getElem? (i := 557) (by decide +kernel), List.mem_of_getElem? (i := 558) (by decide +kernel)⟩
theorem lw_p10 : lw_okq (⟨"LoatheMatch$Reader", "passWord", "(Ljava/lang/String;)Z"⟩, 10) := ⟨⟨by decide +kernel, by decide +kernel⟩, List.mem_of_getElem? (i := 203) (by decide +kernel), List.mem_of_getElem? (i := 562) (by decide +kernel), List.mem_of_getElem? (i := 563) (by decide +kernel)⟩
theorem lw_p11 : lw_okq (⟨"LoatheMatch$Reader", "readThings", "()I"⟩, 10) := ⟨⟨by decide +kernel, by decide +kernel⟩, List.mem_of_getElem? (i := 203) (by decide +kernel), List.mem_of_getElem? (i := 567) (by decide +kernel), List.mem_of_getElem? (i := 568) (by decide +kernel)⟩
theorem lw_p12 : lw_okq (⟨"LoatheMatch$Reader", "pass", "(I)Z"⟩, 10) := ⟨⟨by decide +kernel, by decide +kernel⟩, List.mem_of_getElem? (i := 203) (by decide +kernel), List.mem_of_getElem? (i := 577) (by decide +kernel), List.mem_of_getElem? (i := 578) (by decide +kernel)⟩
theorem lw_p13 : lw_okq (⟨"LoatheMatch$Reader", "readSum", "(I)Z"⟩, 10) := ⟨⟨by decide +kernel, by decide +kernel⟩, List.mem_of_getElem? (i := 203) (by decide +kernel), List.mem_of_getElem? (i := 581) (by decide +kernel), List.mem_of_getElem? (i := 582) (by decide +kernel)⟩
theorem lw_p14 : lw_okq (⟨"LoatheMatch$Reader", "readTerm", "(I)Z"⟩, 10) := ⟨⟨by decide +kernel, by decide +kernel⟩, List.mem_of_getElem? (i := 203) (by decide +kernel), List.mem_of_getElem? (i := 585) (by decide +kernel), List.mem_of_getElem? (i := 586) (by decide +kernel)⟩
theorem lw_p15 : lw_okq (⟨"LoatheMatch$Reader", "readAtom", "(I)Z"⟩, 10) := ⟨⟨by decide +kernel, by decide +kernel⟩, List.mem_of_getElem? (i := 203) (by decide +kernel), List.mem_of_getElem? (i := 589) (by decide +kernel), List.mem_of_getElem? (i := 590) (by decide +kernel)⟩
def lw_privs_1 : List (MethodName × Nat) := [(⟨"LoatheMatch$Rules", "setFirstLaws", "()V"⟩, 9), (⟨"LoatheMatch", "tapeFour", "(I)V"⟩, 14), (⟨"LoatheMatch$Reader", "next", "()V"⟩, 10), (⟨"LoatheMatch$Reader", "readLine", "()Z"⟩, 10), (⟨"LoatheMatch$Reader", "isWord", "(Ljava/lang/String;)Z"⟩, 10), (⟨"LoatheMatch$Reader", "readThing", "()Z"⟩, 10), (⟨"LoatheMatch$Reader", "blame", "(I)Z"⟩, 10), (⟨"LoatheMatch$Reader", "readNumber", "(II)I"⟩, 10), (⟨"LoatheMatch$Reader", "refuse", "()Z"⟩, 10), (⟨"LoatheMatch$Reader", "readPerson", "()Z"⟩, 10), (⟨"LoatheMatch$Reader", "passWord", "(Ljava/lang/String;)Z"⟩, 10), (⟨"LoatheMatch$Reader", "readThings", "()I"⟩, 10), (⟨"LoatheMatch$Reader", "pass", "(I)Z"⟩, 10), (⟨"LoatheMatch$Reader", "readSum", "(I)Z"⟩, 10), (⟨"LoatheMatch$Reader", "readTerm", "(I)Z"⟩, 10), (⟨"LoatheMatch$Reader", "readAtom", "(I)Z"⟩, 10)]
theorem lw_r1 : ∀ q ∈ lw_privs_1, lw_okq q := List.forall_mem_cons.mpr ⟨lw_p0, List.forall_mem_cons.mpr ⟨lw_p1, List.forall_mem_cons.mpr ⟨lw_p2, List.forall_mem_cons.mpr ⟨lw_p3, List.forall_mem_cons.mpr ⟨lw_p4, List.forall_mem_cons.mpr ⟨lw_p5, List.forall_mem_cons.mpr ⟨lw_p6, List.forall_mem_cons.mpr ⟨lw_p7, List.forall_mem_cons.mpr ⟨lw_p8, List.forall_mem_cons.mpr ⟨lw_p9, List.forall_mem_cons.mpr ⟨lw_p10, List.forall_mem_cons.mpr ⟨lw_p11, List.forall_mem_cons.mpr ⟨lw_p12, List.forall_mem_cons.mpr ⟨lw_p13, List.forall_mem_cons.mpr ⟨lw_p14, List.forall_mem_cons.mpr ⟨lw_p15, fun _ h => absurd h List.not_mem_nil⟩⟩⟩⟩⟩⟩⟩⟩⟩⟩⟩⟩⟩⟩⟩⟩
theorem lw_p16 : lw_okq (⟨"LoatheMatch$Reader", "goDeeper", "(I)Z"⟩, 10) := ⟨⟨by decide +kernel, by decide +kernel⟩, List.mem_of_getElem? (i := 203) (by decide +kernel), List.mem_of_getElem? (i := 593) (by decide +kernel), List.mem_of_getElem? (i := 594) (by decide +kernel)⟩
theorem lw_p17 : lw_okq (⟨"LoatheMatch$Reader", "termWord", "()I"⟩, 10) := ⟨⟨by decide +kernel, by decide +kernel⟩, List.mem_of_getElem? (i := 203) (by decide +kernel), List.mem_of_getElem? (i := 598) (by decide +kernel), List.mem_of_getElem? (i := 599) (by decide +kernel)⟩
theorem lw_p18 : lw_okq (⟨"LoatheMatch$Reader", "readTruth", "(I)Z"⟩, 10) := ⟨⟨by decide +kernel, by decide +kernel⟩, List.mem_of_getElem? (i := 203) (by decide +kernel), List.mem_of_getElem? (i := 611) (by decide +kernel), List.mem_of_getElem? (i := 612) (by decide +kernel)⟩
theorem lw_p19 : lw_okq (⟨"LoatheMatch$Reader", "readBoth", "(I)Z"⟩, 10) := ⟨⟨by decide +kernel, by decide +kernel⟩, List.mem_of_getElem? (i := 203) (by decide +kernel), List.mem_of_getElem? (i := 615) (by decide +kernel), List.mem_of_getElem? (i := 616) (by decide +kernel)⟩
theorem lw_p20 : lw_okq (⟨"LoatheMatch$Reader", "readUnit", "(I)Z"⟩, 10) := ⟨⟨by decide +kernel, by decide +kernel⟩, List.mem_of_getElem? (i := 203) (by decide +kernel), List.mem_of_getElem? (i := 619) (by decide +kernel), List.mem_of_getElem? (i := 620) (by decide +kernel)⟩
theorem lw_p21 : lw_okq (⟨"LoatheMatch$Reader", "comparison", "()I"⟩, 10) := ⟨⟨by decide +kernel, by decide +kernel⟩, List.mem_of_getElem? (i := 203) (by decide +kernel), List.mem_of_getElem? (i := 624) (by decide +kernel), List.mem_of_getElem? (i := 625) (by decide +kernel)⟩
theorem lw_p22 : lw_okq (⟨"LoatheMatch$World", "hasRoom", "(I)Z"⟩, 4) := ⟨⟨by decide +kernel, by decide +kernel⟩, List.mem_of_getElem? (i := 176) (by decide +kernel), List.mem_of_getElem? (i := 785) (by decide +kernel), List.mem_of_getElem? (i := 786) (by decide +kernel)⟩
theorem lw_p23 : lw_okq (⟨"LoatheMatch$World", "growOlder", "(I)I"⟩, 4) := ⟨⟨by decide +kernel, by decide +kernel⟩, List.mem_of_getElem? (i := 176) (by decide +kernel), List.mem_of_getElem? (i := 818) (by decide +kernel), List.mem_of_getElem? (i := 819) (by decide +kernel)⟩
theorem lw_p24 : lw_okq (⟨"LoatheMatch$World", "exchange", "(II)V"⟩, 4) := ⟨⟨by decide +kernel, by decide +kernel⟩, List.mem_of_getElem? (i := 176) (by decide +kernel), List.mem_of_getElem? (i := 822) (by decide +kernel), List.mem_of_getElem? (i := 823) (by decide +kernel)⟩
theorem lw_p25 : lw_okq (⟨"LoatheMatch$World", "wish", "(II)I"⟩, 4) := ⟨⟨by decide +kernel, by decide +kernel⟩, List.mem_of_getElem? (i := 176) (by decide +kernel), List.mem_of_getElem? (i := 826) (by decide +kernel), List.mem_of_getElem? (i := 827) (by decide +kernel)⟩
theorem lw_p26 : lw_okq (⟨"LoatheMatch", "rehearse", "(LLoatheMatch$Tray;)I"⟩, 14) := ⟨⟨by decide +kernel, by decide +kernel⟩, List.mem_of_getElem? (i := 23) (by decide +kernel), List.mem_of_getElem? (i := 849) (by decide +kernel), List.mem_of_getElem? (i := 850) (by decide +kernel)⟩
theorem lw_p27 : lw_okq (⟨"LoatheMatch$World", "attemptMarriage", "(II)I"⟩, 4) := ⟨⟨by decide +kernel, by decide +kernel⟩, List.mem_of_getElem? (i := 176) (by decide +kernel), List.mem_of_getElem? (i := 860) (by decide +kernel), List.mem_of_getElem? (i := 861) (by decide +kernel)⟩
theorem lw_p28 : lw_okq (⟨"LoatheMatch$World", "attemptTaking", "(II)I"⟩, 4) := ⟨⟨by decide +kernel, by decide +kernel⟩, List.mem_of_getElem? (i := 176) (by decide +kernel), List.mem_of_getElem? (i := 867) (by decide +kernel), List.mem_of_getElem? (i := 868) (by decide +kernel)⟩
theorem lw_p29 : lw_okq (⟨"LoatheMatch$World", "attemptCopy", "(II)I"⟩, 4) := ⟨⟨by decide +kernel, by decide +kernel⟩, List.mem_of_getElem? (i := 176) (by decide +kernel), List.mem_of_getElem? (i := 873) (by decide +kernel), List.mem_of_getElem? (i := 874) (by decide +kernel)⟩
theorem lw_p30 : lw_okq (⟨"LoatheMatch", "acceptTrial", "(I)V"⟩, 14) := ⟨⟨by decide +kernel, by decide +kernel⟩, List.mem_of_getElem? (i := 23) (by decide +kernel), List.mem_of_getElem? (i := 891) (by decide +kernel), List.mem_of_getElem? (i := 892) (by decide +kernel)⟩
theorem lw_p31 : lw_okq (⟨"LoatheMatch", "drawDeed", "()I"⟩, 14) := ⟨⟨by decide +kernel, by decide +kernel⟩, List.mem_of_getElem? (i := 23) (by decide +kernel), List.mem_of_getElem? (i := 899) (by decide +kernel), List.mem_of_getElem? (i := 900) (by decide +kernel)⟩
def lw_privs_2 : List (MethodName × Nat) := [(⟨"LoatheMatch$Reader", "goDeeper", "(I)Z"⟩, 10), (⟨"LoatheMatch$Reader", "termWord", "()I"⟩, 10), (⟨"LoatheMatch$Reader", "readTruth", "(I)Z"⟩, 10), (⟨"LoatheMatch$Reader", "readBoth", "(I)Z"⟩, 10), (⟨"LoatheMatch$Reader", "readUnit", "(I)Z"⟩, 10), (⟨"LoatheMatch$Reader", "comparison", "()I"⟩, 10), (⟨"LoatheMatch$World", "hasRoom", "(I)Z"⟩, 4), (⟨"LoatheMatch$World", "growOlder", "(I)I"⟩, 4), (⟨"LoatheMatch$World", "exchange", "(II)V"⟩, 4), (⟨"LoatheMatch$World", "wish", "(II)I"⟩, 4), (⟨"LoatheMatch", "rehearse", "(LLoatheMatch$Tray;)I"⟩, 14), (⟨"LoatheMatch$World", "attemptMarriage", "(II)I"⟩, 4), (⟨"LoatheMatch$World", "attemptTaking", "(II)I"⟩, 4), (⟨"LoatheMatch$World", "attemptCopy", "(II)I"⟩, 4), (⟨"LoatheMatch", "acceptTrial", "(I)V"⟩, 14), (⟨"LoatheMatch", "drawDeed", "()I"⟩, 14)]
theorem lw_r2 : ∀ q ∈ lw_privs_2, lw_okq q := List.forall_mem_cons.mpr ⟨lw_p16, List.forall_mem_cons.mpr ⟨lw_p17, List.forall_mem_cons.mpr ⟨lw_p18, List.forall_mem_cons.mpr ⟨lw_p19, List.forall_mem_cons.mpr ⟨lw_p20, List.forall_mem_cons.mpr ⟨lw_p21, List.forall_mem_cons.mpr ⟨lw_p22, List.forall_mem_cons.mpr ⟨lw_p23, List.forall_mem_cons.mpr ⟨lw_p24, List.forall_mem_cons.mpr ⟨lw_p25, List.forall_mem_cons.mpr ⟨lw_p26, List.forall_mem_cons.mpr ⟨lw_p27, List.forall_mem_cons.mpr ⟨lw_p28, List.forall_mem_cons.mpr ⟨lw_p29, List.forall_mem_cons.mpr ⟨lw_p30, List.forall_mem_cons.mpr ⟨lw_p31, fun _ h => absurd h List.not_mem_nil⟩⟩⟩⟩⟩⟩⟩⟩⟩⟩⟩⟩⟩⟩⟩⟩
theorem lw_p32 : lw_okq (⟨"LoatheMatch", "draw", "(I)I"⟩, 14) := ⟨⟨by decide +kernel, by decide +kernel⟩, List.mem_of_getElem? (i := 23) (by decide +kernel), List.mem_of_getElem? (i := 903) (by decide +kernel), List.mem_of_getElem? (i := 904) (by decide +kernel)⟩
theorem lw_p33 : lw_okq (⟨"LoatheMatch$Matching", "tally", "(II)I"⟩, 6) := ⟨⟨by decide +kernel, by decide +kernel⟩, List.mem_of_getElem? (i := 262) (by decide +kernel), List.mem_of_getElem? (i := 922) (by decide +kernel), List.mem_of_getElem? (i := 923) (by decide +kernel)⟩
theorem lw_p34 : lw_okq (⟨"LoatheMatch", "isMatchingQuestion", "(I)Z"⟩, 14) := ⟨⟨by decide +kernel, by decide +kernel⟩, List.mem_of_getElem? (i := 23) (by decide +kernel), List.mem_of_getElem? (i := 936) (by decide +kernel), List.mem_of_getElem? (i := 937) (by decide +kernel)⟩
theorem lw_p35 : lw_okq (⟨"LoatheMatch$Matching", "choose", "(I)V"⟩, 6) := ⟨⟨by decide +kernel, by decide +kernel⟩, List.mem_of_getElem? (i := 262) (by decide +kernel), List.mem_of_getElem? (i := 947) (by decide +kernel), List.mem_of_getElem? (i := 948) (by decide +kernel)⟩
theorem lw_p36 : lw_okq (⟨"LoatheMatch$Matching", "goodNow", "(I)I"⟩, 6) := ⟨⟨by decide +kernel, by decide +kernel⟩, List.mem_of_getElem? (i := 262) (by decide +kernel), List.mem_of_getElem? (i := 965) (by decide +kernel), List.mem_of_getElem? (i := 966) (by decide +kernel)⟩
theorem lw_p37 : lw_okq (⟨"LoatheMatch$Matching", "settle", "(I)Z"⟩, 6) := ⟨⟨by decide +kernel, by decide +kernel⟩, List.mem_of_getElem? (i := 262) (by decide +kernel), List.mem_of_getElem? (i := 974) (by decide +kernel), List.mem_of_getElem? (i := 975) (by decide +kernel)⟩
theorem lw_p38 : lw_okq (⟨"LoatheMatch", "endurance", "(III)I"⟩, 14) := ⟨⟨by decide +kernel, by decide +kernel⟩, List.mem_of_getElem? (i := 23) (by decide +kernel), List.mem_of_getElem? (i := 1004) (by decide +kernel), List.mem_of_getElem? (i := 1005) (by decide +kernel)⟩
theorem lw_p39 : lw_okq (⟨"LoatheMatch$Fibs", "effect", "(I)I"⟩, 7) := ⟨⟨by decide +kernel, by decide +kernel⟩, List.mem_of_getElem? (i := 289) (by decide +kernel), List.mem_of_getElem? (i := 1055) (by decide +kernel), List.mem_of_getElem? (i := 1056) (by decide +kernel)⟩
theorem lw_p40 : lw_okq (⟨"LoatheMatch$Fibs", "findAlike", "(I)I"⟩, 7) := ⟨⟨by decide +kernel, by decide +kernel⟩, List.mem_of_getElem? (i := 289) (by decide +kernel), List.mem_of_getElem? (i := 1060) (by decide +kernel), List.mem_of_getElem? (i := 1061) (by decide +kernel)⟩
theorem lw_p41 : lw_okq (⟨"LoatheMatch$Fibs", "seek", "(IIII)Z"⟩, 7) := ⟨⟨by decide +kernel, by decide +kernel⟩, List.mem_of_getElem? (i := 289) (by decide +kernel), List.mem_of_getElem? (i := 1065) (by decide +kernel), List.mem_of_getElem? (i := 1066) (by decide +kernel)⟩
theorem lw_p42 : lw_okq (⟨"LoatheMatch$Fibs", "reachesBar", "(I)Z"⟩, 7) := ⟨⟨by decide +kernel, by decide +kernel⟩, List.mem_of_getElem? (i := 289) (by decide +kernel), List.mem_of_getElem? (i := 1069) (by decide +kernel), List.mem_of_getElem? (i := 1070) (by decide +kernel)⟩
theorem lw_p43 : lw_okq (⟨"LoatheMatch", "isHouse", "(II)Z"⟩, 14) := ⟨⟨by decide +kernel, by decide +kernel⟩, List.mem_of_getElem? (i := 23) (by decide +kernel), List.mem_of_getElem? (i := 1099) (by decide +kernel), List.mem_of_getElem? (i := 1100) (by decide +kernel)⟩
theorem lw_p44 : lw_okq (⟨"LoatheMatchModel", "next", "()V"⟩, 33) := ⟨⟨by decide +kernel, by decide +kernel⟩, List.mem_of_getElem? (i := 1184) (by decide +kernel), List.mem_of_getElem? (i := 1304) (by decide +kernel), List.mem_of_getElem? (i := 1305) (by decide +kernel)⟩
theorem lw_p45 : lw_okq (⟨"LoatheMatchModel", "see", "(I)I"⟩, 33) := ⟨⟨by decide +kernel, by decide +kernel⟩, List.mem_of_getElem? (i := 1184) (by decide +kernel), List.mem_of_getElem? (i := 1308) (by decide +kernel), List.mem_of_getElem? (i := 1309) (by decide +kernel)⟩
theorem lw_p46 : lw_okq (⟨"LoatheMatchModel", "keyAt", "()I"⟩, 33) := ⟨⟨by decide +kernel, by decide +kernel⟩, List.mem_of_getElem? (i := 1184) (by decide +kernel), List.mem_of_getElem? (i := 1315) (by decide +kernel), List.mem_of_getElem? (i := 1316) (by decide +kernel)⟩
theorem lw_p47 : lw_okq (⟨"LoatheMatchModel", "readLine", "()V"⟩, 33) := ⟨⟨by decide +kernel, by decide +kernel⟩, List.mem_of_getElem? (i := 1184) (by decide +kernel), List.mem_of_getElem? (i := 1326) (by decide +kernel), List.mem_of_getElem? (i := 1327) (by decide +kernel)⟩
def lw_privs_3 : List (MethodName × Nat) := [(⟨"LoatheMatch", "draw", "(I)I"⟩, 14), (⟨"LoatheMatch$Matching", "tally", "(II)I"⟩, 6), (⟨"LoatheMatch", "isMatchingQuestion", "(I)Z"⟩, 14), (⟨"LoatheMatch$Matching", "choose", "(I)V"⟩, 6), (⟨"LoatheMatch$Matching", "goodNow", "(I)I"⟩, 6), (⟨"LoatheMatch$Matching", "settle", "(I)Z"⟩, 6), (⟨"LoatheMatch", "endurance", "(III)I"⟩, 14), (⟨"LoatheMatch$Fibs", "effect", "(I)I"⟩, 7), (⟨"LoatheMatch$Fibs", "findAlike", "(I)I"⟩, 7), (⟨"LoatheMatch$Fibs", "seek", "(IIII)Z"⟩, 7), (⟨"LoatheMatch$Fibs", "reachesBar", "(I)Z"⟩, 7), (⟨"LoatheMatch", "isHouse", "(II)Z"⟩, 14), (⟨"LoatheMatchModel", "next", "()V"⟩, 33), (⟨"LoatheMatchModel", "see", "(I)I"⟩, 33), (⟨"LoatheMatchModel", "keyAt", "()I"⟩, 33), (⟨"LoatheMatchModel", "readLine", "()V"⟩, 33)]
theorem lw_r3 : ∀ q ∈ lw_privs_3, lw_okq q := List.forall_mem_cons.mpr ⟨lw_p32, List.forall_mem_cons.mpr ⟨lw_p33, List.forall_mem_cons.mpr ⟨lw_p34, List.forall_mem_cons.mpr ⟨lw_p35, List.forall_mem_cons.mpr ⟨lw_p36, List.forall_mem_cons.mpr ⟨lw_p37, List.forall_mem_cons.mpr ⟨lw_p38, List.forall_mem_cons.mpr ⟨lw_p39, List.forall_mem_cons.mpr ⟨lw_p40, List.forall_mem_cons.mpr ⟨lw_p41, List.forall_mem_cons.mpr ⟨lw_p42, List.forall_mem_cons.mpr ⟨lw_p43, List.forall_mem_cons.mpr ⟨lw_p44, List.forall_mem_cons.mpr ⟨lw_p45, List.forall_mem_cons.mpr ⟨lw_p46, List.forall_mem_cons.mpr ⟨lw_p47, fun _ h => absurd h List.not_mem_nil⟩⟩⟩⟩⟩⟩⟩⟩⟩⟩⟩⟩⟩⟩⟩⟩
theorem lw_p48 : lw_okq (⟨"LoatheMatchModel", "is", "(I)Z"⟩, 33) := ⟨⟨by decide +kernel, by decide +kernel⟩, List.mem_of_getElem? (i := 1184) (by decide +kernel), List.mem_of_getElem? (i := 1330) (by decide +kernel), List.mem_of_getElem? (i := 1331) (by decide +kernel)⟩
theorem lw_p49 : lw_okq (⟨"LoatheMatchModel", "readThing", "()V"⟩, 33) := ⟨⟨by decide +kernel, by decide +kernel⟩, List.mem_of_getElem? (i := 1184) (by decide +kernel), List.mem_of_getElem? (i := 1334) (by decide +kernel), List.mem_of_getElem? (i := 1335) (by decide +kernel)⟩
theorem lw_p50 : lw_okq (⟨"LoatheMatchModel", "fails", "(I)V"⟩, 33) := ⟨⟨by decide +kernel, by decide +kernel⟩, List.mem_of_getElem? (i := 1184) (by decide +kernel), List.mem_of_getElem? (i := 1338) (by decide +kernel), List.mem_of_getElem? (i := 1339) (by decide +kernel)⟩
theorem lw_p51 : lw_okq (⟨"LoatheMatchModel", "eats", "(I)Z"⟩, 33) := ⟨⟨by decide +kernel, by decide +kernel⟩, List.mem_of_getElem? (i := 1184) (by decide +kernel), List.mem_of_getElem? (i := 1342) (by decide +kernel), List.mem_of_getElem? (i := 1343) (by decide +kernel)⟩
theorem lw_p52 : lw_okq (⟨"LoatheMatchModel", "takesOne", "(II)I"⟩, 33) := ⟨⟨by decide +kernel, by decide +kernel⟩, List.mem_of_getElem? (i := 1184) (by decide +kernel), List.mem_of_getElem? (i := 1346) (by decide +kernel), List.mem_of_getElem? (i := 1347) (by decide +kernel)⟩
theorem lw_p53 : lw_okq (⟨"LoatheMatchModel", "readPerson", "()V"⟩, 33) := ⟨⟨by decide +kernel, by decide +kernel⟩, List.mem_of_getElem? (i := 1184) (by decide +kernel), List.mem_of_getElem? (i := 1350) (by decide +kernel), List.mem_of_getElem? (i := 1351) (by decide +kernel)⟩
theorem lw_p54 : lw_okq (⟨"LoatheMatchModel", "takesThings", "()I"⟩, 33) := ⟨⟨by decide +kernel, by decide +kernel⟩, List.mem_of_getElem? (i := 1184) (by decide +kernel), List.mem_of_getElem? (i := 1354) (by decide +kernel), List.mem_of_getElem? (i := 1355) (by decide +kernel)⟩
theorem lw_p55 : lw_okq (⟨"LoatheMatchModel", "readLaw", "(I)V"⟩, 33) := ⟨⟨by decide +kernel, by decide +kernel⟩, List.mem_of_getElem? (i := 1184) (by decide +kernel), List.mem_of_getElem? (i := 1361) (by decide +kernel), List.mem_of_getElem? (i := 1362) (by decide +kernel)⟩
theorem lw_p56 : lw_okq (⟨"LoatheMatchModel", "readSum", "(I)V"⟩, 33) := ⟨⟨by decide +kernel, by decide +kernel⟩, List.mem_of_getElem? (i := 1184) (by decide +kernel), List.mem_of_getElem? (i := 1365) (by decide +kernel), List.mem_of_getElem? (i := 1366) (by decide +kernel)⟩
theorem lw_p57 : lw_okq (⟨"LoatheMatchModel", "readTerm", "(I)V"⟩, 33) := ⟨⟨by decide +kernel, by decide +kernel⟩, List.mem_of_getElem? (i := 1184) (by decide +kernel), List.mem_of_getElem? (i := 1369) (by decide +kernel), List.mem_of_getElem? (i := 1370) (by decide +kernel)⟩
theorem lw_p58 : lw_okq (⟨"LoatheMatchModel", "readAtom", "(I)V"⟩, 33) := ⟨⟨by decide +kernel, by decide +kernel⟩, List.mem_of_getElem? (i := 1184) (by decide +kernel), List.mem_of_getElem? (i := 1373) (by decide +kernel), List.mem_of_getElem? (i := 1374) (by decide +kernel)⟩
theorem lw_p59 : lw_okq (⟨"LoatheMatchModel", "codes", "(I)V"⟩, 33) := ⟨⟨by decide +kernel, by decide +kernel⟩, List.mem_of_getElem? (i := 1184) (by decide +kernel), List.mem_of_getElem? (i := 1377) (by decide +kernel), List.mem_of_getElem? (i := 1378) (by decide +kernel)⟩
theorem lw_p60 : lw_okq (⟨"LoatheMatchModel", "goesIn", "(I)Z"⟩, 33) := ⟨⟨by decide +kernel, by decide +kernel⟩, List.mem_of_getElem? (i := 1184) (by decide +kernel), List.mem_of_getElem? (i := 1383) (by decide +kernel), List.mem_of_getElem? (i := 1384) (by decide +kernel)⟩
theorem lw_p61 : lw_okq (⟨"LoatheMatchModel", "readTruth", "(I)V"⟩, 33) := ⟨⟨by decide +kernel, by decide +kernel⟩, List.mem_of_getElem? (i := 1184) (by decide +kernel), List.mem_of_getElem? (i := 1387) (by decide +kernel), List.mem_of_getElem? (i := 1388) (by decide +kernel)⟩
theorem lw_p62 : lw_okq (⟨"LoatheMatchModel", "readBoth", "(I)V"⟩, 33) := ⟨⟨by decide +kernel, by decide +kernel⟩, List.mem_of_getElem? (i := 1184) (by decide +kernel), List.mem_of_getElem? (i := 1391) (by decide +kernel), List.mem_of_getElem? (i := 1392) (by decide +kernel)⟩
theorem lw_p63 : lw_okq (⟨"LoatheMatchModel", "readUnit", "(I)V"⟩, 33) := ⟨⟨by decide +kernel, by decide +kernel⟩, List.mem_of_getElem? (i := 1184) (by decide +kernel), List.mem_of_getElem? (i := 1395) (by decide +kernel), List.mem_of_getElem? (i := 1396) (by decide +kernel)⟩
def lw_privs_4 : List (MethodName × Nat) := [(⟨"LoatheMatchModel", "is", "(I)Z"⟩, 33), (⟨"LoatheMatchModel", "readThing", "()V"⟩, 33), (⟨"LoatheMatchModel", "fails", "(I)V"⟩, 33), (⟨"LoatheMatchModel", "eats", "(I)Z"⟩, 33), (⟨"LoatheMatchModel", "takesOne", "(II)I"⟩, 33), (⟨"LoatheMatchModel", "readPerson", "()V"⟩, 33), (⟨"LoatheMatchModel", "takesThings", "()I"⟩, 33), (⟨"LoatheMatchModel", "readLaw", "(I)V"⟩, 33), (⟨"LoatheMatchModel", "readSum", "(I)V"⟩, 33), (⟨"LoatheMatchModel", "readTerm", "(I)V"⟩, 33), (⟨"LoatheMatchModel", "readAtom", "(I)V"⟩, 33), (⟨"LoatheMatchModel", "codes", "(I)V"⟩, 33), (⟨"LoatheMatchModel", "goesIn", "(I)Z"⟩, 33), (⟨"LoatheMatchModel", "readTruth", "(I)V"⟩, 33), (⟨"LoatheMatchModel", "readBoth", "(I)V"⟩, 33), (⟨"LoatheMatchModel", "readUnit", "(I)V"⟩, 33)]
theorem lw_r4 : ∀ q ∈ lw_privs_4, lw_okq q := List.forall_mem_cons.mpr ⟨lw_p48, List.forall_mem_cons.mpr ⟨lw_p49, List.forall_mem_cons.mpr ⟨lw_p50, List.forall_mem_cons.mpr ⟨lw_p51, List.forall_mem_cons.mpr ⟨lw_p52, List.forall_mem_cons.mpr ⟨lw_p53, List.forall_mem_cons.mpr ⟨lw_p54, List.forall_mem_cons.mpr ⟨lw_p55, List.forall_mem_cons.mpr ⟨lw_p56, List.forall_mem_cons.mpr ⟨lw_p57, List.forall_mem_cons.mpr ⟨lw_p58, List.forall_mem_cons.mpr ⟨lw_p59, List.forall_mem_cons.mpr ⟨lw_p60, List.forall_mem_cons.mpr ⟨lw_p61, List.forall_mem_cons.mpr ⟨lw_p62, List.forall_mem_cons.mpr ⟨lw_p63, fun _ h => absurd h List.not_mem_nil⟩⟩⟩⟩⟩⟩⟩⟩⟩⟩⟩⟩⟩⟩⟩⟩
theorem lw_p64 : lw_okq (⟨"LoatheMatchModel", "isPerson", "(J)Z"⟩, 33) := ⟨⟨by decide +kernel, by decide +kernel⟩, List.mem_of_getElem? (i := 1184) (by decide +kernel), List.mem_of_getElem? (i := 1407) (by decide +kernel), List.mem_of_getElem? (i := 1408) (by decide +kernel)⟩
theorem lw_p65 : lw_okq (⟨"LoatheMatchModel", "listOf", "(I)I"⟩, 33) := ⟨⟨by decide +kernel, by decide +kernel⟩, List.mem_of_getElem? (i := 1184) (by decide +kernel), List.mem_of_getElem? (i := 1411) (by decide +kernel), List.mem_of_getElem? (i := 1412) (by decide +kernel)⟩
theorem lw_p66 : lw_okq (⟨"LoatheMatchModel", "isThing", "(J)Z"⟩, 33) := ⟨⟨by decide +kernel, by decide +kernel⟩, List.mem_of_getElem? (i := 1184) (by decide +kernel), List.mem_of_getElem? (i := 1419) (by decide +kernel), List.mem_of_getElem? (i := 1420) (by decide +kernel)⟩
theorem lw_p67 : lw_okq (⟨"LoatheMatchModel", "loathers", "(I)I"⟩, 33) := ⟨⟨by decide +kernel, by decide +kernel⟩, List.mem_of_getElem? (i := 1184) (by decide +kernel), List.mem_of_getElem? (i := 1427) (by decide +kernel), List.mem_of_getElem? (i := 1428) (by decide +kernel)⟩
theorem lw_p68 : lw_okq (⟨"LoatheMatchModel", "rareOf", "(I)I"⟩, 33) := ⟨⟨by decide +kernel, by decide +kernel⟩, List.mem_of_getElem? (i := 1184) (by decide +kernel), List.mem_of_getElem? (i := 1431) (by decide +kernel), List.mem_of_getElem? (i := 1432) (by decide +kernel)⟩
theorem lw_p69 : lw_okq (⟨"LoatheMatchModel", "areIt", "(I)I"⟩, 33) := ⟨⟨by decide +kernel, by decide +kernel⟩, List.mem_of_getElem? (i := 1184) (by decide +kernel), List.mem_of_getElem? (i := 1438) (by decide +kernel), List.mem_of_getElem? (i := 1439) (by decide +kernel)⟩
theorem lw_p70 : lw_okq (⟨"LoatheMatchModel", "areTwo", "(JJ)Z"⟩, 33) := ⟨⟨by decide +kernel, by decide +kernel⟩, List.mem_of_getElem? (i := 1184) (by decide +kernel), List.mem_of_getElem? (i := 1446) (by decide +kernel), List.mem_of_getElem? (i := 1447) (by decide +kernel)⟩
theorem lw_p71 : lw_okq (⟨"LoatheMatchModel", "laysTwo", "(II)V"⟩, 33) := ⟨⟨by decide +kernel, by decide +kernel⟩, List.mem_of_getElem? (i := 1184) (by decide +kernel), List.mem_of_getElem? (i := 1451) (by decide +kernel), List.mem_of_getElem? (i := 1452) (by decide +kernel)⟩
theorem lw_p72 : lw_okq (⟨"LoatheMatchModel", "rareOfAll", "(I)I"⟩, 33) := ⟨⟨by decide +kernel, by decide +kernel⟩, List.mem_of_getElem? (i := 1184) (by decide +kernel), List.mem_of_getElem? (i := 1455) (by decide +kernel), List.mem_of_getElem? (i := 1456) (by decide +kernel)⟩
theorem lw_p73 : lw_okq (⟨"LoatheMatchModel", "goodOf", "(II)I"⟩, 33) := ⟨⟨by decide +kernel, by decide +kernel⟩, List.mem_of_getElem? (i := 1184) (by decide +kernel), List.mem_of_getElem? (i := 1463) (by decide +kernel), List.mem_of_getElem? (i := 1464) (by decide +kernel)⟩
theorem lw_p74 : lw_okq (⟨"LoatheMatchModel", "reckons", "(I)I"⟩, 33) := ⟨⟨by decide +kernel, by decide +kernel⟩, List.mem_of_getElem? (i := 1184) (by decide +kernel), List.mem_of_getElem? (i := 1467) (by decide +kernel), List.mem_of_getElem? (i := 1468) (by decide +kernel)⟩
theorem lw_p75 : lw_okq (⟨"LoatheMatchModel", "mayWed", "(II)Z"⟩, 33) := ⟨⟨by decide +kernel, by decide +kernel⟩, List.mem_of_getElem? (i := 1184) (by decide +kernel), List.mem_of_getElem? (i := 1481) (by decide +kernel), List.mem_of_getElem? (i := 1482) (by decide +kernel)⟩
theorem lw_p76 : lw_okq (⟨"LoatheMatchModel", "keeps", "()V"⟩, 33) := ⟨⟨by decide +kernel, by decide +kernel⟩, List.mem_of_getElem? (i := 1184) (by decide +kernel), List.mem_of_getElem? (i := 1489) (by decide +kernel), List.mem_of_getElem? (i := 1490) (by decide +kernel)⟩
theorem lw_p77 : lw_okq (⟨"LoatheMatchModel", "weds", "(II)V"⟩, 33) := ⟨⟨by decide +kernel, by decide +kernel⟩, List.mem_of_getElem? (i := 1184) (by decide +kernel), List.mem_of_getElem? (i := 1493) (by decide +kernel), List.mem_of_getElem? (i := 1494) (by decide +kernel)⟩
theorem lw_p78 : lw_okq (⟨"LoatheMatchModel", "notes", "()V"⟩, 33) := ⟨⟨by decide +kernel, by decide +kernel⟩, List.mem_of_getElem? (i := 1184) (by decide +kernel), List.mem_of_getElem? (i := 1497) (by decide +kernel), List.mem_of_getElem? (i := 1498) (by decide +kernel)⟩
theorem lw_p79 : lw_okq (⟨"LoatheMatchModel", "parts", "(I)V"⟩, 33) := ⟨⟨by decide +kernel, by decide +kernel⟩, List.mem_of_getElem? (i := 1184) (by decide +kernel), List.mem_of_getElem? (i := 1505) (by decide +kernel), List.mem_of_getElem? (i := 1506) (by decide +kernel)⟩
def lw_privs_5 : List (MethodName × Nat) := [(⟨"LoatheMatchModel", "isPerson", "(J)Z"⟩, 33), (⟨"LoatheMatchModel", "listOf", "(I)I"⟩, 33), (⟨"LoatheMatchModel", "isThing", "(J)Z"⟩, 33), (⟨"LoatheMatchModel", "loathers", "(I)I"⟩, 33), (⟨"LoatheMatchModel", "rareOf", "(I)I"⟩, 33), (⟨"LoatheMatchModel", "areIt", "(I)I"⟩, 33), (⟨"LoatheMatchModel", "areTwo", "(JJ)Z"⟩, 33), (⟨"LoatheMatchModel", "laysTwo", "(II)V"⟩, 33), (⟨"LoatheMatchModel", "rareOfAll", "(I)I"⟩, 33), (⟨"LoatheMatchModel", "goodOf", "(II)I"⟩, 33), (⟨"LoatheMatchModel", "reckons", "(I)I"⟩, 33), (⟨"LoatheMatchModel", "mayWed", "(II)Z"⟩, 33), (⟨"LoatheMatchModel", "keeps", "()V"⟩, 33), (⟨"LoatheMatchModel", "weds", "(II)V"⟩, 33), (⟨"LoatheMatchModel", "notes", "()V"⟩, 33), (⟨"LoatheMatchModel", "parts", "(I)V"⟩, 33)]
theorem lw_r5 : ∀ q ∈ lw_privs_5, lw_okq q := List.forall_mem_cons.mpr ⟨lw_p64, List.forall_mem_cons.mpr ⟨lw_p65, List.forall_mem_cons.mpr ⟨lw_p66, List.forall_mem_cons.mpr ⟨lw_p67, List.forall_mem_cons.mpr ⟨lw_p68, List.forall_mem_cons.mpr ⟨lw_p69, List.forall_mem_cons.mpr ⟨lw_p70, List.forall_mem_cons.mpr ⟨lw_p71, List.forall_mem_cons.mpr ⟨lw_p72, List.forall_mem_cons.mpr ⟨lw_p73, List.forall_mem_cons.mpr ⟨lw_p74, List.forall_mem_cons.mpr ⟨lw_p75, List.forall_mem_cons.mpr ⟨lw_p76, List.forall_mem_cons.mpr ⟨lw_p77, List.forall_mem_cons.mpr ⟨lw_p78, List.forall_mem_cons.mpr ⟨lw_p79, fun _ h => absurd h List.not_mem_nil⟩⟩⟩⟩⟩⟩⟩⟩⟩⟩⟩⟩⟩⟩⟩⟩
theorem lw_p80 : lw_okq (⟨"LoatheMatchModel", "whyNot", "(J)I"⟩, 33) := ⟨⟨by decide +kernel, by decide +kernel⟩, List.mem_of_getElem? (i := 1184) (by decide +kernel), List.mem_of_getElem? (i := 1513) (by decide +kernel), List.mem_of_getElem? (i := 1514) (by decide +kernel)⟩
theorem lw_p81 : lw_okq (⟨"LoatheMatchModel", "hasRoom", "(I)Z"⟩, 33) := ⟨⟨by decide +kernel, by decide +kernel⟩, List.mem_of_getElem? (i := 1184) (by decide +kernel), List.mem_of_getElem? (i := 1519) (by decide +kernel), List.mem_of_getElem? (i := 1520) (by decide +kernel)⟩
theorem lw_p82 : lw_okq (⟨"LoatheMatchModel", "does", "(I)V"⟩, 33) := ⟨⟨by decide +kernel, by decide +kernel⟩, List.mem_of_getElem? (i := 1184) (by decide +kernel), List.mem_of_getElem? (i := 1523) (by decide +kernel), List.mem_of_getElem? (i := 1524) (by decide +kernel)⟩
theorem lw_p83 : lw_okq (⟨"LoatheMatchModel", "year", "(II)I"⟩, 33) := ⟨⟨by decide +kernel, by decide +kernel⟩, List.mem_of_getElem? (i := 1184) (by decide +kernel), List.mem_of_getElem? (i := 1527) (by decide +kernel), List.mem_of_getElem? (i := 1528) (by decide +kernel)⟩
theorem lw_p84 : lw_okq (⟨"LoatheMatchModel", "copiesFrom", "(II)V"⟩, 33) := ⟨⟨by decide +kernel, by decide +kernel⟩, List.mem_of_getElem? (i := 1184) (by decide +kernel), List.mem_of_getElem? (i := 1531) (by decide +kernel), List.mem_of_getElem? (i := 1532) (by decide +kernel)⟩
theorem lw_p85 : lw_okq (⟨"LoatheMatchModel", "noTray", "(I)I"⟩, 33) := ⟨⟨by decide +kernel, by decide +kernel⟩, List.mem_of_getElem? (i := 1184) (by decide +kernel), List.mem_of_getElem? (i := 1554) (by decide +kernel), List.mem_of_getElem? (i := 1555) (by decide +kernel)⟩
theorem lw_p86 : lw_okq (⟨"LoatheMatchModel", "tells", "(I)I"⟩, 33) := ⟨⟨by decide +kernel, by decide +kernel⟩, List.mem_of_getElem? (i := 1184) (by decide +kernel), List.mem_of_getElem? (i := 1558) (by decide +kernel), List.mem_of_getElem? (i := 1559) (by decide +kernel)⟩
theorem lw_p87 : lw_okq (⟨"LoatheMatchModel", "wedMany", "()I"⟩, 33) := ⟨⟨by decide +kernel, by decide +kernel⟩, List.mem_of_getElem? (i := 1184) (by decide +kernel), List.mem_of_getElem? (i := 1562) (by decide +kernel), List.mem_of_getElem? (i := 1563) (by decide +kernel)⟩
theorem lw_p88 : lw_okq (⟨"LoatheMatchModel", "goodOfWed", "()I"⟩, 33) := ⟨⟨by decide +kernel, by decide +kernel⟩, List.mem_of_getElem? (i := 1184) (by decide +kernel), List.mem_of_getElem? (i := 1566) (by decide +kernel), List.mem_of_getElem? (i := 1567) (by decide +kernel)⟩
theorem lw_p89 : lw_okq (⟨"LoatheMatchModel", "isAgain", "()V"⟩, 33) := ⟨⟨by decide +kernel, by decide +kernel⟩, List.mem_of_getElem? (i := 1184) (by decide +kernel), List.mem_of_getElem? (i := 1570) (by decide +kernel), List.mem_of_getElem? (i := 1571) (by decide +kernel)⟩
theorem lw_p90 : lw_okq (⟨"LoatheMatchModel", "drawn", "()I"⟩, 33) := ⟨⟨by decide +kernel, by decide +kernel⟩, List.mem_of_getElem? (i := 1184) (by decide +kernel), List.mem_of_getElem? (i := 1583) (by decide +kernel), List.mem_of_getElem? (i := 1584) (by decide +kernel)⟩
theorem lw_p91 : lw_okq (⟨"LoatheMatchModel", "draw", "(I)I"⟩, 33) := ⟨⟨by decide +kernel, by decide +kernel⟩, List.mem_of_getElem? (i := 1184) (by decide +kernel), List.mem_of_getElem? (i := 1587) (by decide +kernel), List.mem_of_getElem? (i := 1588) (by decide +kernel)⟩
theorem lw_p92 : lw_okq (⟨"LoatheMatchModel", "laysPairs", "(II)V"⟩, 33) := ⟨⟨by decide +kernel, by decide +kernel⟩, List.mem_of_getElem? (i := 1184) (by decide +kernel), List.mem_of_getElem? (i := 1597) (by decide +kernel), List.mem_of_getElem? (i := 1598) (by decide +kernel)⟩
theorem lw_p93 : lw_okq (⟨"LoatheMatchModel", "holdsFor", "(II)I"⟩, 33) := ⟨⟨by decide +kernel, by decide +kernel⟩, List.mem_of_getElem? (i := 1184) (by decide +kernel), List.mem_of_getElem? (i := 1601) (by decide +kernel), List.mem_of_getElem? (i := 1602) (by decide +kernel)⟩
theorem lw_p94 : lw_okq (⟨"LoatheMatchModel", "keepsAhead", "()V"⟩, 33) := ⟨⟨by decide +kernel, by decide +kernel⟩, List.mem_of_getElem? (i := 1184) (by decide +kernel), List.mem_of_getElem? (i := 1605) (by decide +kernel), List.mem_of_getElem? (i := 1606) (by decide +kernel)⟩
theorem lw_p95 : lw_okq (⟨"LoatheMatchModel", "isAhead", "()V"⟩, 33) := ⟨⟨by decide +kernel, by decide +kernel⟩, List.mem_of_getElem? (i := 1184) (by decide +kernel), List.mem_of_getElem? (i := 1609) (by decide +kernel), List.mem_of_getElem? (i := 1610) (by decide +kernel)⟩
def lw_privs_6 : List (MethodName × Nat) := [(⟨"LoatheMatchModel", "whyNot", "(J)I"⟩, 33), (⟨"LoatheMatchModel", "hasRoom", "(I)Z"⟩, 33), (⟨"LoatheMatchModel", "does", "(I)V"⟩, 33), (⟨"LoatheMatchModel", "year", "(II)I"⟩, 33), (⟨"LoatheMatchModel", "copiesFrom", "(II)V"⟩, 33), (⟨"LoatheMatchModel", "noTray", "(I)I"⟩, 33), (⟨"LoatheMatchModel", "tells", "(I)I"⟩, 33), (⟨"LoatheMatchModel", "wedMany", "()I"⟩, 33), (⟨"LoatheMatchModel", "goodOfWed", "()I"⟩, 33), (⟨"LoatheMatchModel", "isAgain", "()V"⟩, 33), (⟨"LoatheMatchModel", "drawn", "()I"⟩, 33), (⟨"LoatheMatchModel", "draw", "(I)I"⟩, 33), (⟨"LoatheMatchModel", "laysPairs", "(II)V"⟩, 33), (⟨"LoatheMatchModel", "holdsFor", "(II)I"⟩, 33), (⟨"LoatheMatchModel", "keepsAhead", "()V"⟩, 33), (⟨"LoatheMatchModel", "isAhead", "()V"⟩, 33)]
theorem lw_r6 : ∀ q ∈ lw_privs_6, lw_okq q := List.forall_mem_cons.mpr ⟨lw_p80, List.forall_mem_cons.mpr ⟨lw_p81, List.forall_mem_cons.mpr ⟨lw_p82, List.forall_mem_cons.mpr ⟨lw_p83, List.forall_mem_cons.mpr ⟨lw_p84, List.forall_mem_cons.mpr ⟨lw_p85, List.forall_mem_cons.mpr ⟨lw_p86, List.forall_mem_cons.mpr ⟨lw_p87, List.forall_mem_cons.mpr ⟨lw_p88, List.forall_mem_cons.mpr ⟨lw_p89, List.forall_mem_cons.mpr ⟨lw_p90, List.forall_mem_cons.mpr ⟨lw_p91, List.forall_mem_cons.mpr ⟨lw_p92, List.forall_mem_cons.mpr ⟨lw_p93, List.forall_mem_cons.mpr ⟨lw_p94, List.forall_mem_cons.mpr ⟨lw_p95, fun _ h => absurd h List.not_mem_nil⟩⟩⟩⟩⟩⟩⟩⟩⟩⟩⟩⟩⟩⟩⟩⟩
theorem lw_p96 : lw_okq (⟨"LoatheMatchModel", "begins", "(ZI)V"⟩, 33) := ⟨⟨by decide +kernel, by decide +kernel⟩, List.mem_of_getElem? (i := 1184) (by decide +kernel), List.mem_of_getElem? (i := 1613) (by decide +kernel), List.mem_of_getElem? (i := 1614) (by decide +kernel)⟩
theorem lw_p97 : lw_okq (⟨"LoatheMatchModel", "goesMatch", "(IIII)V"⟩, 33) := ⟨⟨by decide +kernel, by decide +kernel⟩, List.mem_of_getElem? (i := 1184) (by decide +kernel), List.mem_of_getElem? (i := 1617) (by decide +kernel), List.mem_of_getElem? (i := 1618) (by decide +kernel)⟩
theorem lw_p98 : lw_okq (⟨"LoatheMatchModel", "breaksOf", "([I)I"⟩, 33) := ⟨⟨by decide +kernel, by decide +kernel⟩, List.mem_of_getElem? (i := 1184) (by decide +kernel), List.mem_of_getElem? (i := 1621) (by decide +kernel), List.mem_of_getElem? (i := 1622) (by decide +kernel)⟩
theorem lw_p99 : lw_okq (⟨"LoatheMatchModel", "goodAs", "(I[I)I"⟩, 33) := ⟨⟨by decide +kernel, by decide +kernel⟩, List.mem_of_getElem? (i := 1184) (by decide +kernel), List.mem_of_getElem? (i := 1625) (by decide +kernel), List.mem_of_getElem? (i := 1626) (by decide +kernel)⟩
theorem lw_p100 : lw_okq (⟨"LoatheMatchModel", "asksPerson", "(I)Z"⟩, 33) := ⟨⟨by decide +kernel, by decide +kernel⟩, List.mem_of_getElem? (i := 1184) (by decide +kernel), List.mem_of_getElem? (i := 1633) (by decide +kernel), List.mem_of_getElem? (i := 1634) (by decide +kernel)⟩
theorem lw_p101 : lw_okq (⟨"LoatheMatchModel", "found", "(I)I"⟩, 33) := ⟨⟨by decide +kernel, by decide +kernel⟩, List.mem_of_getElem? (i := 1184) (by decide +kernel), List.mem_of_getElem? (i := 1638) (by decide +kernel), List.mem_of_getElem? (i := 1639) (by decide +kernel)⟩
theorem lw_p102 : lw_okq (⟨"LoatheMatchModel", "sharedBy", "(I)I"⟩, 33) := ⟨⟨by decide +kernel, by decide +kernel⟩, List.mem_of_getElem? (i := 1184) (by decide +kernel), List.mem_of_getElem? (i := 1707) (by decide +kernel), List.mem_of_getElem? (i := 1708) (by decide +kernel)⟩
theorem lw_p103 : lw_okq (⟨"LoatheMatchModel", "angersOf", "(I)I"⟩, 33) := ⟨⟨by decide +kernel, by decide +kernel⟩, List.mem_of_getElem? (i := 1184) (by decide +kernel), List.mem_of_getElem? (i := 1719) (by decide +kernel), List.mem_of_getElem? (i := 1720) (by decide +kernel)⟩
theorem lw_p104 : lw_okq (⟨"LoatheMatchModel", "listedMany", "()I"⟩, 33) := ⟨⟨by decide +kernel, by decide +kernel⟩, List.mem_of_getElem? (i := 1184) (by decide +kernel), List.mem_of_getElem? (i := 1755) (by decide +kernel), List.mem_of_getElem? (i := 1756) (by decide +kernel)⟩
def lw_privs_7 : List (MethodName × Nat) := [(⟨"LoatheMatchModel", "begins", "(ZI)V"⟩, 33), (⟨"LoatheMatchModel", "goesMatch", "(IIII)V"⟩, 33), (⟨"LoatheMatchModel", "breaksOf", "([I)I"⟩, 33), (⟨"LoatheMatchModel", "goodAs", "(I[I)I"⟩, 33), (⟨"LoatheMatchModel", "asksPerson", "(I)Z"⟩, 33), (⟨"LoatheMatchModel", "found", "(I)I"⟩, 33), (⟨"LoatheMatchModel", "sharedBy", "(I)I"⟩, 33), (⟨"LoatheMatchModel", "angersOf", "(I)I"⟩, 33), (⟨"LoatheMatchModel", "listedMany", "()I"⟩, 33)]
theorem lw_r7 : ∀ q ∈ lw_privs_7, lw_okq q := List.forall_mem_cons.mpr ⟨lw_p96, List.forall_mem_cons.mpr ⟨lw_p97, List.forall_mem_cons.mpr ⟨lw_p98, List.forall_mem_cons.mpr ⟨lw_p99, List.forall_mem_cons.mpr ⟨lw_p100, List.forall_mem_cons.mpr ⟨lw_p101, List.forall_mem_cons.mpr ⟨lw_p102, List.forall_mem_cons.mpr ⟨lw_p103, List.forall_mem_cons.mpr ⟨lw_p104, fun _ h => absurd h List.not_mem_nil⟩⟩⟩⟩⟩⟩⟩⟩⟩
def lw_privs : List (MethodName × Nat) := lw_privs_1 ++ (lw_privs_2 ++ (lw_privs_3 ++ (lw_privs_4 ++ (lw_privs_5 ++ (lw_privs_6 ++ (lw_privs_7))))))
def lw_tbl : List Cond := k2_sels lw_privs ++ tables_1
theorem lw_privs_ok : ∀ q ∈ lw_privs, lw_okq q := by
  show ∀ q ∈ lw_privs_1 ++ (lw_privs_2 ++ (lw_privs_3 ++ (lw_privs_4 ++ (lw_privs_5 ++ (lw_privs_6 ++ (lw_privs_7)))))), lw_okq q
  exact List.forall_mem_append.mpr ⟨lw_r1, List.forall_mem_append.mpr ⟨lw_r2, List.forall_mem_append.mpr ⟨lw_r3, List.forall_mem_append.mpr ⟨lw_r4, List.forall_mem_append.mpr ⟨lw_r5, List.forall_mem_append.mpr ⟨lw_r6, lw_r7⟩⟩⟩⟩⟩⟩
-- ===== end of PART A; then your names; then what follows =====
end
section
def RX0 : String := "LoatheMatch$Couple"
def TX0 : u_T := fun k => match k with
  | 0 => ("LoatheMatch$Couple", "terms", "[I", true)
  | _ => ("LoatheMatch$Couple", "stack", "[I", true)
def tyX0 : Nat → FieldType := fun k => match k with
  | 0 => .array .int
  | _ => .array .int
abbrev wsX00 : List Cond := u_ws RX0 TX0 2
theorem nmX0 : ∀ a, a < 2 → ∀ b, b < 2 → a ≠ b → (TX0 a).2.1 ≠ (TX0 b).2.1 := by decide +kernel
theorem tyX0_ok : ∀ k, k < 2 → parseFieldDescriptor (TX0 k).2.2.1 = some (tyX0 k) := by decide +kernel
abbrev cX0_init : ByteArray := prog_2_method_1_code
def yX0_init : MethodName := ⟨RX0, "<init>", "()V"⟩
abbrev cX0_reckon : ByteArray := prog_2_method_2_code
def yX0_reckon : MethodName := ⟨RX0, "reckon", "(LLoatheMatch$Law;)I"⟩
abbrev cX0_join : ByteArray := prog_2_method_3_code
def yX0_join : MethodName := ⟨RX0, "join", "(IJJ)J"⟩
abbrev cX0_keepWithin : ByteArray := prog_2_method_4_code
def yX0_keepWithin : MethodName := ⟨RX0, "keepWithin", "(J)I"⟩
def RX1 : String := "LoatheMatch$Fibs"
def TX1 : u_T := fun k => match k with
  | 0 => ("LoatheMatch$Fibs", "world", "LLoatheMatch$World;", true)
  | 1 => ("LoatheMatch$Fibs", "p", "I", false)
  | 2 => ("LoatheMatch$Fibs", "q", "I", false)
  | 3 => ("LoatheMatch$Fibs", "free", "I", false)
  | 4 => ("LoatheMatch$Fibs", "effects", "[I", true)
  | 5 => ("LoatheMatch$Fibs", "alike", "[I", true)
  | _ => ("LoatheMatch$Fibs", "found", "I", false)
def tyX1 : Nat → FieldType := fun k => match k with
  | 0 => .object "LoatheMatch$World"
  | 1 => .int
  | 2 => .int
  | 3 => .int
  | 4 => .array .int
  | 5 => .array .int
  | _ => .int
abbrev wsX10 : List Cond := u_ws RX1 TX1 7
theorem nmX1 : ∀ a, a < 7 → ∀ b, b < 7 → a ≠ b → (TX1 a).2.1 ≠ (TX1 b).2.1 := by decide +kernel
theorem tyX1_ok : ∀ k, k < 7 → parseFieldDescriptor (TX1 k).2.2.1 = some (tyX1 k) := by decide +kernel
abbrev cX1_init : ByteArray := prog_3_method_1_code
def yX1_init : MethodName := ⟨RX1, "<init>", "(LLoatheMatch$World;)V"⟩
abbrev cX1_fewest : ByteArray := prog_3_method_2_code
def yX1_fewest : MethodName := ⟨RX1, "fewest", "(II)I"⟩
abbrev cX1_findAlike : ByteArray := prog_3_method_3_code
def yX1_findAlike : MethodName := ⟨RX1, "findAlike", "(I)I"⟩
abbrev cX1_effect : ByteArray := prog_3_method_4_code
def yX1_effect : MethodName := ⟨RX1, "effect", "(I)I"⟩
abbrev cX1_seek : ByteArray := prog_3_method_5_code
def yX1_seek : MethodName := ⟨RX1, "seek", "(IIII)Z"⟩
abbrev cX1_reachesBar : ByteArray := prog_3_method_6_code
def yX1_reachesBar : MethodName := ⟨RX1, "reachesBar", "(I)Z"⟩
def RX2 : String := "LoatheMatch$History"
def TX2 : u_T := fun k => match k with
  | 0 => ("LoatheMatch$History", "past", "[LLoatheMatch$Life;", true)
  | 1 => ("LoatheMatch$History", "eldest", "I", false)
  | _ => ("LoatheMatch$History", "kept", "I", false)
def tyX2 : Nat → FieldType := fun k => match k with
  | 0 => .array (.object "LoatheMatch$Life")
  | 1 => .int
  | _ => .int
abbrev wsX20 : List Cond := u_ws RX2 TX2 3
theorem nmX2 : ∀ a, a < 3 → ∀ b, b < 3 → a ≠ b → (TX2 a).2.1 ≠ (TX2 b).2.1 := by decide +kernel
theorem tyX2_ok : ∀ k, k < 3 → parseFieldDescriptor (TX2 k).2.2.1 = some (tyX2 k) := by decide +kernel
abbrev cX2_init : ByteArray := prog_4_method_1_code
def yX2_init : MethodName := ⟨RX2, "<init>", "()V"⟩
abbrev cX2_keep : ByteArray := prog_4_method_2_code
def yX2_keep : MethodName := ⟨RX2, "keep", "(LLoatheMatch$Life;)V"⟩
abbrev cX2_bringBack : ByteArray := prog_4_method_3_code
def yX2_bringBack : MethodName := ⟨RX2, "bringBack", "(ILLoatheMatch$Life;)V"⟩
abbrev cX2_forget : ByteArray := prog_4_method_4_code
def yX2_forget : MethodName := ⟨RX2, "forget", "()V"⟩
def RX3 : String := "LoatheMatch$Image"
def TX3 : u_T := fun k => match k with
  | 0 => ("LoatheMatch$Image", "rules", "LLoatheMatch$Rules;", true)
  | _ => ("LoatheMatch$Image", "life", "LLoatheMatch$Life;", true)
def tyX3 : Nat → FieldType := fun k => match k with
  | 0 => .object "LoatheMatch$Rules"
  | _ => .object "LoatheMatch$Life"
abbrev wsX30 : List Cond := u_ws RX3 TX3 2
theorem nmX3 : ∀ a, a < 2 → ∀ b, b < 2 → a ≠ b → (TX3 a).2.1 ≠ (TX3 b).2.1 := by decide +kernel
theorem tyX3_ok : ∀ k, k < 2 → parseFieldDescriptor (TX3 k).2.2.1 = some (tyX3 k) := by decide +kernel
abbrev cX3_init : ByteArray := prog_5_method_1_code
def yX3_init : MethodName := ⟨RX3, "<init>", "()V"⟩
def RX4 : String := "LoatheMatch$Law"
def TX4 : u_T := fun k => match k with
  | 0 => ("LoatheMatch$Law", "steps", "[I", true)
  | _ => ("LoatheMatch$Law", "size", "I", false)
def tyX4 : Nat → FieldType := fun k => match k with
  | 0 => .array .int
  | _ => .int
abbrev wsX40 : List Cond := u_ws RX4 TX4 2
theorem nmX4 : ∀ a, a < 2 → ∀ b, b < 2 → a ≠ b → (TX4 a).2.1 ≠ (TX4 b).2.1 := by decide +kernel
theorem tyX4_ok : ∀ k, k < 2 → parseFieldDescriptor (TX4 k).2.2.1 = some (tyX4 k) := by decide +kernel
abbrev cX4_init : ByteArray := prog_6_method_1_code
def yX4_init : MethodName := ⟨RX4, "<init>", "()V"⟩
abbrev cX4_ofTerm : ByteArray := prog_6_method_2_code
def yX4_ofTerm : MethodName := ⟨RX4, "ofTerm", "(I)I"⟩
abbrev cX4_add : ByteArray := prog_6_method_3_code
def yX4_add : MethodName := ⟨RX4, "add", "(I)V"⟩
abbrev cX4_become : ByteArray := prog_6_method_4_code
def yX4_become : MethodName := ⟨RX4, "become", "(LLoatheMatch$Law;)V"⟩
def RX5 : String := "LoatheMatch$Life"
def TX5 : u_T := fun k => match k with
  | 0 => ("LoatheMatch$Life", "year", "I", false)
  | 1 => ("LoatheMatch$Life", "age", "[I", true)
  | 2 => ("LoatheMatch$Life", "mate", "[I", true)
  | 3 => ("LoatheMatch$Life", "list", "[I", true)
  | 4 => ("LoatheMatch$Life", "who", "[I", true)
  | _ => ("LoatheMatch$Life", "held", "[I", true)
def tyX5 : Nat → FieldType := fun k => match k with
  | 0 => .int
  | 1 => .array .int
  | 2 => .array .int
  | 3 => .array .int
  | 4 => .array .int
  | _ => .array .int
abbrev wsX50 : List Cond := u_ws RX5 TX5 6
theorem nmX5 : ∀ a, a < 6 → ∀ b, b < 6 → a ≠ b → (TX5 a).2.1 ≠ (TX5 b).2.1 := by decide +kernel
theorem tyX5_ok : ∀ k, k < 6 → parseFieldDescriptor (TX5 k).2.2.1 = some (tyX5 k) := by decide +kernel
abbrev cX5_init : ByteArray := prog_7_method_1_code
def yX5_init : MethodName := ⟨RX5, "<init>", "()V"⟩
abbrev cX5_clear : ByteArray := prog_7_method_2_code
def yX5_clear : MethodName := ⟨RX5, "clear", "()V"⟩
abbrev cX5_become : ByteArray := prog_7_method_3_code
def yX5_become : MethodName := ⟨RX5, "become", "(LLoatheMatch$Life;)V"⟩
abbrev cX5_has : ByteArray := prog_7_method_4_code
def yX5_has : MethodName := ⟨RX5, "has", "(II)Z"⟩
abbrev cX5_adopt : ByteArray := prog_7_method_5_code
def yX5_adopt : MethodName := ⟨RX5, "adopt", "(III)V"⟩
abbrev cX5_drop : ByteArray := prog_7_method_6_code
def yX5_drop : MethodName := ⟨RX5, "drop", "(II)V"⟩
abbrev cX5_copyList : ByteArray := prog_7_method_7_code
def yX5_copyList : MethodName := ⟨RX5, "copyList", "(II)V"⟩
abbrev cX5_marry : ByteArray := prog_7_method_8_code
def yX5_marry : MethodName := ⟨RX5, "marry", "(II)V"⟩
abbrev cX5_split : ByteArray := prog_7_method_9_code
def yX5_split : MethodName := ⟨RX5, "split", "(I)V"⟩
def RX6 : String := "LoatheMatch$Matching"
def TX6 : u_T := fun k => match k with
  | 0 => ("LoatheMatch$Matching", "people", "I", false)
  | 1 => ("LoatheMatch$Matching", "open", "[Z", true)
  | 2 => ("LoatheMatch$Matching", "worth", "[I", true)
  | 3 => ("LoatheMatch$Matching", "weight", "[I", true)
  | 4 => ("LoatheMatch$Matching", "choice", "[I", true)
  | _ => ("LoatheMatch$Matching", "with", "[I", true)
def tyX6 : Nat → FieldType := fun k => match k with
  | 0 => .int
  | 1 => .array .boolean
  | 2 => .array .int
  | 3 => .array .int
  | 4 => .array .int
  | _ => .array .int
abbrev wsX60 : List Cond := u_ws RX6 TX6 6
theorem nmX6 : ∀ a, a < 6 → ∀ b, b < 6 → a ≠ b → (TX6 a).2.1 ≠ (TX6 b).2.1 := by decide +kernel
theorem tyX6_ok : ∀ k, k < 6 → parseFieldDescriptor (TX6 k).2.2.1 = some (tyX6 k) := by decide +kernel
abbrev cX6_init : ByteArray := prog_8_method_1_code
def yX6_init : MethodName := ⟨RX6, "<init>", "()V"⟩
abbrev cX6_survey : ByteArray := prog_8_method_2_code
def yX6_survey : MethodName := ⟨RX6, "survey", "(LLoatheMatch$World;)V"⟩
abbrev cX6_isOpen : ByteArray := prog_8_method_3_code
def yX6_isOpen : MethodName := ⟨RX6, "isOpen", "(II)Z"⟩
abbrev cX6_close : ByteArray := prog_8_method_4_code
def yX6_close : MethodName := ⟨RX6, "close", "(II)V"⟩
abbrev cX6_solve : ByteArray := prog_8_method_5_code
def yX6_solve : MethodName := ⟨RX6, "solve", "()V"⟩
abbrev cX6_choose : ByteArray := prog_8_method_6_code
def yX6_choose : MethodName := ⟨RX6, "choose", "(I)V"⟩
abbrev cX6_follow : ByteArray := prog_8_method_7_code
def yX6_follow : MethodName := ⟨RX6, "follow", "(I)V"⟩
abbrev cX6_joins : ByteArray := prog_8_method_8_code
def yX6_joins : MethodName := ⟨RX6, "joins", "(III)Z"⟩
abbrev cX6_leaveAlone : ByteArray := prog_8_method_9_code
def yX6_leaveAlone : MethodName := ⟨RX6, "leaveAlone", "()V"⟩
abbrev cX6_seat : ByteArray := prog_8_method_10_code
def yX6_seat : MethodName := ⟨RX6, "seat", "([I)V"⟩
abbrev cX6_tally : ByteArray := prog_8_method_11_code
def yX6_tally : MethodName := ⟨RX6, "tally", "(II)I"⟩
abbrev cX6_settle : ByteArray := prog_8_method_12_code
def yX6_settle : MethodName := ⟨RX6, "settle", "(I)Z"⟩
abbrev cX6_firstBreak : ByteArray := prog_8_method_13_code
def yX6_firstBreak : MethodName := ⟨RX6, "firstBreak", "()I"⟩
abbrev cX6_goodNow : ByteArray := prog_8_method_14_code
def yX6_goodNow : MethodName := ⟨RX6, "goodNow", "(I)I"⟩
abbrev cX6_answer : ByteArray := prog_8_method_15_code
def yX6_answer : MethodName := ⟨RX6, "answer", "(I)I"⟩
def RX7 : String := "LoatheMatch$Reader"
def TX7 : u_T := fun k => match k with
  | 0 => ("LoatheMatch$Reader", "text", "[B", true)
  | 1 => ("LoatheMatch$Reader", "rules", "LLoatheMatch$Rules;", true)
  | 2 => ("LoatheMatch$Reader", "life", "LLoatheMatch$Life;", true)
  | 3 => ("LoatheMatch$Reader", "law", "LLoatheMatch$Law;", false)
  | 4 => ("LoatheMatch$Reader", "length", "I", false)
  | 5 => ("LoatheMatch$Reader", "token", "I", false)
  | 6 => ("LoatheMatch$Reader", "start", "I", false)
  | 7 => ("LoatheMatch$Reader", "end", "I", false)
  | 8 => ("LoatheMatch$Reader", "faultKind", "I", false)
  | _ => ("LoatheMatch$Reader", "faultPlace", "I", false)
def tyX7 : Nat → FieldType := fun k => match k with
  | 0 => .array .byte
  | 1 => .object "LoatheMatch$Rules"
  | 2 => .object "LoatheMatch$Life"
  | 3 => .object "LoatheMatch$Law"
  | 4 => .int
  | 5 => .int
  | 6 => .int
  | 7 => .int
  | 8 => .int
  | _ => .int
abbrev wsX70 : List Cond := u_ws RX7 TX7 10
theorem nmX7 : ∀ a, a < 10 → ∀ b, b < 10 → a ≠ b → (TX7 a).2.1 ≠ (TX7 b).2.1 := by decide +kernel
theorem tyX7_ok : ∀ k, k < 10 → parseFieldDescriptor (TX7 k).2.2.1 = some (tyX7 k) := by decide +kernel
abbrev cX7_init : ByteArray := prog_9_method_1_code
def yX7_init : MethodName := ⟨RX7, "<init>", "([BLLoatheMatch$Rules;LLoatheMatch$Life;)V"⟩
abbrev cX7_readText : ByteArray := prog_9_method_2_code
def yX7_readText : MethodName := ⟨RX7, "readText", "(I)V"⟩
abbrev cX7_readLine : ByteArray := prog_9_method_3_code
def yX7_readLine : MethodName := ⟨RX7, "readLine", "()Z"⟩
abbrev cX7_readThing : ByteArray := prog_9_method_4_code
def yX7_readThing : MethodName := ⟨RX7, "readThing", "()Z"⟩
abbrev cX7_readPerson : ByteArray := prog_9_method_5_code
def yX7_readPerson : MethodName := ⟨RX7, "readPerson", "()Z"⟩
abbrev cX7_readThings : ByteArray := prog_9_method_6_code
def yX7_readThings : MethodName := ⟨RX7, "readThings", "()I"⟩
abbrev cX7_readTruth : ByteArray := prog_9_method_7_code
def yX7_readTruth : MethodName := ⟨RX7, "readTruth", "(I)Z"⟩
abbrev cX7_readBoth : ByteArray := prog_9_method_8_code
def yX7_readBoth : MethodName := ⟨RX7, "readBoth", "(I)Z"⟩
abbrev cX7_readUnit : ByteArray := prog_9_method_9_code
def yX7_readUnit : MethodName := ⟨RX7, "readUnit", "(I)Z"⟩
abbrev cX7_comparison : ByteArray := prog_9_method_10_code
def yX7_comparison : MethodName := ⟨RX7, "comparison", "()I"⟩
abbrev cX7_readSum : ByteArray := prog_9_method_11_code
def yX7_readSum : MethodName := ⟨RX7, "readSum", "(I)Z"⟩
abbrev cX7_readTerm : ByteArray := prog_9_method_12_code
def yX7_readTerm : MethodName := ⟨RX7, "readTerm", "(I)Z"⟩
abbrev cX7_readAtom : ByteArray := prog_9_method_13_code
def yX7_readAtom : MethodName := ⟨RX7, "readAtom", "(I)Z"⟩
abbrev cX7_termWord : ByteArray := prog_9_method_14_code
def yX7_termWord : MethodName := ⟨RX7, "termWord", "()I"⟩
abbrev cX7_goDeeper : ByteArray := prog_9_method_15_code
def yX7_goDeeper : MethodName := ⟨RX7, "goDeeper", "(I)Z"⟩
abbrev cX7_readNumber : ByteArray := prog_9_method_16_code
def yX7_readNumber : MethodName := ⟨RX7, "readNumber", "(II)I"⟩
abbrev cX7_pass : ByteArray := prog_9_method_17_code
def yX7_pass : MethodName := ⟨RX7, "pass", "(I)Z"⟩
abbrev cX7_passWord : ByteArray := prog_9_method_18_code
def yX7_passWord : MethodName := ⟨RX7, "passWord", "(Ljava/lang/String;)Z"⟩
abbrev cX7_refuse : ByteArray := prog_9_method_19_code
def yX7_refuse : MethodName := ⟨RX7, "refuse", "()Z"⟩
abbrev cX7_blame : ByteArray := prog_9_method_20_code
def yX7_blame : MethodName := ⟨RX7, "blame", "(I)Z"⟩
abbrev cX7_isWord : ByteArray := prog_9_method_21_code
def yX7_isWord : MethodName := ⟨RX7, "isWord", "(Ljava/lang/String;)Z"⟩
abbrev cX7_next : ByteArray := prog_9_method_22_code
def yX7_next : MethodName := ⟨RX7, "next", "()V"⟩
abbrev cX7_isLetter : ByteArray := prog_9_method_23_code
def yX7_isLetter : MethodName := ⟨RX7, "isLetter", "(I)Z"⟩
abbrev cX7_isDigit : ByteArray := prog_9_method_24_code
def yX7_isDigit : MethodName := ⟨RX7, "isDigit", "(I)Z"⟩
def RX8 : String := "LoatheMatch$Rules"
def TX8 : u_T := fun k => match k with
  | 0 => ("LoatheMatch$Rules", "things", "I", false)
  | 1 => ("LoatheMatch$Rules", "people", "I", false)
  | 2 => ("LoatheMatch$Rules", "bar", "I", false)
  | 3 => ("LoatheMatch$Rules", "room", "I", false)
  | 4 => ("LoatheMatch$Rules", "lines", "I", false)
  | 5 => ("LoatheMatch$Rules", "wanes", "[I", true)
  | 6 => ("LoatheMatch$Rules", "traits", "[I", true)
  | 7 => ("LoatheMatch$Rules", "goodLaw", "LLoatheMatch$Law;", true)
  | _ => ("LoatheMatch$Rules", "mayLaw", "LLoatheMatch$Law;", true)
def tyX8 : Nat → FieldType := fun k => match k with
  | 0 => .int
  | 1 => .int
  | 2 => .int
  | 3 => .int
  | 4 => .int
  | 5 => .array .int
  | 6 => .array .int
  | 7 => .object "LoatheMatch$Law"
  | _ => .object "LoatheMatch$Law"
abbrev wsX80 : List Cond := u_ws RX8 TX8 9
theorem nmX8 : ∀ a, a < 9 → ∀ b, b < 9 → a ≠ b → (TX8 a).2.1 ≠ (TX8 b).2.1 := by decide +kernel
theorem tyX8_ok : ∀ k, k < 9 → parseFieldDescriptor (TX8 k).2.2.1 = some (tyX8 k) := by decide +kernel
abbrev cX8_init : ByteArray := prog_10_method_1_code
def yX8_init : MethodName := ⟨RX8, "<init>", "()V"⟩
abbrev cX8_clear : ByteArray := prog_10_method_2_code
def yX8_clear : MethodName := ⟨RX8, "clear", "()V"⟩
abbrev cX8_setFirstLaws : ByteArray := prog_10_method_3_code
def yX8_setFirstLaws : MethodName := ⟨RX8, "setFirstLaws", "()V"⟩
abbrev cX8_become : ByteArray := prog_10_method_4_code
def yX8_become : MethodName := ⟨RX8, "become", "(LLoatheMatch$Rules;)V"⟩
abbrev cX8_everybody : ByteArray := prog_10_method_5_code
def yX8_everybody : MethodName := ⟨RX8, "everybody", "()I"⟩
abbrev cX8_whoAre : ByteArray := prog_10_method_6_code
def yX8_whoAre : MethodName := ⟨RX8, "whoAre", "(I)I"⟩
abbrev cX8_traitsBut : ByteArray := prog_10_method_7_code
def yX8_traitsBut : MethodName := ⟨RX8, "traitsBut", "(I)I"⟩
def RX9 : String := "LoatheMatch$Tray"
def TX9 : u_T := fun k => match k with
  | 0 => ("LoatheMatch$Tray", "present", "Z", false)
  | 1 => ("LoatheMatch$Tray", "size", "I", false)
  | 2 => ("LoatheMatch$Tray", "sort", "I", false)
  | _ => ("LoatheMatch$Tray", "number", "[J", true)
def tyX9 : Nat → FieldType := fun k => match k with
  | 0 => .boolean
  | 1 => .int
  | 2 => .int
  | _ => .array .long
abbrev wsX90 : List Cond := u_ws RX9 TX9 4
theorem nmX9 : ∀ a, a < 4 → ∀ b, b < 4 → a ≠ b → (TX9 a).2.1 ≠ (TX9 b).2.1 := by decide +kernel
theorem tyX9_ok : ∀ k, k < 4 → parseFieldDescriptor (TX9 k).2.2.1 = some (tyX9 k) := by decide +kernel
abbrev cX9_init : ByteArray := prog_11_method_1_code
def yX9_init : MethodName := ⟨RX9, "<init>", "()V"⟩
abbrev cX9_lay : ByteArray := prog_11_method_2_code
def yX9_lay : MethodName := ⟨RX9, "lay", "(II)V"⟩
abbrev cX9_cut : ByteArray := prog_11_method_3_code
def yX9_cut : MethodName := ⟨RX9, "cut", "(J)J"⟩
def RX10 : String := "LoatheMatch$World"
def TX10 : u_T := fun k => match k with
  | 0 => ("LoatheMatch$World", "rules", "LLoatheMatch$Rules;", true)
  | 1 => ("LoatheMatch$World", "couple", "LLoatheMatch$Couple;", true)
  | 2 => ("LoatheMatch$World", "life", "LLoatheMatch$Life;", true)
  | _ => ("LoatheMatch$World", "why", "I", false)
def tyX10 : Nat → FieldType := fun k => match k with
  | 0 => .object "LoatheMatch$Rules"
  | 1 => .object "LoatheMatch$Couple"
  | 2 => .object "LoatheMatch$Life"
  | _ => .int
abbrev wsX100 : List Cond := u_ws RX10 TX10 4
theorem nmX10 : ∀ a, a < 4 → ∀ b, b < 4 → a ≠ b → (TX10 a).2.1 ≠ (TX10 b).2.1 := by decide +kernel
theorem tyX10_ok : ∀ k, k < 4 → parseFieldDescriptor (TX10 k).2.2.1 = some (tyX10 k) := by decide +kernel
abbrev cX10_init : ByteArray := prog_12_method_1_code
def yX10_init : MethodName := ⟨RX10, "<init>", "(LLoatheMatch$Rules;LLoatheMatch$Couple;)V"⟩
abbrev cX10_isPerson : ByteArray := prog_12_method_2_code
def yX10_isPerson : MethodName := ⟨RX10, "isPerson", "(I)Z"⟩
abbrev cX10_isThing : ByteArray := prog_12_method_3_code
def yX10_isThing : MethodName := ⟨RX10, "isThing", "(I)Z"⟩
abbrev cX10_areTwo : ByteArray := prog_12_method_4_code
def yX10_areTwo : MethodName := ⟨RX10, "areTwo", "(II)Z"⟩
abbrev cX10_rarity : ByteArray := prog_12_method_5_code
def yX10_rarity : MethodName := ⟨RX10, "rarity", "(I)I"⟩
abbrev cX10_measure : ByteArray := prog_12_method_6_code
def yX10_measure : MethodName := ⟨RX10, "measure", "(IIII)V"⟩
abbrev cX10_goodnessWith : ByteArray := prog_12_method_7_code
def yX10_goodnessWith : MethodName := ⟨RX10, "goodnessWith", "(IIII)I"⟩
abbrev cX10_goodness : ByteArray := prog_12_method_8_code
def yX10_goodness : MethodName := ⟨RX10, "goodness", "(II)I"⟩
abbrev cX10_isAllowed : ByteArray := prog_12_method_9_code
def yX10_isAllowed : MethodName := ⟨RX10, "isAllowed", "(II)Z"⟩
abbrev cX10_whyNotMarry : ByteArray := prog_12_method_10_code
def yX10_whyNotMarry : MethodName := ⟨RX10, "whyNotMarry", "(II)I"⟩
abbrev cX10_whyNotTake : ByteArray := prog_12_method_11_code
def yX10_whyNotTake : MethodName := ⟨RX10, "whyNotTake", "(II)I"⟩
abbrev cX10_hasRoom : ByteArray := prog_12_method_12_code
def yX10_hasRoom : MethodName := ⟨RX10, "hasRoom", "(I)Z"⟩
abbrev cX10_takeOrGive : ByteArray := prog_12_method_13_code
def yX10_takeOrGive : MethodName := ⟨RX10, "takeOrGive", "(II)V"⟩
abbrev cX10_attempt : ByteArray := prog_12_method_14_code
def yX10_attempt : MethodName := ⟨RX10, "attempt", "(J)I"⟩
abbrev cX10_attemptMarriage : ByteArray := prog_12_method_15_code
def yX10_attemptMarriage : MethodName := ⟨RX10, "attemptMarriage", "(II)I"⟩
abbrev cX10_attemptTaking : ByteArray := prog_12_method_16_code
def yX10_attemptTaking : MethodName := ⟨RX10, "attemptTaking", "(II)I"⟩
abbrev cX10_attemptCopy : ByteArray := prog_12_method_17_code
def yX10_attemptCopy : MethodName := ⟨RX10, "attemptCopy", "(II)I"⟩
abbrev cX10_passYear : ByteArray := prog_12_method_18_code
def yX10_passYear : MethodName := ⟨RX10, "passYear", "()I"⟩
abbrev cX10_passYearOfTwo : ByteArray := prog_12_method_19_code
def yX10_passYearOfTwo : MethodName := ⟨RX10, "passYearOfTwo", "(II)V"⟩
abbrev cX10_passYearAround : ByteArray := prog_12_method_20_code
def yX10_passYearAround : MethodName := ⟨RX10, "passYearAround", "(I)V"⟩
abbrev cX10_growOlder : ByteArray := prog_12_method_21_code
def yX10_growOlder : MethodName := ⟨RX10, "growOlder", "(I)I"⟩
abbrev cX10_exchange : ByteArray := prog_12_method_22_code
def yX10_exchange : MethodName := ⟨RX10, "exchange", "(II)V"⟩
abbrev cX10_wish : ByteArray := prog_12_method_23_code
def yX10_wish : MethodName := ⟨RX10, "wish", "(II)I"⟩
abbrev cX10_couples : ByteArray := prog_12_method_24_code
def yX10_couples : MethodName := ⟨RX10, "couples", "()I"⟩
abbrev cX10_goodOfCouples : ByteArray := prog_12_method_25_code
def yX10_goodOfCouples : MethodName := ⟨RX10, "goodOfCouples", "()I"⟩
abbrev cX10_onAllLists : ByteArray := prog_12_method_26_code
def yX10_onAllLists : MethodName := ⟨RX10, "onAllLists", "()I"⟩
abbrev cX10_anyOf : ByteArray := prog_12_method_27_code
def yX10_anyOf : MethodName := ⟨RX10, "anyOf", "(I)I"⟩
abbrev cX10_allOf : ByteArray := prog_12_method_28_code
def yX10_allOf : MethodName := ⟨RX10, "allOf", "(I)I"⟩
def RX11 : String := "LoatheMatch"
def TX11 : u_T := fun k => match k with
  | 0 => ("LoatheMatch", "tape", "[B", true)
  | 1 => ("LoatheMatch", "taped", "I", false)
  | 2 => ("LoatheMatch", "drawn", "I", false)
  | 3 => ("LoatheMatch", "rules", "LLoatheMatch$Rules;", true)
  | 4 => ("LoatheMatch", "toldRules", "LLoatheMatch$Rules;", true)
  | 5 => ("LoatheMatch", "toldLife", "LLoatheMatch$Life;", true)
  | 6 => ("LoatheMatch", "now", "LLoatheMatch$World;", true)
  | 7 => ("LoatheMatch", "trial", "LLoatheMatch$World;", true)
  | 8 => ("LoatheMatch", "reader", "LLoatheMatch$Reader;", true)
  | 9 => ("LoatheMatch", "history", "LLoatheMatch$History;", true)
  | 10 => ("LoatheMatch", "matching", "LLoatheMatch$Matching;", true)
  | 11 => ("LoatheMatch", "fibs", "LLoatheMatch$Fibs;", true)
  | 12 => ("LoatheMatch", "trays", "[LLoatheMatch$Tray;", true)
  | _ => ("LoatheMatch", "images", "[LLoatheMatch$Image;", true)
def tyX11 : Nat → FieldType := fun k => match k with
  | 0 => .array .byte
  | 1 => .int
  | 2 => .int
  | 3 => .object "LoatheMatch$Rules"
  | 4 => .object "LoatheMatch$Rules"
  | 5 => .object "LoatheMatch$Life"
  | 6 => .object "LoatheMatch$World"
  | 7 => .object "LoatheMatch$World"
  | 8 => .object "LoatheMatch$Reader"
  | 9 => .object "LoatheMatch$History"
  | 10 => .object "LoatheMatch$Matching"
  | 11 => .object "LoatheMatch$Fibs"
  | 12 => .array (.object "LoatheMatch$Tray")
  | _ => .array (.object "LoatheMatch$Image")
abbrev wsX110 : List Cond := u_ws RX11 TX11 14
theorem nmX11 : ∀ a, a < 14 → ∀ b, b < 14 → a ≠ b → (TX11 a).2.1 ≠ (TX11 b).2.1 := by decide +kernel
theorem tyX11_ok : ∀ k, k < 14 → parseFieldDescriptor (TX11 k).2.2.1 = some (tyX11 k) := by decide +kernel
abbrev cX11_init : ByteArray := prog_1_method_1_code
def yX11_init : MethodName := ⟨RX11, "<init>", "()V"⟩
abbrev cX11_feed : ByteArray := prog_1_method_2_code
def yX11_feed : MethodName := ⟨RX11, "feed", "(IIIII)I"⟩
abbrev cX11_bureau : ByteArray := prog_1_method_3_code
def yX11_bureau : MethodName := ⟨RX11, "bureau", "(I)I"⟩
abbrev cX11_fault : ByteArray := prog_1_method_4_code
def yX11_fault : MethodName := ⟨RX11, "fault", "(I)I"⟩
abbrev cX11_person : ByteArray := prog_1_method_5_code
def yX11_person : MethodName := ⟨RX11, "person", "(II)I"⟩
abbrev cX11_since : ByteArray := prog_1_method_6_code
def yX11_since : MethodName := ⟨RX11, "since", "(II)I"⟩
abbrev cX11_thing : ByteArray := prog_1_method_7_code
def yX11_thing : MethodName := ⟨RX11, "thing", "(II)I"⟩
abbrev cX11_pair : ByteArray := prog_1_method_8_code
def yX11_pair : MethodName := ⟨RX11, "pair", "(III)I"⟩
abbrev cX11_good : ByteArray := prog_1_method_9_code
def yX11_good : MethodName := ⟨RX11, "good", "(II)I"⟩
abbrev cX11_may : ByteArray := prog_1_method_10_code
def yX11_may : MethodName := ⟨RX11, "may", "(II)I"⟩
abbrev cX11_wed : ByteArray := prog_1_method_11_code
def yX11_wed : MethodName := ⟨RX11, "wed", "(II)I"⟩
abbrev cX11_part : ByteArray := prog_1_method_12_code
def yX11_part : MethodName := ⟨RX11, "part", "(I)I"⟩
abbrev cX11_takes : ByteArray := prog_1_method_13_code
def yX11_takes : MethodName := ⟨RX11, "takes", "(II)I"⟩
abbrev cX11_copies : ByteArray := prog_1_method_14_code
def yX11_copies : MethodName := ⟨RX11, "copies", "(II)I"⟩
abbrev cX11_years : ByteArray := prog_1_method_15_code
def yX11_years : MethodName := ⟨RX11, "years", "(I)I"⟩
abbrev cX11_undo : ByteArray := prog_1_method_16_code
def yX11_undo : MethodName := ⟨RX11, "undo", "(I)I"⟩
abbrev cX11_judge : ByteArray := prog_1_method_17_code
def yX11_judge : MethodName := ⟨RX11, "judge", "(II)I"⟩
abbrev cX11_perform : ByteArray := prog_1_method_18_code
def yX11_perform : MethodName := ⟨RX11, "perform", "(I)I"⟩
abbrev cX11_season : ByteArray := prog_1_method_19_code
def yX11_season : MethodName := ⟨RX11, "season", "(II)I"⟩
abbrev cX11_matchings : ByteArray := prog_1_method_20_code
def yX11_matchings : MethodName := ⟨RX11, "matchings", "(I)I"⟩
abbrev cX11_most : ByteArray := prog_1_method_21_code
def yX11_most : MethodName := ⟨RX11, "most", "(I)I"⟩
abbrev cX11_stable : ByteArray := prog_1_method_22_code
def yX11_stable : MethodName := ⟨RX11, "stable", "(I)I"⟩
abbrev cX11_breaks : ByteArray := prog_1_method_23_code
def yX11_breaks : MethodName := ⟨RX11, "breaks", "()I"⟩
abbrev cX11_matchAll : ByteArray := prog_1_method_24_code
def yX11_matchAll : MethodName := ⟨RX11, "matchAll", "()I"⟩
abbrev cX11_dearest : ByteArray := prog_1_method_25_code
def yX11_dearest : MethodName := ⟨RX11, "dearest", "(I)I"⟩
abbrev cX11_holds : ByteArray := prog_1_method_26_code
def yX11_holds : MethodName := ⟨RX11, "holds", "(II)I"⟩
abbrev cX11_goodIn : ByteArray := prog_1_method_27_code
def yX11_goodIn : MethodName := ⟨RX11, "goodIn", "(III)I"⟩
abbrev cX11_lasting : ByteArray := prog_1_method_28_code
def yX11_lasting : MethodName := ⟨RX11, "lasting", "(II)I"⟩
abbrev cX11_later : ByteArray := prog_1_method_29_code
def yX11_later : MethodName := ⟨RX11, "later", "(II)I"⟩
abbrev cX11_byWhen : ByteArray := prog_1_method_30_code
def yX11_byWhen : MethodName := ⟨RX11, "byWhen", "(II)I"⟩
abbrev cX11_leftFor : ByteArray := prog_1_method_31_code
def yX11_leftFor : MethodName := ⟨RX11, "leftFor", "(III)I"⟩
abbrev cX11_fib : ByteArray := prog_1_method_32_code
def yX11_fib : MethodName := ⟨RX11, "fib", "(III)I"⟩
abbrev cX11_strikes : ByteArray := prog_1_method_33_code
def yX11_strikes : MethodName := ⟨RX11, "strikes", "(III)I"⟩
abbrev cX11_sharer : ByteArray := prog_1_method_34_code
def yX11_sharer : MethodName := ⟨RX11, "sharer", "(I)I"⟩
abbrev cX11_pieced : ByteArray := prog_1_method_35_code
def yX11_pieced : MethodName := ⟨RX11, "pieced", "(II)I"⟩
abbrev cX11_child : ByteArray := prog_1_method_36_code
def yX11_child : MethodName := ⟨RX11, "child", "(II)I"⟩
abbrev cX11_houses : ByteArray := prog_1_method_37_code
def yX11_houses : MethodName := ⟨RX11, "houses", "(II)I"⟩
abbrev cX11_biggest : ByteArray := prog_1_method_38_code
def yX11_biggest : MethodName := ⟨RX11, "biggest", "(II)I"⟩
abbrev cX11_peace : ByteArray := prog_1_method_39_code
def yX11_peace : MethodName := ⟨RX11, "peace", "()I"⟩
abbrev cX11_angry : ByteArray := prog_1_method_40_code
def yX11_angry : MethodName := ⟨RX11, "angry", "()I"⟩
abbrev cX11_numbers : ByteArray := prog_1_method_41_code
def yX11_numbers : MethodName := ⟨RX11, "numbers", "(III)I"⟩
abbrev cX11_write : ByteArray := prog_1_method_42_code
def yX11_write : MethodName := ⟨RX11, "write", "(IIJ)J"⟩
abbrev cX11_lists : ByteArray := prog_1_method_43_code
def yX11_lists : MethodName := ⟨RX11, "lists", "(I)I"⟩
abbrev cX11_image : ByteArray := prog_1_method_44_code
def yX11_image : MethodName := ⟨RX11, "image", "(I)I"⟩
abbrev cX11_restore : ByteArray := prog_1_method_45_code
def yX11_restore : MethodName := ⟨RX11, "restore", "(I)I"⟩
abbrev cX11_count : ByteArray := prog_1_method_46_code
def yX11_count : MethodName := ⟨RX11, "count", "(I)I"⟩
abbrev cX11_isTray : ByteArray := prog_1_method_47_code
def yX11_isTray : MethodName := ⟨RX11, "isTray", "(I)Z"⟩
abbrev cX11_isImage : ByteArray := prog_1_method_48_code
def yX11_isImage : MethodName := ⟨RX11, "isImage", "(I)Z"⟩
abbrev cX11_isEither : ByteArray := prog_1_method_49_code
def yX11_isEither : MethodName := ⟨RX11, "isEither", "(I)Z"⟩
abbrev cX11_isMatchingQuestion : ByteArray := prog_1_method_50_code
def yX11_isMatchingQuestion : MethodName := ⟨RX11, "isMatchingQuestion", "(I)Z"⟩
abbrev cX11_isHouse : ByteArray := prog_1_method_51_code
def yX11_isHouse : MethodName := ⟨RX11, "isHouse", "(II)Z"⟩
abbrev cX11_tapeFour : ByteArray := prog_1_method_52_code
def yX11_tapeFour : MethodName := ⟨RX11, "tapeFour", "(I)V"⟩
abbrev cX11_rehearse : ByteArray := prog_1_method_53_code
def yX11_rehearse : MethodName := ⟨RX11, "rehearse", "(LLoatheMatch$Tray;)I"⟩
abbrev cX11_acceptTrial : ByteArray := prog_1_method_54_code
def yX11_acceptTrial : MethodName := ⟨RX11, "acceptTrial", "(I)V"⟩
abbrev cX11_drawDeed : ByteArray := prog_1_method_55_code
def yX11_drawDeed : MethodName := ⟨RX11, "drawDeed", "()I"⟩
abbrev cX11_draw : ByteArray := prog_1_method_56_code
def yX11_draw : MethodName := ⟨RX11, "draw", "(I)I"⟩
abbrev cX11_endurance : ByteArray := prog_1_method_57_code
def yX11_endurance : MethodName := ⟨RX11, "endurance", "(III)I"⟩
def RX12 : String := "LoatheMatchModel"
def TX12 : u_T := fun k => match k with
  | 0 => ("LoatheMatchModel", "thrown", "I", false)
  | 1 => ("LoatheMatchModel", "all", "[I", true)
  | 2 => ("LoatheMatchModel", "hasImage", "[Z", true)
  | 3 => ("LoatheMatchModel", "tape", "[I", true)
  | 4 => ("LoatheMatchModel", "fresh", "[I", true)
  | 5 => ("LoatheMatchModel", "taped", "I", false)
  | 6 => ("LoatheMatchModel", "at", "I", false)
  | 7 => ("LoatheMatchModel", "behind", "I", false)
  | 8 => ("LoatheMatchModel", "size", "I", false)
  | 9 => ("LoatheMatchModel", "kind", "I", false)
  | 10 => ("LoatheMatchModel", "number", "I", false)
  | 11 => ("LoatheMatchModel", "wrong", "I", false)
  | 12 => ("LoatheMatchModel", "wrongAt", "I", false)
  | 13 => ("LoatheMatchModel", "faultKind", "I", false)
  | 14 => ("LoatheMatchModel", "faultPlace", "I", false)
  | 15 => ("LoatheMatchModel", "words", "[I", true)
  | 16 => ("LoatheMatchModel", "reckoned", "[I", true)
  | 17 => ("LoatheMatchModel", "was", "[I", true)
  | 18 => ("LoatheMatchModel", "lists", "[I", true)
  | 19 => ("LoatheMatchModel", "toldWhy", "I", false)
  | 20 => ("LoatheMatchModel", "x", "I", false)
  | 21 => ("LoatheMatchModel", "goods", "[I", true)
  | 22 => ("LoatheMatchModel", "with", "[I", true)
  | 23 => ("LoatheMatchModel", "best", "[I", true)
  | 24 => ("LoatheMatchModel", "mays", "[Z", true)
  | 25 => ("LoatheMatchModel", "bestPairs", "I", false)
  | 26 => ("LoatheMatchModel", "bestGood", "I", false)
  | 27 => ("LoatheMatchModel", "counted", "I", false)
  | 28 => ("LoatheMatchModel", "isStable", "Z", false)
  | 29 => ("LoatheMatchModel", "ahead", "[I", true)
  | 30 => ("LoatheMatchModel", "rowSort", "[I", true)
  | 31 => ("LoatheMatchModel", "rowMany", "[I", true)
  | _ => ("LoatheMatchModel", "numbers", "[J", true)
def tyX12 : Nat → FieldType := fun k => match k with
  | 0 => .int
  | 1 => .array .int
  | 2 => .array .boolean
  | 3 => .array .int
  | 4 => .array .int
  | 5 => .int
  | 6 => .int
  | 7 => .int
  | 8 => .int
  | 9 => .int
  | 10 => .int
  | 11 => .int
  | 12 => .int
  | 13 => .int
  | 14 => .int
  | 15 => .array .int
  | 16 => .array .int
  | 17 => .array .int
  | 18 => .array .int
  | 19 => .int
  | 20 => .int
  | 21 => .array .int
  | 22 => .array .int
  | 23 => .array .int
  | 24 => .array .boolean
  | 25 => .int
  | 26 => .int
  | 27 => .int
  | 28 => .boolean
  | 29 => .array .int
  | 30 => .array .int
  | 31 => .array .int
  | _ => .array .long
abbrev wsX120 : List Cond := u_ws RX12 TX12 33
theorem nmX12 : ∀ a, a < 33 → ∀ b, b < 33 → a ≠ b → (TX12 a).2.1 ≠ (TX12 b).2.1 := by decide +kernel
theorem tyX12_ok : ∀ k, k < 33 → parseFieldDescriptor (TX12 k).2.2.1 = some (tyX12 k) := by decide +kernel
abbrev cX12_within : ByteArray := prog_14_method_2_code
def yX12_within : MethodName := ⟨RX12, "within", "(JJJ)Z"⟩
abbrev cX12_init : ByteArray := prog_14_method_3_code
def yX12_init : MethodName := ⟨RX12, "<init>", "()V"⟩
abbrev cX12_plain : ByteArray := prog_14_method_4_code
def yX12_plain : MethodName := ⟨RX12, "plain", "([I)V"⟩
abbrev cX12_feed : ByteArray := prog_14_method_5_code
def yX12_feed : MethodName := ⟨RX12, "feed", "(IIIII)I"⟩
abbrev cX12_see : ByteArray := prog_14_method_6_code
def yX12_see : MethodName := ⟨RX12, "see", "(I)I"⟩
abbrev cX12_isSmall : ByteArray := prog_14_method_7_code
def yX12_isSmall : MethodName := ⟨RX12, "isSmall", "(I)Z"⟩
abbrev cX12_isDigit : ByteArray := prog_14_method_8_code
def yX12_isDigit : MethodName := ⟨RX12, "isDigit", "(I)Z"⟩
abbrev cX12_keyAt : ByteArray := prog_14_method_9_code
def yX12_keyAt : MethodName := ⟨RX12, "keyAt", "()I"⟩
abbrev cX12_next : ByteArray := prog_14_method_10_code
def yX12_next : MethodName := ⟨RX12, "next", "()V"⟩
abbrev cX12_fails : ByteArray := prog_14_method_11_code
def yX12_fails : MethodName := ⟨RX12, "fails", "(I)V"⟩
abbrev cX12_is : ByteArray := prog_14_method_12_code
def yX12_is : MethodName := ⟨RX12, "is", "(I)Z"⟩
abbrev cX12_eats : ByteArray := prog_14_method_13_code
def yX12_eats : MethodName := ⟨RX12, "eats", "(I)Z"⟩
abbrev cX12_takesOne : ByteArray := prog_14_method_14_code
def yX12_takesOne : MethodName := ⟨RX12, "takesOne", "(II)I"⟩
abbrev cX12_isIn : ByteArray := prog_14_method_15_code
def yX12_isIn : MethodName := ⟨RX12, "isIn", "(JI)Z"⟩
abbrev cX12_codes : ByteArray := prog_14_method_16_code
def yX12_codes : MethodName := ⟨RX12, "codes", "(I)V"⟩
abbrev cX12_goesIn : ByteArray := prog_14_method_17_code
def yX12_goesIn : MethodName := ⟨RX12, "goesIn", "(I)Z"⟩
abbrev cX12_readAtom : ByteArray := prog_14_method_18_code
def yX12_readAtom : MethodName := ⟨RX12, "readAtom", "(I)V"⟩
abbrev cX12_readTerm : ByteArray := prog_14_method_19_code
def yX12_readTerm : MethodName := ⟨RX12, "readTerm", "(I)V"⟩
abbrev cX12_readSum : ByteArray := prog_14_method_20_code
def yX12_readSum : MethodName := ⟨RX12, "readSum", "(I)V"⟩
abbrev cX12_readUnit : ByteArray := prog_14_method_21_code
def yX12_readUnit : MethodName := ⟨RX12, "readUnit", "(I)V"⟩
abbrev cX12_readBoth : ByteArray := prog_14_method_22_code
def yX12_readBoth : MethodName := ⟨RX12, "readBoth", "(I)V"⟩
abbrev cX12_readTruth : ByteArray := prog_14_method_23_code
def yX12_readTruth : MethodName := ⟨RX12, "readTruth", "(I)V"⟩
abbrev cX12_readThing : ByteArray := prog_14_method_24_code
def yX12_readThing : MethodName := ⟨RX12, "readThing", "()V"⟩
abbrev cX12_takesThings : ByteArray := prog_14_method_25_code
def yX12_takesThings : MethodName := ⟨RX12, "takesThings", "()I"⟩
abbrev cX12_readPerson : ByteArray := prog_14_method_26_code
def yX12_readPerson : MethodName := ⟨RX12, "readPerson", "()V"⟩
abbrev cX12_readLaw : ByteArray := prog_14_method_27_code
def yX12_readLaw : MethodName := ⟨RX12, "readLaw", "(I)V"⟩
abbrev cX12_readLine : ByteArray := prog_14_method_28_code
def yX12_readLine : MethodName := ⟨RX12, "readLine", "()V"⟩
abbrev cX12_bureau : ByteArray := prog_14_method_29_code
def yX12_bureau : MethodName := ⟨RX12, "bureau", "(I)I"⟩
abbrev cX12_fault : ByteArray := prog_14_method_30_code
def yX12_fault : MethodName := ⟨RX12, "fault", "(I)I"⟩
abbrev cX12_isPerson : ByteArray := prog_14_method_31_code
def yX12_isPerson : MethodName := ⟨RX12, "isPerson", "(J)Z"⟩
abbrev cX12_isThing : ByteArray := prog_14_method_32_code
def yX12_isThing : MethodName := ⟨RX12, "isThing", "(J)Z"⟩
abbrev cX12_areTwo : ByteArray := prog_14_method_33_code
def yX12_areTwo : MethodName := ⟨RX12, "areTwo", "(JJ)Z"⟩
abbrev cX12_listOf : ByteArray := prog_14_method_34_code
def yX12_listOf : MethodName := ⟨RX12, "listOf", "(I)I"⟩
abbrev cX12_bitsOf : ByteArray := prog_14_method_35_code
def yX12_bitsOf : MethodName := ⟨RX12, "bitsOf", "(I)I"⟩
abbrev cX12_loathers : ByteArray := prog_14_method_36_code
def yX12_loathers : MethodName := ⟨RX12, "loathers", "(I)I"⟩
abbrev cX12_areIt : ByteArray := prog_14_method_37_code
def yX12_areIt : MethodName := ⟨RX12, "areIt", "(I)I"⟩
abbrev cX12_rareOf : ByteArray := prog_14_method_38_code
def yX12_rareOf : MethodName := ⟨RX12, "rareOf", "(I)I"⟩
abbrev cX12_rareOfAll : ByteArray := prog_14_method_39_code
def yX12_rareOfAll : MethodName := ⟨RX12, "rareOfAll", "(I)I"⟩
abbrev cX12_person : ByteArray := prog_14_method_40_code
def yX12_person : MethodName := ⟨RX12, "person", "(II)I"⟩
abbrev cX12_since : ByteArray := prog_14_method_41_code
def yX12_since : MethodName := ⟨RX12, "since", "(II)I"⟩
abbrev cX12_thing : ByteArray := prog_14_method_42_code
def yX12_thing : MethodName := ⟨RX12, "thing", "(II)I"⟩
abbrev cX12_laysTwo : ByteArray := prog_14_method_43_code
def yX12_laysTwo : MethodName := ⟨RX12, "laysTwo", "(II)V"⟩
abbrev cX12_between : ByteArray := prog_14_method_44_code
def yX12_between : MethodName := ⟨RX12, "between", "(III)I"⟩
abbrev cX12_reckons : ByteArray := prog_14_method_45_code
def yX12_reckons : MethodName := ⟨RX12, "reckons", "(I)I"⟩
abbrev cX12_goodOf : ByteArray := prog_14_method_46_code
def yX12_goodOf : MethodName := ⟨RX12, "goodOf", "(II)I"⟩
abbrev cX12_mayWed : ByteArray := prog_14_method_47_code
def yX12_mayWed : MethodName := ⟨RX12, "mayWed", "(II)Z"⟩
abbrev cX12_pair : ByteArray := prog_14_method_48_code
def yX12_pair : MethodName := ⟨RX12, "pair", "(III)I"⟩
abbrev cX12_good : ByteArray := prog_14_method_49_code
def yX12_good : MethodName := ⟨RX12, "good", "(II)I"⟩
abbrev cX12_may : ByteArray := prog_14_method_50_code
def yX12_may : MethodName := ⟨RX12, "may", "(II)I"⟩
abbrev cX12_keeps : ByteArray := prog_14_method_51_code
def yX12_keeps : MethodName := ⟨RX12, "keeps", "()V"⟩
abbrev cX12_isAgain : ByteArray := prog_14_method_52_code
def yX12_isAgain : MethodName := ⟨RX12, "isAgain", "()V"⟩
abbrev cX12_notes : ByteArray := prog_14_method_53_code
def yX12_notes : MethodName := ⟨RX12, "notes", "()V"⟩
abbrev cX12_hasRoom : ByteArray := prog_14_method_54_code
def yX12_hasRoom : MethodName := ⟨RX12, "hasRoom", "(I)Z"⟩
abbrev cX12_whyNot : ByteArray := prog_14_method_55_code
def yX12_whyNot : MethodName := ⟨RX12, "whyNot", "(J)I"⟩
abbrev cX12_parts : ByteArray := prog_14_method_56_code
def yX12_parts : MethodName := ⟨RX12, "parts", "(I)V"⟩
abbrev cX12_weds : ByteArray := prog_14_method_57_code
def yX12_weds : MethodName := ⟨RX12, "weds", "(II)V"⟩
abbrev cX12_does : ByteArray := prog_14_method_58_code
def yX12_does : MethodName := ⟨RX12, "does", "(I)V"⟩
abbrev cX12_year : ByteArray := prog_14_method_59_code
def yX12_year : MethodName := ⟨RX12, "year", "(II)I"⟩
abbrev cX12_copiesFrom : ByteArray := prog_14_method_60_code
def yX12_copiesFrom : MethodName := ⟨RX12, "copiesFrom", "(II)V"⟩
abbrev cX12_wed : ByteArray := prog_14_method_61_code
def yX12_wed : MethodName := ⟨RX12, "wed", "(II)I"⟩
abbrev cX12_part : ByteArray := prog_14_method_62_code
def yX12_part : MethodName := ⟨RX12, "part", "(I)I"⟩
abbrev cX12_takes : ByteArray := prog_14_method_63_code
def yX12_takes : MethodName := ⟨RX12, "takes", "(II)I"⟩
abbrev cX12_copies : ByteArray := prog_14_method_64_code
def yX12_copies : MethodName := ⟨RX12, "copies", "(II)I"⟩
abbrev cX12_years : ByteArray := prog_14_method_65_code
def yX12_years : MethodName := ⟨RX12, "years", "(I)I"⟩
abbrev cX12_undo : ByteArray := prog_14_method_66_code
def yX12_undo : MethodName := ⟨RX12, "undo", "(I)I"⟩
abbrev cX12_tells : ByteArray := prog_14_method_67_code
def yX12_tells : MethodName := ⟨RX12, "tells", "(I)I"⟩
abbrev cX12_noTray : ByteArray := prog_14_method_68_code
def yX12_noTray : MethodName := ⟨RX12, "noTray", "(I)I"⟩
abbrev cX12_wedMany : ByteArray := prog_14_method_69_code
def yX12_wedMany : MethodName := ⟨RX12, "wedMany", "()I"⟩
abbrev cX12_goodOfWed : ByteArray := prog_14_method_70_code
def yX12_goodOfWed : MethodName := ⟨RX12, "goodOfWed", "()I"⟩
abbrev cX12_judge : ByteArray := prog_14_method_71_code
def yX12_judge : MethodName := ⟨RX12, "judge", "(II)I"⟩
abbrev cX12_perform : ByteArray := prog_14_method_72_code
def yX12_perform : MethodName := ⟨RX12, "perform", "(I)I"⟩
abbrev cX12_draw : ByteArray := prog_14_method_73_code
def yX12_draw : MethodName := ⟨RX12, "draw", "(I)I"⟩
abbrev cX12_drawn : ByteArray := prog_14_method_74_code
def yX12_drawn : MethodName := ⟨RX12, "drawn", "()I"⟩
abbrev cX12_season : ByteArray := prog_14_method_75_code
def yX12_season : MethodName := ⟨RX12, "season", "(II)I"⟩
abbrev cX12_laysPairs : ByteArray := prog_14_method_76_code
def yX12_laysPairs : MethodName := ⟨RX12, "laysPairs", "(II)V"⟩
abbrev cX12_goodAs : ByteArray := prog_14_method_77_code
def yX12_goodAs : MethodName := ⟨RX12, "goodAs", "(I[I)I"⟩
abbrev cX12_breaksOf : ByteArray := prog_14_method_78_code
def yX12_breaksOf : MethodName := ⟨RX12, "breaksOf", "([I)I"⟩
abbrev cX12_begins : ByteArray := prog_14_method_79_code
def yX12_begins : MethodName := ⟨RX12, "begins", "(ZI)V"⟩
abbrev cX12_goesMatch : ByteArray := prog_14_method_80_code
def yX12_goesMatch : MethodName := ⟨RX12, "goesMatch", "(IIII)V"⟩
abbrev cX12_asksPerson : ByteArray := prog_14_method_81_code
def yX12_asksPerson : MethodName := ⟨RX12, "asksPerson", "(I)Z"⟩
abbrev cX12_found : ByteArray := prog_14_method_82_code
def yX12_found : MethodName := ⟨RX12, "found", "(I)I"⟩
abbrev cX12_matchings : ByteArray := prog_14_method_83_code
def yX12_matchings : MethodName := ⟨RX12, "matchings", "(I)I"⟩
abbrev cX12_most : ByteArray := prog_14_method_84_code
def yX12_most : MethodName := ⟨RX12, "most", "(I)I"⟩
abbrev cX12_stable : ByteArray := prog_14_method_85_code
def yX12_stable : MethodName := ⟨RX12, "stable", "(I)I"⟩
abbrev cX12_breaks : ByteArray := prog_14_method_86_code
def yX12_breaks : MethodName := ⟨RX12, "breaks", "()I"⟩
abbrev cX12_matchAll : ByteArray := prog_14_method_87_code
def yX12_matchAll : MethodName := ⟨RX12, "matchAll", "()I"⟩
abbrev cX12_dearest : ByteArray := prog_14_method_88_code
def yX12_dearest : MethodName := ⟨RX12, "dearest", "(I)I"⟩
abbrev cX12_keepsAhead : ByteArray := prog_14_method_89_code
def yX12_keepsAhead : MethodName := ⟨RX12, "keepsAhead", "()V"⟩
abbrev cX12_isAhead : ByteArray := prog_14_method_90_code
def yX12_isAhead : MethodName := ⟨RX12, "isAhead", "()V"⟩
abbrev cX12_holdsFor : ByteArray := prog_14_method_91_code
def yX12_holdsFor : MethodName := ⟨RX12, "holdsFor", "(II)I"⟩
abbrev cX12_holds : ByteArray := prog_14_method_92_code
def yX12_holds : MethodName := ⟨RX12, "holds", "(II)I"⟩
abbrev cX12_goodIn : ByteArray := prog_14_method_93_code
def yX12_goodIn : MethodName := ⟨RX12, "goodIn", "(III)I"⟩
abbrev cX12_lasting : ByteArray := prog_14_method_94_code
def yX12_lasting : MethodName := ⟨RX12, "lasting", "(II)I"⟩
abbrev cX12_later : ByteArray := prog_14_method_95_code
def yX12_later : MethodName := ⟨RX12, "later", "(II)I"⟩
abbrev cX12_byWhen : ByteArray := prog_14_method_96_code
def yX12_byWhen : MethodName := ⟨RX12, "byWhen", "(II)I"⟩
abbrev cX12_leftFor : ByteArray := prog_14_method_97_code
def yX12_leftFor : MethodName := ⟨RX12, "leftFor", "(III)I"⟩
abbrev cX12_fib : ByteArray := prog_14_method_98_code
def yX12_fib : MethodName := ⟨RX12, "fib", "(III)I"⟩
abbrev cX12_strikes : ByteArray := prog_14_method_99_code
def yX12_strikes : MethodName := ⟨RX12, "strikes", "(III)I"⟩
abbrev cX12_sharer : ByteArray := prog_14_method_100_code
def yX12_sharer : MethodName := ⟨RX12, "sharer", "(I)I"⟩
abbrev cX12_pieced : ByteArray := prog_14_method_101_code
def yX12_pieced : MethodName := ⟨RX12, "pieced", "(II)I"⟩
abbrev cX12_child : ByteArray := prog_14_method_102_code
def yX12_child : MethodName := ⟨RX12, "child", "(II)I"⟩
abbrev cX12_sharedBy : ByteArray := prog_14_method_103_code
def yX12_sharedBy : MethodName := ⟨RX12, "sharedBy", "(I)I"⟩
abbrev cX12_houses : ByteArray := prog_14_method_104_code
def yX12_houses : MethodName := ⟨RX12, "houses", "(II)I"⟩
abbrev cX12_biggest : ByteArray := prog_14_method_105_code
def yX12_biggest : MethodName := ⟨RX12, "biggest", "(II)I"⟩
abbrev cX12_angersOf : ByteArray := prog_14_method_106_code
def yX12_angersOf : MethodName := ⟨RX12, "angersOf", "(I)I"⟩
abbrev cX12_peace : ByteArray := prog_14_method_107_code
def yX12_peace : MethodName := ⟨RX12, "peace", "()I"⟩
abbrev cX12_angry : ByteArray := prog_14_method_108_code
def yX12_angry : MethodName := ⟨RX12, "angry", "()I"⟩
abbrev cX12_cut : ByteArray := prog_14_method_109_code
def yX12_cut : MethodName := ⟨RX12, "cut", "(JI)J"⟩
abbrev cX12_numbers : ByteArray := prog_14_method_110_code
def yX12_numbers : MethodName := ⟨RX12, "numbers", "(III)I"⟩
abbrev cX12_write : ByteArray := prog_14_method_111_code
def yX12_write : MethodName := ⟨RX12, "write", "(IIJ)J"⟩
abbrev cX12_lists : ByteArray := prog_14_method_112_code
def yX12_lists : MethodName := ⟨RX12, "lists", "(I)I"⟩
abbrev cX12_image : ByteArray := prog_14_method_113_code
def yX12_image : MethodName := ⟨RX12, "image", "(I)I"⟩
abbrev cX12_restore : ByteArray := prog_14_method_114_code
def yX12_restore : MethodName := ⟨RX12, "restore", "(I)I"⟩
abbrev cX12_listedMany : ByteArray := prog_14_method_115_code
def yX12_listedMany : MethodName := ⟨RX12, "listedMany", "()I"⟩
abbrev cX12_count : ByteArray := prog_14_method_116_code
def yX12_count : MethodName := ⟨RX12, "count", "(I)I"⟩
def RJ11 : String := "java/lang/Character"
abbrev cJ11_isValidCodePoint_9a6ad : ByteArray := prog_15_method_11_code
def yJ11_isValidCodePoint_9a6ad : MethodName := ⟨RJ11, "isValidCodePoint", "(I)Z"⟩
abbrev cJ11_highSurrogate_5068e : ByteArray := prog_15_method_28_code
def yJ11_highSurrogate_5068e : MethodName := ⟨RJ11, "highSurrogate", "(I)C"⟩
abbrev cJ11_lowSurrogate_5068e : ByteArray := prog_15_method_29_code
def yJ11_lowSurrogate_5068e : MethodName := ⟨RJ11, "lowSurrogate", "(I)C"⟩
def RJ6 : String := "java/lang/Integer"
abbrev cJ6_numberOfTrailingZeros_0f7a4 : ByteArray := prog_16_method_48_code
def yJ6_numberOfTrailingZeros_0f7a4 : MethodName := ⟨RJ6, "numberOfTrailingZeros", "(I)I"⟩
abbrev cJ6_bitCount_0f7a4 : ByteArray := prog_16_method_49_code
def yJ6_bitCount_0f7a4 : MethodName := ⟨RJ6, "bitCount", "(I)I"⟩
def RJ9 : String := "java/lang/Math"
abbrev cJ9_abs_0f7a4 : ByteArray := prog_17_method_59_code
def yJ9_abs_0f7a4 : MethodName := ⟨RJ9, "abs", "(I)I"⟩
abbrev cJ9_max_7cf53 : ByteArray := prog_17_method_65_code
def yJ9_max_7cf53 : MethodName := ⟨RJ9, "max", "(II)I"⟩
abbrev cJ9_min_7cf53 : ByteArray := prog_17_method_69_code
def yJ9_min_7cf53 : MethodName := ⟨RJ9, "min", "(II)I"⟩
def RJ0 : String := "java/lang/String"
abbrev cJ0_length_8abf5 : ByteArray := prog_18_method_54_code
def yJ0_length_8abf5 : MethodName := ⟨RJ0, "length", "()I"⟩
abbrev cJ0_charAt_5068e : ByteArray := prog_18_method_56_code
def yJ0_charAt_5068e : MethodName := ⟨RJ0, "charAt", "(I)C"⟩
abbrev cJ0_indexOf_0f7a4 : ByteArray := prog_18_method_79_code
def yJ0_indexOf_0f7a4 : MethodName := ⟨RJ0, "indexOf", "(I)I"⟩
abbrev cJ0_indexOf_7cf53 : ByteArray := prog_18_method_80_code
def yJ0_indexOf_7cf53 : MethodName := ⟨RJ0, "indexOf", "(II)I"⟩
abbrev cJ0_coder_7d493 : ByteArray := prog_18_method_152_code
def yJ0_coder_7d493 : MethodName := ⟨RJ0, "coder", "()B"⟩
abbrev cJ0_isLatin1_aae02 : ByteArray := prog_18_method_154_code
def yJ0_isLatin1_aae02 : MethodName := ⟨RJ0, "isLatin1", "()Z"⟩
abbrev cJ0_checkIndex_df160 : ByteArray := prog_18_method_155_code
def yJ0_checkIndex_df160 : MethodName := ⟨RJ0, "checkIndex", "(II)V"⟩
abbrev cJ0_checkBoundsBeginEnd_23922 : ByteArray := prog_18_method_158_code
def yJ0_checkBoundsBeginEnd_23922 : MethodName := ⟨RJ0, "checkBoundsBeginEnd", "(III)V"⟩
def RJ1 : String := "java/lang/StringLatin1"
abbrev cJ1_charAt_3b067 : ByteArray := prog_19_method_2_code
def yJ1_charAt_3b067 : MethodName := ⟨RJ1, "charAt", "([BI)C"⟩
abbrev cJ1_canEncode_9a6ad : ByteArray := prog_19_method_4_code
def yJ1_canEncode_9a6ad : MethodName := ⟨RJ1, "canEncode", "(I)Z"⟩
abbrev cJ1_indexOf_4cfef : ByteArray := prog_19_method_22_code
def yJ1_indexOf_4cfef : MethodName := ⟨RJ1, "indexOf", "([BIII)I"⟩
abbrev cJ1_indexOfChar_4cfef : ByteArray := prog_19_method_23_code
def yJ1_indexOfChar_4cfef : MethodName := ⟨RJ1, "indexOfChar", "([BIII)I"⟩
def RJ2 : String := "java/lang/StringUTF16"
abbrev cJ2_getChar_3b067 : ByteArray := prog_20_method_5_code
def yJ2_getChar_3b067 : MethodName := ⟨RJ2, "getChar", "([BI)C"⟩
abbrev cJ2_length_9d52b : ByteArray := prog_20_method_6_code
def yJ2_length_9d52b : MethodName := ⟨RJ2, "length", "([B)I"⟩
abbrev cJ2_indexOf_4cfef : ByteArray := prog_20_method_40_code
def yJ2_indexOf_4cfef : MethodName := ⟨RJ2, "indexOf", "([BIII)I"⟩
abbrev cJ2_indexOfChar_4cfef : ByteArray := prog_20_method_47_code
def yJ2_indexOfChar_4cfef : MethodName := ⟨RJ2, "indexOfChar", "([BIII)I"⟩
abbrev cJ2_indexOfCharUnsafe_4cfef : ByteArray := prog_20_method_48_code
def yJ2_indexOfCharUnsafe_4cfef : MethodName := ⟨RJ2, "indexOfCharUnsafe", "([BIII)I"⟩
abbrev cJ2_indexOfSupplementary_4cfef : ByteArray := prog_20_method_49_code
def yJ2_indexOfSupplementary_4cfef : MethodName := ⟨RJ2, "indexOfSupplementary", "([BIII)I"⟩
abbrev cJ2_charAt_3b067 : ByteArray := prog_20_method_83_code
def yJ2_charAt_3b067 : MethodName := ⟨RJ2, "charAt", "([BI)C"⟩
abbrev cJ2_checkIndex_2214a : ByteArray := prog_20_method_91_code
def yJ2_checkIndex_2214a : MethodName := ⟨RJ2, "checkIndex", "(I[B)V"⟩
abbrev cJ2_checkBoundsBeginEnd_d044e : ByteArray := prog_20_method_93_code
def yJ2_checkBoundsBeginEnd_d044e : MethodName := ⟨RJ2, "checkBoundsBeginEnd", "(II[B)V"⟩
def RJ10 : String := "java/lang/System"
def RJ3 : String := "jdk/internal/util/Preconditions"
abbrev cJ3_checkIndex_8e157 : ByteArray := prog_22_method_11_code
def yJ3_checkIndex_8e157 : MethodName := ⟨RJ3, "checkIndex", "(IILjava/util/function/BiFunction;)I"⟩
abbrev cJ3_checkFromToIndex_8c36e : ByteArray := prog_22_method_12_code
def yJ3_checkFromToIndex_8c36e : MethodName := ⟨RJ3, "checkFromToIndex", "(IIILjava/util/function/BiFunction;)I"⟩
def RL : String := "LoatheMatchLaw"
abbrev cL_law : ByteArray := code
def yL_law : MethodName := ⟨RL, "law", "([I)Z"⟩
abbrev vwCl : List vw_C := [(RX0, TX0, 2), (RX1, TX1, 7), (RX2, TX2, 3), (RX3, TX3, 2), (RX4, TX4, 2), (RX5, TX5, 6), (RX6, TX6, 6), (RX7, TX7, 10), (RX8, TX8, 9), (RX9, TX9, 4), (RX10, TX10, 4), (RX11, TX11, 14), (RX12, TX12, 33)]
end
section
/-! an abstract memory: the cells are numbered in the order in which they are made; a cell's shape is fixed by its number; ints and longs by cell and place; references of final fields by a table, others as ints -/
abbrev Sh : Type := Nat ⊕ (Nat × Nat)
abbrev Mem : Type := (Nat → Nat → Int32) × (Nat → Nat → Int64)
abbrev Rf : Type := Nat → Nat → Option Nat
abbrev Gt : Type := va_G × (Nat → ClassId) × (Nat → Nat) × (Nat → Nat)
def up2 {α : Type} (f : Nat → Nat → α) (a j : Nat) (v : α) : Nat → Nat → α := fun b i => if b = a ∧ i = j then v else f b i
def ix (i : Int32) : Nat := i.toNatClampNeg
def gi (m : Mem) (a j : Nat) : Int32 := m.1 a j
def gl (m : Mem) (a j : Nat) : Int64 := m.2 a j
def si (m : Mem) (a j : Nat) (v : Int32) : Mem := (up2 m.1 a j v, m.2)
def sl (m : Mem) (a j : Nat) (v : Int64) : Mem := (m.1, up2 m.2 a j v)
/-- a new cell: all 0 -/
def nw (m : Mem) (a : Nat) : Mem := ((fun b j => if b = a then 0 else m.1 b j), (fun b j => if b = a then 0 else m.2 b j))
/-- a copy of ints from cell to cell -/
def cpm (m : Mem) (a b sp dp n : Nat) : Mem := ((fun x j => if x = b then va_cpy (m.1 a) (m.1 b) sp dp n j else m.1 x j), m.2)
def dcr (v : Int32) : Option Nat := if v = 0 then none else some v.toNatClampNeg
def nF (c : Nat) : Nat := match vwCl[c]? with
  | some q => q.2.2
  | none => 0
/-- which fields hold what: 0 ints, 1 references that stay, 2 references told as ints -/
def fKT : List (List Nat) := [[1, 1], [1, 0, 0, 0, 1, 1, 0], [1, 0, 0], [1, 1], [1, 0], [0, 1, 1, 1, 1, 1], [0, 1, 1, 1, 1, 1], [1, 1, 1, 2, 0, 0, 0, 0, 0, 0], [0, 0, 0, 0, 0, 1, 1, 1, 1], [0, 0, 0, 1], [1, 1, 1, 0], [1, 0, 0, 1, 1, 1, 1, 1, 1, 1, 1, 1, 1, 1], [0, 1, 1, 1, 1, 0, 0, 0, 0, 0, 0, 0, 0, 0, 0, 1, 1, 1, 1, 0, 0, 1, 1, 1, 1, 0, 0, 0, 0, 1, 1, 1, 1]]
def fK (c j : Nat) : Nat := (fKT.getD c []).getD j 0
def fv (ad : Nat → Nat) (R : Rf) (m : Mem) (k c j : Nat) : Value := if fK c j = 0 then .int (gi m k j) else if fK c j = 1 then va_rf ((R k j).map ad) else va_rf ((dcr (gi m k j)).map ad)
def entS (G : Gt) (ad : Nat → Nat) (R : Rf) (m : Mem) (k : Nat) (x : Sh) : va_E := match x with
  | .inl c => .inr (c, (List.range (nF c)).map (fv ad R m k c))
  | .inr (ty, n) => .inl (G.2.1 ty, n, if ty < 3 then .inl (gi m k) else if ty = 3 then .inr (.inl (gl m k)) else if ty < 6 then .inr (.inr (.inr (.inr (fun j => (R k j).map ad)))) else .inr (.inr (.inr (.inr (fun j => (dcr (gi m k j)).map ad)))))
def wl (G : Gt) (S : Nat → Sh) (ad : Nat → Nat) (N : Nat) (R : Rf) (m : Mem) : va_W := (List.range N).map (fun k => (ad k, entS G ad R m k (S k)))
theorem wl_len (G : Gt) (S : Nat → Sh) (ad : Nat → Nat) (N : Nat) (R : Rf) (m : Mem) : (wl G S ad N R m).length = N := by simp [wl]
theorem wl_get {G : Gt} {S : Nat → Sh} {ad : Nat → Nat} {N : Nat} {R : Rf} {m : Mem} {k : Nat} {x : Sh} (hk : k < N) (hs : S k = x) : (wl G S ad N R m)[k]? = some (ad k, entS G ad R m k x) := by
  simp [wl, hk, hs]
theorem wl_of {G : Gt} {S : Nat → Sh} {ad : Nat → Nat} {N : Nat} {R : Rf} {m : Mem} {k : Nat} {q : Nat × va_E} (h : (wl G S ad N R m)[k]? = some q) : k < N ∧ q = (ad k, entS G ad R m k (S k)) := by
  have hk : k < N := by
    have h2 := (List.getElem?_eq_some_iff.mp h).1
    rwa [wl_len] at h2
  refine ⟨hk, ?_⟩
  rw [wl_get hk rfl] at h
  exact (Option.some.inj h).symm
/-- a world changed at one cell -/
theorem wl_set {G : Gt} {S : Nat → Sh} {ad : Nat → Nat} {N : Nat} {R R2 : Rf} {m m2 : Mem} {k : Nat} {x : Sh} {E : va_E} (hk : k < N) (hs : S k = x) (hE : entS G ad R2 m2 k x = E) (ho : ∀ b, b ≠ k → ∀ y, entS G ad R2 m2 b y = entS G ad R m b y) : (wl G S ad N R m).set k (ad k, E) = wl G S ad N R2 m2 := by
  apply List.ext_getElem?
  intro i
  rw [List.getElem?_set]
  by_cases hi : k = i
  · subst hi
    rw [if_pos rfl, if_pos (by rw [wl_len]; exact hk), wl_get hk hs, hE]
  · rw [if_neg hi]
    by_cases hl : i < N
    · rw [wl_get hl rfl, wl_get hl rfl, ho i (fun q => hi q.symm)]
    · rw [List.getElem?_eq_none (by rw [wl_len]; omega), List.getElem?_eq_none (by rw [wl_len]; omega)]
theorem up2_ne {α : Type} {f : Nat → Nat → α} {a j : Nat} {v : α} {b : Nat} (hb : b ≠ a) : up2 f a j v b = f b := by
  funext i
  simp [up2, hb]
theorem up2_at {α : Type} {f : Nat → Nat → α} {a j : Nat} {v : α} (i : Nat) : up2 f a j v a i = if i = j then v else f a i := by
  simp [up2]
theorem entS_cong {G : Gt} {ad : Nat → Nat} {R R2 : Rf} {m m2 : Mem} {b : Nat} (a1 : gi m2 b = gi m b) (a2 : gl m2 b = gl m b) (a3 : R2 b = R b) (y : Sh) : entS G ad R2 m2 b y = entS G ad R m b y := by
  cases y with
  | inl c =>
    have e : fv ad R2 m2 b c = fv ad R m b c := by funext i; simp only [fv, a1, a3]
    simp only [entS, e]
  | inr q => simp only [entS, a1, a2, a3]
theorem gi_si (m : Mem) (a j : Nat) (v : Int32) (b i : Nat) : gi (si m a j v) b i = if b = a ∧ i = j then v else gi m b i := rfl
theorem gl_sl (m : Mem) (a j : Nat) (v : Int64) (b i : Nat) : gl (sl m a j v) b i = if b = a ∧ i = j then v else gl m b i := rfl
theorem gi_sl (m : Mem) (a j : Nat) (v : Int64) (b i : Nat) : gi (sl m a j v) b i = gi m b i := rfl
theorem gl_si (m : Mem) (a j : Nat) (v : Int32) (b i : Nat) : gl (si m a j v) b i = gl m b i := rfl
theorem gi_cpm (m : Mem) (a b sp dp n x j : Nat) : gi (cpm m a b sp dp n) x j = if x = b ∧ dp ≤ j ∧ j < dp + n then gi m a (sp + (j - dp)) else gi m x j := by
  simp only [gi, cpm, va_cpy]
  by_cases h : x = b
  · subst h; simp
  · simp [h]
theorem gl_cpm (m : Mem) (a b sp dp n x j : Nat) : gl (cpm m a b sp dp n) x j = gl m x j := rfl
theorem wl_si_arr {G : Gt} {S : Nat → Sh} {ad : Nat → Nat} {N : Nat} {R : Rf} {m : Mem} {k ty n j : Nat} {v : Int32} (hk : k < N) (hs : S k = .inr (ty, n)) (ht : ty < 3) : (wl G S ad N R m).set k (ad k, .inl (G.2.1 ty, n, .inl (upd (gi m k) j v))) = wl G S ad N R (si m k j v) := by
  refine wl_set hk hs ?_ ?_
  · simp only [entS, ht, if_true]
    congr 4
    funext i
    simp [gi, si, up2_at, upd]
  · intro b hb y
    exact entS_cong (by first | rfl | exact up2_ne hb) (by first | rfl | exact up2_ne hb) (by first | rfl | exact up2_ne hb) y
theorem wl_cpm {G : Gt} {S : Nat → Sh} {ad : Nat → Nat} {N : Nat} {R : Rf} {m : Mem} {k a ty n sp dp w : Nat} (hk : k < N) (hs : S k = .inr (ty, n)) (ht : ty < 3) : (wl G S ad N R m).set k (ad k, .inl (G.2.1 ty, n, .inl (va_cpy (gi m a) (gi m k) sp dp w))) = wl G S ad N R (cpm m a k sp dp w) := by
  refine wl_set hk hs ?_ ?_
  · simp only [entS, ht, if_true]
    congr 4
    funext i
    simp [gi, cpm]
    rfl
  · intro b hb y
    exact entS_cong (m := m) (m2 := cpm m a k sp dp w) (by funext j; simp [gi, cpm, hb]) rfl rfl y
theorem wl_sl_arr {G : Gt} {S : Nat → Sh} {ad : Nat → Nat} {N : Nat} {R : Rf} {m : Mem} {k n j : Nat} {v : Int64} (hk : k < N) (hs : S k = .inr (3, n)) : (wl G S ad N R m).set k (ad k, .inl (G.2.1 3, n, .inr (.inl (vp_updL (gl m k) j v)))) = wl G S ad N R (sl m k j v) := by
  refine wl_set hk hs ?_ ?_
  · simp only [entS]
    simp only [if_neg (show ¬ (3 < 3) by decide), if_true]
    congr 5
    funext i
    simp [gl, sl, up2_at, vp_updL]
  · intro b hb y
    exact entS_cong (by first | rfl | exact up2_ne hb) (by first | rfl | exact up2_ne hb) (by first | rfl | exact up2_ne hb) y
theorem wl_sr_arr {G : Gt} {S : Nat → Sh} {ad : Nat → Nat} {N : Nat} {R : Rf} {m : Mem} {k ty n j b : Nat} (hk : k < N) (hs : S k = .inr (ty, n)) (ht : 3 < ty) (ht2 : ty < 6) : (wl G S ad N R m).set k (ad k, .inl (G.2.1 ty, n, .inr (.inr (.inr (.inr (va_up (fun j => (R k j).map ad) j (some (ad b)))))))) = wl G S ad N (up2 R k j (some b)) m := by
  refine wl_set hk hs ?_ ?_
  · simp only [entS]
    simp only [if_neg (show ¬ (ty < 3) by omega), if_neg (show ¬ (ty = 3) by omega), if_pos ht2]
    congr 7
    funext i
    simp only [up2_at, va_up]
    split <;> rfl
  · intro b hb y
    exact entS_cong (by first | rfl | exact up2_ne hb) (by first | rfl | exact up2_ne hb) (by first | rfl | exact up2_ne hb) y
theorem wl_sd_arr {G : Gt} {S : Nat → Sh} {ad : Nat → Nat} {N : Nat} {R : Rf} {m : Mem} {k ty n j b : Nat} (hk : k < N) (hs : S k = .inr (ty, n)) (ht : 5 < ty) (hb : dcr (nI b) = some b) : (wl G S ad N R m).set k (ad k, .inl (G.2.1 ty, n, .inr (.inr (.inr (.inr (va_up (fun j => (dcr (gi m k j)).map ad) j (some (ad b)))))))) = wl G S ad N R (si m k j (nI b)) := by
  refine wl_set hk hs ?_ ?_
  · simp only [entS]
    simp only [if_neg (show ¬ (ty < 3) by omega), if_neg (show ¬ (ty = 3) by omega), if_neg (show ¬ (ty < 6) by omega)]
    congr 7
    funext i
    simp only [gi, si, up2_at, va_up]
    split
    · rw [hb]; rfl
    · rfl
  · intro b hb y
    exact entS_cong (by first | rfl | exact up2_ne hb) (by first | rfl | exact up2_ne hb) (by first | rfl | exact up2_ne hb) y
theorem range_map_set {β : Type} (f : Nat → β) (N j : Nat) (v : β) : ((List.range N).map f).set j v = (List.range N).map (fun i => if i = j then v else f i) := by
  apply List.ext_getElem?
  intro i
  rw [List.getElem?_set]
  by_cases hi : j = i
  · subst hi
    by_cases hl : j < N
    · simp [hl]
    · simp [hl]
  · rw [if_neg hi]
    by_cases hl : i < N
    · simp [hl, Ne.symm hi]
    · simp [hl]
theorem wl_si_obj {G : Gt} {S : Nat → Sh} {ad : Nat → Nat} {N : Nat} {R : Rf} {m : Mem} {k c j : Nat} {v : Int32} (hk : k < N) (hs : S k = .inl c) (hr : fK c j = 0) : (wl G S ad N R m).set k (ad k, .inr (c, ((List.range (nF c)).map (fv ad R m k c)).set j (.int v))) = wl G S ad N R (si m k j v) := by
  refine wl_set hk hs ?_ ?_
  · simp only [entS, range_map_set]
    congr 3
    funext i
    simp only [fv, gi, si, up2_at]
    by_cases hi : i = j
    · subst hi; simp [hr]
    · simp [hi]
  · intro b hb y
    exact entS_cong (by first | rfl | exact up2_ne hb) (by first | rfl | exact up2_ne hb) (by first | rfl | exact up2_ne hb) y
theorem wl_sr_obj {G : Gt} {S : Nat → Sh} {ad : Nat → Nat} {N : Nat} {R : Rf} {m : Mem} {k c j b : Nat} (hk : k < N) (hs : S k = .inl c) (hr : fK c j = 1) : (wl G S ad N R m).set k (ad k, .inr (c, ((List.range (nF c)).map (fv ad R m k c)).set j (.ref (ad b)))) = wl G S ad N (up2 R k j (some b)) m := by
  refine wl_set hk hs ?_ ?_
  · simp only [entS, range_map_set]
    congr 3
    funext i
    simp only [fv, up2_at]
    by_cases hi : i = j
    · subst hi; simp [hr, va_rf]
    · simp [hi]
  · intro b hb y
    exact entS_cong (by first | rfl | exact up2_ne hb) (by first | rfl | exact up2_ne hb) (by first | rfl | exact up2_ne hb) y
theorem wl_sd_obj {G : Gt} {S : Nat → Sh} {ad : Nat → Nat} {N : Nat} {R : Rf} {m : Mem} {k c j b : Nat} (hk : k < N) (hs : S k = .inl c) (hr : fK c j = 2) (hb : dcr (nI b) = some b) : (wl G S ad N R m).set k (ad k, .inr (c, ((List.range (nF c)).map (fv ad R m k c)).set j (.ref (ad b)))) = wl G S ad N R (si m k j (nI b)) := by
  refine wl_set hk hs ?_ ?_
  · simp only [entS, range_map_set]
    congr 3
    funext i
    simp only [fv, gi, si, up2_at]
    by_cases hi : i = j
    · subst hi; simp [hr, hb, va_rf]
    · simp [hi]
  · intro b hb y
    exact entS_cong (by first | rfl | exact up2_ne hb) (by first | rfl | exact up2_ne hb) (by first | rfl | exact up2_ne hb) y
/-- the same world, told by tables that are alike below N -/
theorem wl_cong {G : Gt} {S : Nat → Sh} {ad ad2 : Nat → Nat} {N : Nat} {R R2 : Rf} {m m2 : Mem} (h : ∀ k, k < N → ad2 k = ad k ∧ entS G ad2 R2 m2 k (S k) = entS G ad R m k (S k)) : wl G S ad2 N R2 m2 = wl G S ad N R m := by
  unfold wl
  apply List.map_congr_left
  intro k hk
  have h2 := h k (List.mem_range.mp hk)
  rw [h2.1, h2.2]
theorem wl_push {G : Gt} {S : Nat → Sh} {ad ad2 : Nat → Nat} {N : Nat} {R R2 : Rf} {m m2 : Mem} {E : va_E} {q : Nat} (h : wl G S ad2 N R2 m2 = wl G S ad N R m) (hq : ad2 N = q) (hE : entS G ad2 R2 m2 N (S N) = E) : wl G S ad N R m ++ [(q, E)] = wl G S ad2 (N + 1) R2 m2 := by
  rw [← h, ← hq, ← hE]
  simp [wl, List.range_succ]
end
section
def gtb : List Cond := lw_tbl.filter goodWord
theorem gtb_in {w : Cond} (h : w ∈ lw_tbl) (hg : goodWord w = true) : w ∈ gtb := List.mem_filter.mpr ⟨h, hg⟩
theorem gtb_good : GoodIn gtb gtb := fun w h => ⟨h, good_of_word (List.mem_filter.mp h).2⟩
def mv (G : Gt) (ad : Nat → Nat) (v : Value) : Value := match v with
  | .ref a => .ref (ad a)
  | .retAddr k => if k < 1000 then .ref (G.2.2.1 k) else .ref (G.2.2.2 (k - 1000))
  | x => x
theorem mv_cat (G : Gt) (ad : Nat → Nat) (v : Value) : (mv G ad v).category = v.category := by
  cases v with
  | retAddr k =>
    simp only [mv]
    split <;> rfl
  | _ => rfl
def strT : List String := [";:+-*()[]=<>", "thing", "wanes", "person", "age", "is", "loathes", "good", "common", "rare", "insult", "lists", "apart", "oldest", "year", "may", "not", "and", "or", "bar", "room", " thing wanes person age is loathes good may bar room or and not common rare insult lists apart oldest year "]
def strL : List Nat := [12, 5, 5, 6, 3, 2, 7, 4, 6, 4, 6, 5, 5, 6, 4, 3, 3, 3, 2, 3, 4, 107]
def strB : List (List Int32) := [[59, 58, 43, 45, 42, 40, 41, 91, 93, 61, 60, 62], [116, 104, 105, 110, 103], [119, 97, 110, 101, 115], [112, 101, 114, 115, 111, 110], [97, 103, 101], [105, 115], [108, 111, 97, 116, 104, 101, 115], [103, 111, 111, 100], [99, 111, 109, 109, 111, 110], [114, 97, 114, 101], [105, 110, 115, 117, 108, 116], [108, 105, 115, 116, 115], [97, 112, 97, 114, 116], [111, 108, 100, 101, 115, 116], [121, 101, 97, 114], [109, 97, 121], [110, 111, 116], [97, 110, 100], [111, 114], [98, 97, 114], [114, 111, 111, 109], [32, 116, 104, 105, 110, 103, 32, 119, 97, 110, 101, 115, 32, 112, 101, 114, 115, 111, 110, 32, 97, 103, 101, 32, 105, 115, 32, 108, 111, 97, 116, 104, 101, 115, 32, 103, 111, 111, 100, 32, 109, 97, 121, 32, 98, 97, 114, 32, 114, 111, 111, 109, 32, 111, 114, 32, 97, 110, 100, 32, 110, 111, 116, 32, 99, 111, 109, 109, 111, 110, 32, 114, 97, 114, 101, 32, 105, 110, 115, 117, 108, 116, 32, 108, 105, 115, 116, 115, 32, 97, 112, 97, 114, 116, 32, 111, 108, 100, 101, 115, 116, 32, 121, 101, 97, 114, 32]]
def strR : List (String × Nat × Nat) := [(RX7, 224, 0), (RX7, 74, 1), (RX7, 126, 2), (RX7, 83, 3), (RX7, 134, 4), (RX7, 144, 5), (RX7, 150, 6), (RX7, 88, 7), (RX7, 191, 8), (RX7, 195, 9), (RX7, 197, 10), (RX7, 199, 11), (RX7, 201, 12), (RX7, 203, 13), (RX7, 205, 14), (RX7, 98, 15), (RX7, 170, 16), (RX7, 168, 17), (RX7, 159, 18), (RX7, 106, 19), (RX7, 113, 20), (RX12, 77, 21), (RX12, 115, 0)]
def nestW : List (String × Nat × MethodName × String) := [("LoatheMatch$Rules", 20, ⟨"LoatheMatch$Law", "<init>", "()V"⟩, "LoatheMatch"), ("LoatheMatch", 32, ⟨"LoatheMatch$Couple", "<init>", "()V"⟩, "LoatheMatch"), ("LoatheMatch", 63, ⟨"LoatheMatch$Matching", "<init>", "()V"⟩, "LoatheMatch"), ("LoatheMatch", 83, ⟨"LoatheMatch$Tray", "<init>", "()V"⟩, "LoatheMatch"), ("LoatheMatch", 268, ⟨"LoatheMatch$Matching", "tally", "(II)I"⟩, "LoatheMatch"), ("LoatheMatch", 286, ⟨"LoatheMatch$Matching", "settle", "(I)Z"⟩, "LoatheMatch"), ("LoatheMatch", 369, ⟨"LoatheMatch$Image", "<init>", "()V"⟩, "LoatheMatch")]
def NST (U : State) : Prop := ∀ q ∈ nestW, va_Nw (.methodLinkNest q.1 q.2.1 q.2.2.1 q.2.2.2) U
def STR (G : Gt) (A : Nat → Prop) (U : State) (H : Heap) : Prop :=
  vk_S 22 strL strB G.2.2.1 G.2.2.2 A U H ∧ (∀ q ∈ strR, vk_R q.1 q.2.1 (strT.getD q.2.2 "") (G.2.2.1 q.2.2) U) ∧ va_Z "java/lang/String" "COMPACT_STRINGS" "Z" (.int 1) A U H ∧ va_Zq "jdk/internal/util/Preconditions" "SIOOBE_FORMATTER" "Ljava/util/function/BiFunction;" A U H ∧ NST U
theorem STR.warm {G : Gt} {A : Nat → Prop} {s U : State} {H : Heap} (hW : s.WarmedH U.vm) (h : STR G A s H) : STR G A U H :=
  ⟨h.1.moved hW.alike, fun q hq => (h.2.1 q hq).warm hW, h.2.2.1.moved hW.alike, h.2.2.2.1.moved hW.alike, fun q hq => (h.2.2.2.2 q hq).warmM hW⟩
theorem STR.same {G : Gt} {A : Nat → Prop} {s U : State} {H : Heap} (hW : U.vm = s.vm) (h : STR G A s H) : STR G A U H :=
  ⟨h.1.moved (by rw [hW]; exact Vm.Alike.refl _), fun q hq => (h.2.1 q hq).same hW, h.2.2.1.moved (by rw [hW]; exact Vm.Alike.refl _), h.2.2.2.1.moved (by rw [hW]; exact Vm.Alike.refl _), fun q hq => (h.2.2.2.2 q hq).same rfl hW.symm⟩
theorem STR.kept {G : Gt} {A : Nat → Prop} {U : State} {H H1 : Heap} (h : STR G A U H) (hq : ∀ a : Nat, a < H.size → ¬ A a → H1[a]? = H[a]?) : STR G A U H1 :=
  ⟨h.1.kept hq, h.2.1, h.2.2.1.kept hq, h.2.2.2.1.kept hq, h.2.2.2.2⟩
theorem STR.narrow {G : Gt} {A B : Nat → Prop} {U : State} {H : Heap} (h : STR G A U H) (hAB : ∀ q, B q → A q) : STR G B U H :=
  ⟨h.1.narrow hAB, h.2.1, h.2.2.1.narrow hAB, h.2.2.2.1.narrow hAB, h.2.2.2.2⟩
abbrev tyl (G : Gt) : List (ClassId × FieldType) := [(G.2.1 0, .int), (G.2.1 1, .byte), (G.2.1 2, .boolean), (G.2.1 3, .long), (G.2.1 4, .object "LoatheMatch$Life"), (G.2.1 5, .object "LoatheMatch$Tray"), (G.2.1 6, .object "LoatheMatch$Image")]
def szS (x : Sh) : Nat := match x with
  | .inl c => nF c
  | .inr q => q.2
def szs (S : Nat → Sh) : Nat → Nat
  | 0 => 0
  | n + 1 => szs S n + szS (S n)
theorem szs_mono (S : Nat → Sh) {a b : Nat} (h : a ≤ b) : szs S a ≤ szs S b := by
  obtain ⟨k, rfl⟩ := Nat.le.dest h
  clear h
  induction k with
  | zero => exact Nat.le_refl _
  | succ k ih =>
    have h2 : szs S (a + (k + 1)) = szs S (a + k) + szS (S (a + k)) := rfl
    omega
def rmk (fr mc ms : Nat) : Room := { frames := fr, cells := mc, slots := ms, locals := 40 * fr }
def AS (ad : Nat → Nat) (N sz : Nat) : Nat → Prop := fun q => (∃ k, k < N ∧ ad k = q) ∨ sz ≤ q
def AdOK (N0 Nf : Nat) (ad0 ad : Nat → Nat) : Prop := (Nf = N0 ∧ ad = ad0) ∨ (N0 < Nf ∧ ∀ k, k < N0 → ad k = ad0 k)
def WB (G : Gt) (S : Nat → Sh) (ad : Nat → Nat) (N : Nat) (R : Rf) (m : Mem) (sz : Nat) (U : State) : Prop := U.heap.size = sz ∧ va_P G.1 vwCl (wl G S ad N R m) U.heap ∧ va_K G.1 vwCl (tyl G) U ∧ va_D (fun _ => True) (wl G S ad N R m) ∧ STR G (AS ad N sz) U U.heap
def Qx {α : Type} (ov : α → Option Value) (G : Gt) (S : Nat → Sh) (ad0 : Nat → Nat) (N0 Nf : Nat) (Rz : Rf) (A : Nat → Prop) (r : α) (mF : Mem) : Array Value → State → Outcome → State → Prop := fun _ st oc t => (oc = .returned (ov r) ∧ ∃ ad, AdOK N0 Nf ad0 ad ∧ va_P G.1 vwCl (wl G S ad Nf Rz mF) t.heap ∧ va_D A (wl G S ad Nf Rz mF)) ∧ va_F A st t
def oI (r : Int32) : Option Value := some (.int r)
def oL (r : Int64) : Option Value := some (.long r)
def oV (_ : Unit) : Option Value := none
def Cx (G : Gt) (p : Program) (s : State) (mt : MethodId) (args : Array Value) (meth : Method) (c : Code) (own : String) (cc : ByteArray) (nL : Nat) (ret : Option FieldType) (nm : String) (A : Nat → Prop) : Prop :=
  p.tables.exec = Jvm.exec ∧ c.code = cc ∧ c.maxLocals = nL ∧ s.vm.findClass own = some mt.cls ∧ (∀ w ∈ gtb, w.before args s = true) ∧ meth.locks = false ∧ meth.sig.returnType = ret ∧ meth.name = nm ∧ va_K G.1 vwCl (tyl G) s ∧ (∀ q, s.heap.size ≤ q → A q) ∧ STR G A s s.heap
def Lr (G : Gt) (ad : Nat → Nat) (ls : Array Slot) (nL : Nat) (L : List (Nat × Value)) : Prop := lv_has ls nL (L.map (fun q => (q.1, mv G ad q.2)))
def V {α : Type} (G : Gt) (S : Nat → Sh) (ov : α → Option Value) (l : Launch) (p : Program) (e : Env) (s : State) (mt : MethodId) (args : Array Value) (below : List Frame) (meth : Method) (c : Code) (nL fr : Nat) (A : Nat → Prop) (ad0 : Nat → Nat) (N0 Nf : Nat) (Rz : Rf) (N : Nat) (R : Rf) (pc : Nat) (L : List (Nat × Value)) (st : List Value) (m : Mem) (t : Option (α × Mem)) : Prop :=
  ∀ (r : α) (mF : Mem), t = some (r, mF) → N ≤ Nf ∧ ∀ (ad : Nat → Nat) (H : Heap) (locs : List Loc) (ls : Array Slot), N0 ≤ N → AdOK N0 Nf ad0 ad → va_P G.1 vwCl (wl G S ad N R m) H → va_D A (wl G S ad N R m) → va_S A s.heap H locs → Lr G ad ls nL L →
    W p l e (rmk fr (Nf - N0) (szs S Nf - szs S N0)) s mt args below meth c H locs (N - N0) (szs S N - szs S N0) (MQ below (Qx ov G S ad0 N0 Nf Rz A r mF) args s (Nf - N0) (szs S Nf - szs S N0) A) (F0 mt pc ls (st.map (mv G ad)))
def chk {β : Type} (b : Bool) (t : Option β) : Option β := if b = true then t else none
def inb (i : Int32) (n : Nat) : Bool := decide (¬ i < 0) && decide (ix i < n)
theorem inb_in {i : Int32} {n : Nat} (h : inb i n = true) : vp_in i n := by
  unfold inb at h
  simp only [Bool.and_eq_true, decide_eq_true_eq] at h
  exact fun q => q.elim h.1 (fun z => Nat.not_le.mpr h.2 z)
def lt {β γ : Type} (x : β) (k : β → γ) : γ := k x
def bnd {β γ : Type} (f : Option (β × Mem)) (k : β → Mem → Option γ) : Option γ := f.bind fun q => k q.1 q.2
theorem chk_eq {β : Type} (b : Bool) (t : Option β) : chk b t = if b = true then t else none := rfl
theorem lr_at {G : Gt} {ad : Nat → Nat} {ls : Array Slot} {nL : Nat} {L : List (Nat × Value)} (h : Lr G ad ls nL L) (k : Nat) {i : Nat} {v : Value} (hk : L[k]? = some (i, v)) : ls[i]? = some (.val (mv G ad v)) := lv_at h k (by rw [List.getElem?_map, hk]; rfl)
theorem lr_sub {G : Gt} {ad : Nat → Nat} {ls : Array Slot} {nL : Nat} {L L2 : List (Nat × Value)} (h : Lr G ad ls nL L) (ks : List Nat) (hl : lv_pick L ks = L2) : Lr G ad ls nL L2 := by
  refine lv_sub h ks ?_
  rw [← hl]
  simp [lv_pick, List.map_filterMap]
def stI (L : List (Nat × Value)) (i : Nat) (v : Value) : List (Nat × Value) := (i, v) :: L.filter (fun q => !(q.1 == i) && !(q.1 + 1 == i && q.2.category == 2))
def stJ (L : List (Nat × Value)) (i : Nat) (v : Value) : List (Nat × Value) := (i, v) :: L.filter (fun q => !(q.1 == i) && (!(q.1 == i + 1) && !(q.1 + 1 == i && q.2.category == 2)))
theorem stI_map {G : Gt} {ad : Nat → Nat} {L L2 : List (Nat × Value)} {i : Nat} {v : Value} (h : stI L i v = L2) : (i, mv G ad v) :: (L.map (fun q => (q.1, mv G ad q.2))).filter (fun q => !(q.1 == i) && !(q.1 + 1 == i && q.2.category == 2)) = L2.map (fun q => (q.1, mv G ad q.2)) := by
  rw [← h]
  simp only [stI, List.map_cons, List.filter_map]
  congr 2
  apply List.filter_congr
  intro q _
  simp [mv_cat]
theorem stJ_map {G : Gt} {ad : Nat → Nat} {L L2 : List (Nat × Value)} {i : Nat} {v : Value} (h : stJ L i v = L2) : (i, mv G ad v) :: (L.map (fun q => (q.1, mv G ad q.2))).filter (fun q => !(q.1 == i) && (!(q.1 == i + 1) && !(q.1 + 1 == i && q.2.category == 2))) = L2.map (fun q => (q.1, mv G ad q.2)) := by
  rw [← h]
  simp only [stJ, List.map_cons, List.filter_map]
  congr 2
  apply List.filter_congr
  intro q _
  simp [mv_cat]
theorem args_map (G : Gt) (ad : Nat → Nat) (vs : List Value) : ∀ k, lv_args k (vs.map (mv G ad)) = (lv_args k vs).map (fun q => (q.1, mv G ad q.2)) := by
  induction vs with
  | nil => intro k; rfl
  | cons v vs ih =>
    intro k
    simp only [List.map_cons, lv_args, mv_cat, ih]
section VR
variable {α : Type} {G : Gt} {S : Nat → Sh} {ov : α → Option Value} {l : Launch} {p : Program} {e : Env} {s : State} {mt : MethodId} {args : Array Value} {below : List Frame} {meth : Method} {c : Code} {own : String} {cc : ByteArray} {nL fr : Nat} {ret : Option FieldType} {nm : String} {A : Nat → Prop} {ad0 : Nat → Nat} {N0 Nf : Nat} {Rz : Rf} {N : Nat} {R : Rf} {pc : Nat} {L : List (Nat × Value)} {st : List Value} {m : Mem} {t : Option (α × Mem)}
theorem V.gen {pc2 : Nat} {L2 : List (Nat × Value)} {st2 : List Value} {m2 : Mem} {R2 : Rf} (hw : ∀ (ad : Nat → Nat) (H : Heap) (locs : List Loc) (ls : Array Slot) (Rm : Room) (cells slots : Nat) (Q : State → Prop), va_P G.1 vwCl (wl G S ad N R m) H → va_D A (wl G S ad N R m) → va_S A s.heap H locs → Lr G ad ls nL L → Rm.frames = fr → Rm.locals = 40 * fr → (∀ (H1 : Heap) (locs1 : List Loc) (ls1 : Array Slot), va_P G.1 vwCl (wl G S ad N R2 m2) H1 → va_D A (wl G S ad N R2 m2) → va_S A s.heap H1 locs1 → Lr G ad ls1 nL L2 → W p l e Rm s mt args below meth c H1 locs1 cells slots Q (F0 mt pc2 ls1 (st2.map (mv G ad)))) → W p l e Rm s mt args below meth c H locs cells slots Q (F0 mt pc ls (st.map (mv G ad)))) (k : V G S ov l p e s mt args below meth c nL fr A ad0 N0 Nf Rz N R2 pc2 L2 st2 m2 t) : V G S ov l p e s mt args below meth c nL fr A ad0 N0 Nf Rz N R pc L st m t := by
  intro r mF ht
  obtain ⟨hp, k⟩ := k r mF ht
  exact ⟨hp, fun ad H locs ls h0 h1 h2 h3 h4 h5 => hw ad H locs ls _ _ _ _ h2 h3 h4 h5 rfl rfl (fun H1 locs1 ls1 g2 g3 g4 g5 => k ad H1 locs1 ls1 h0 h1 g2 g3 g4 g5)⟩
theorem V.step {pc2 : Nat} {st2 : List Value} (hw : ∀ (ad : Nat → Nat) (H : Heap) (locs : List Loc) (ls : Array Slot) (Rm : Room) (cells slots : Nat) (Q : State → Prop), va_P G.1 vwCl (wl G S ad N R m) H → va_S A s.heap H locs → Lr G ad ls nL L → W p l e Rm s mt args below meth c H locs cells slots Q (F0 mt pc2 ls (st2.map (mv G ad))) → W p l e Rm s mt args below meth c H locs cells slots Q (F0 mt pc ls (st.map (mv G ad)))) (k : V G S ov l p e s mt args below meth c nL fr A ad0 N0 Nf Rz N R pc2 L st2 m t) : V G S ov l p e s mt args below meth c nL fr A ad0 N0 Nf Rz N R pc L st m t :=
  V.gen (fun ad H locs ls Rm cells slots Q h2 h3 h4 h5 _ _ kk => hw ad H locs ls Rm cells slots Q h2 h4 h5 (kk H locs ls h2 h3 h4 h5)) k
theorem V.ck {cnd : Bool} (k : cnd = true → V G S ov l p e s mt args below meth c nL fr A ad0 N0 Nf Rz N R pc L st m t) : V G S ov l p e s mt args below meth c nL fr A ad0 N0 Nf Rz N R pc L st m (chk cnd t) := by
  intro r mF ht
  rw [chk_eq] at ht
  by_cases hc : cnd = true
  · rw [if_pos hc] at ht
    exact k hc r mF ht
  · rw [if_neg hc] at ht
    cases ht
theorem V.nil : V G S ov l p e s mt args below meth c nL fr A ad0 N0 Nf Rz N R pc L st m none := by
  intro r mF ht
  cases ht
theorem V.br {cnd : Prop} [Decidable cnd] {t2 : Option (α × Mem)} (k1 : cnd → V G S ov l p e s mt args below meth c nL fr A ad0 N0 Nf Rz N R pc L st m t) (k2 : ¬ cnd → V G S ov l p e s mt args below meth c nL fr A ad0 N0 Nf Rz N R pc L st m t2) : V G S ov l p e s mt args below meth c nL fr A ad0 N0 Nf Rz N R pc L st m (if cnd then t else t2) := by
  by_cases hc : cnd
  · rw [if_pos hc]; exact k1 hc
  · rw [if_neg hc]; exact k2 hc
theorem V.wk {L2 : List (Nat × Value)} (ks : List Nat) (hl : lv_pick L ks = L2) (k : V G S ov l p e s mt args below meth c nL fr A ad0 N0 Nf Rz N R pc L2 st m t) : V G S ov l p e s mt args below meth c nL fr A ad0 N0 Nf Rz N R pc L st m t :=
  V.gen (fun ad H locs ls Rm cells slots Q h2 h3 h4 h5 _ _ kk => kk H locs ls h2 h3 h4 (lr_sub h5 ks hl)) k
theorem V.lti {x : Int32} {g : Int32 → Option (α × Mem)} (k : ∀ y : Int32, y = x → V G S ov l p e s mt args below meth c nL fr A ad0 N0 Nf Rz N R pc L (.int y :: st) m (g y)) : V G S ov l p e s mt args below meth c nL fr A ad0 N0 Nf Rz N R pc L (.int x :: st) m (lt x g) := k x rfl
theorem V.ltl {x : Int64} {g : Int64 → Option (α × Mem)} (k : ∀ y : Int64, y = x → V G S ov l p e s mt args below meth c nL fr A ad0 N0 Nf Rz N R pc L (.long y :: st) m (g y)) : V G S ov l p e s mt args below meth c nL fr A ad0 N0 Nf Rz N R pc L (.long x :: st) m (lt x g) := k x rfl
theorem V.ltr {x : Nat} {g : Nat → Option (α × Mem)} (k : ∀ y : Nat, y = x → V G S ov l p e s mt args below meth c nL fr A ad0 N0 Nf Rz N R pc L (.ref y :: st) m (g y)) : V G S ov l p e s mt args below meth c nL fr A ad0 N0 Nf Rz N R pc L (.ref x :: st) m (lt x g) := k x rfl
theorem V.ltm {g : Mem → Option (α × Mem)} (k : ∀ y : Mem, V G S ov l p e s mt args below meth c nL fr A ad0 N0 Nf Rz N R pc L st y (g y)) : V G S ov l p e s mt args below meth c nL fr A ad0 N0 Nf Rz N R pc L st m (lt m g) := k m
theorem V.iconst (C : Cx G p s mt args meth c own cc nL ret nm A) {n : Int} {v : Int32} (hv : Int32.ofInt n = v) (hd : decode cc pc = .ok (.iconst n, 1)) (k : V G S ov l p e s mt args below meth c nL fr A ad0 N0 Nf Rz N R (pc + 1) L (.int v :: st) m t) : V G S ov l p e s mt args below meth c nL fr A ad0 N0 Nf Rz N R pc L (st) m t :=
  V.step (fun ad H locs ls Rm cells slots Q hP hS hL kk => lv_iconst C.1 C.2.1 hd hv kk) k
theorem V.bipush (C : Cx G p s mt args meth c own cc nL ret nm A) {n : Int} {v : Int32} (hv : (Int8.ofInt n).toInt32 = v) (hd : decode cc pc = .ok (.bipush n, 2)) (k : V G S ov l p e s mt args below meth c nL fr A ad0 N0 Nf Rz N R (pc + 2) L (.int v :: st) m t) : V G S ov l p e s mt args below meth c nL fr A ad0 N0 Nf Rz N R pc L (st) m t :=
  V.step (fun ad H locs ls Rm cells slots Q hP hS hL kk => lv_bipush C.1 C.2.1 hd hv kk) k
theorem V.sipush (C : Cx G p s mt args meth c own cc nL ret nm A) {n : Int} {v : Int32} (hv : (Int16.ofInt n).toInt32 = v) (hd : decode cc pc = .ok (.sipush n, 3)) (k : V G S ov l p e s mt args below meth c nL fr A ad0 N0 Nf Rz N R (pc + 3) L (.int v :: st) m t) : V G S ov l p e s mt args below meth c nL fr A ad0 N0 Nf Rz N R pc L (st) m t :=
  V.step (fun ad H locs ls Rm cells slots Q hP hS hL kk => lv_sipush C.1 C.2.1 hd hv kk) k
theorem V.lconst (C : Cx G p s mt args meth c own cc nL ret nm A) {n : Fin 2} {v : Int64} (hv : Int64.ofNat (n : Nat) = v) (hd : decode cc pc = .ok (.lconst n, 1)) (k : V G S ov l p e s mt args below meth c nL fr A ad0 N0 Nf Rz N R (pc + 1) L (.long v :: st) m t) : V G S ov l p e s mt args below meth c nL fr A ad0 N0 Nf Rz N R pc L (st) m t :=
  V.step (fun ad H locs ls Rm cells slots Q hP hS hL kk => lv_lconst C.1 C.2.1 hd hv kk) k
theorem V.ldc (C : Cx G p s mt args meth c own cc nL ret nm A) {i : Nat} {v : Int32} (hc : Jvm.Cond.constant own i v ∈ gtb) (hd : decode cc pc = .ok (.ldc i, 2)) (k : V G S ov l p e s mt args below meth c nL fr A ad0 N0 Nf Rz N R (pc + 2) L (.int v :: st) m t) : V G S ov l p e s mt args below meth c nL fr A ad0 N0 Nf Rz N R pc L (st) m t :=
  V.step (fun ad H locs ls Rm cells slots Q hP hS hL kk => lv_ldc C.1 C.2.1 C.2.2.2.1 (C.2.2.2.2.1 _ hc) hd kk) k
theorem V.ldcw (C : Cx G p s mt args meth c own cc nL ret nm A) {i : Nat} {v : Int32} (hc : Jvm.Cond.constant own i v ∈ gtb) (hd : decode cc pc = .ok (.ldc_w i, 3)) (k : V G S ov l p e s mt args below meth c nL fr A ad0 N0 Nf Rz N R (pc + 3) L (.int v :: st) m t) : V G S ov l p e s mt args below meth c nL fr A ad0 N0 Nf Rz N R pc L (st) m t :=
  V.step (fun ad H locs ls Rm cells slots Q hP hS hL kk => lv_ldcw C.1 C.2.1 C.2.2.2.1 (C.2.2.2.2.1 _ hc) hd kk) k
theorem V.ldc2 (C : Cx G p s mt args meth c own cc nL ret nm A) {i : Nat} {v : Int64} (hc : Jvm.Cond.constantLong own i v ∈ gtb) (hd : decode cc pc = .ok (.ldc2_w i, 3)) (k : V G S ov l p e s mt args below meth c nL fr A ad0 N0 Nf Rz N R (pc + 3) L (.long v :: st) m t) : V G S ov l p e s mt args below meth c nL fr A ad0 N0 Nf Rz N R pc L (st) m t :=
  V.step (fun ad H locs ls Rm cells slots Q hP hS hL kk => lv_ldc2 C.1 C.2.1 C.2.2.2.1 (C.2.2.2.2.1 _ hc) hd kk) k
theorem V.iload_n (C : Cx G p s mt args meth c own cc nL ret nm A) {k0 : Fin 4} {x : Int32} (i : Nat) (hx : L[i]? = some ((k0 : Nat), .int x)) (hd : decode cc pc = .ok (.iload_n k0, 1)) (k : V G S ov l p e s mt args below meth c nL fr A ad0 N0 Nf Rz N R (pc + 1) L (.int x :: st) m t) : V G S ov l p e s mt args below meth c nL fr A ad0 N0 Nf Rz N R pc L (st) m t :=
  V.step (fun ad H locs ls Rm cells slots Q hP hS hL kk => lv_iload_n C.1 C.2.1 hd rfl (lr_at hL i hx) kk) k
theorem V.iload (C : Cx G p s mt args meth c own cc nL ret nm A) {k0 : Nat} {x : Int32} (i : Nat) (hx : L[i]? = some (k0, .int x)) (hd : decode cc pc = .ok (.iload k0, 2)) (k : V G S ov l p e s mt args below meth c nL fr A ad0 N0 Nf Rz N R (pc + 2) L (.int x :: st) m t) : V G S ov l p e s mt args below meth c nL fr A ad0 N0 Nf Rz N R pc L (st) m t :=
  V.step (fun ad H locs ls Rm cells slots Q hP hS hL kk => lv_iload C.1 C.2.1 hd (lr_at hL i hx) kk) k
theorem V.lload_n (C : Cx G p s mt args meth c own cc nL ret nm A) {k0 : Fin 4} {x : Int64} (i : Nat) (hx : L[i]? = some ((k0 : Nat), .long x)) (hd : decode cc pc = .ok (.lload_n k0, 1)) (k : V G S ov l p e s mt args below meth c nL fr A ad0 N0 Nf Rz N R (pc + 1) L (.long x :: st) m t) : V G S ov l p e s mt args below meth c nL fr A ad0 N0 Nf Rz N R pc L (st) m t :=
  V.step (fun ad H locs ls Rm cells slots Q hP hS hL kk => lv_lload_n C.1 C.2.1 hd rfl (lr_at hL i hx) kk) k
theorem V.lload (C : Cx G p s mt args meth c own cc nL ret nm A) {k0 : Nat} {x : Int64} (i : Nat) (hx : L[i]? = some (k0, .long x)) (hd : decode cc pc = .ok (.lload k0, 2)) (k : V G S ov l p e s mt args below meth c nL fr A ad0 N0 Nf Rz N R (pc + 2) L (.long x :: st) m t) : V G S ov l p e s mt args below meth c nL fr A ad0 N0 Nf Rz N R pc L (st) m t :=
  V.step (fun ad H locs ls Rm cells slots Q hP hS hL kk => lv_lload C.1 C.2.1 hd (lr_at hL i hx) kk) k
theorem V.aload_n (C : Cx G p s mt args meth c own cc nL ret nm A) {k0 : Fin 4} {a : Nat} (i : Nat) (hx : L[i]? = some ((k0 : Nat), .ref a)) (hd : decode cc pc = .ok (.aload_n k0, 1)) (k : V G S ov l p e s mt args below meth c nL fr A ad0 N0 Nf Rz N R (pc + 1) L (.ref a :: st) m t) : V G S ov l p e s mt args below meth c nL fr A ad0 N0 Nf Rz N R pc L (st) m t :=
  V.step (fun ad H locs ls Rm cells slots Q hP hS hL kk => lv_aload_n C.1 C.2.1 hd rfl (lr_at hL i hx) kk) k
theorem V.aload (C : Cx G p s mt args meth c own cc nL ret nm A) {k0 : Nat} {a : Nat} (i : Nat) (hx : L[i]? = some (k0, .ref a)) (hd : decode cc pc = .ok (.aload k0, 2)) (k : V G S ov l p e s mt args below meth c nL fr A ad0 N0 Nf Rz N R (pc + 2) L (.ref a :: st) m t) : V G S ov l p e s mt args below meth c nL fr A ad0 N0 Nf Rz N R pc L (st) m t :=
  V.step (fun ad H locs ls Rm cells slots Q hP hS hL kk => lv_aload C.1 C.2.1 hd (lr_at hL i hx) kk) k
theorem V.sload_n (C : Cx G p s mt args meth c own cc nL ret nm A) {k0 : Fin 4} {a : Nat} (i : Nat) (hx : L[i]? = some ((k0 : Nat), .retAddr a)) (hd : decode cc pc = .ok (.aload_n k0, 1)) (k : V G S ov l p e s mt args below meth c nL fr A ad0 N0 Nf Rz N R (pc + 1) L (.retAddr a :: st) m t) : V G S ov l p e s mt args below meth c nL fr A ad0 N0 Nf Rz N R pc L st m t := by
  refine V.step (fun ad H locs ls Rm cells slots Q hP hS hL kk => ?_) k
  have h1 := lr_at hL i hx
  have e1 : ∃ q, mv G ad (.retAddr a) = .ref q := by
    by_cases h : a < 1000
    · exact ⟨_, if_pos h⟩
    · exact ⟨_, if_neg h⟩
  obtain ⟨q, e1⟩ := e1
  rw [List.map_cons] at kk
  rw [e1] at h1 kk
  exact lv_aload_n C.1 C.2.1 hd rfl h1 kk
theorem V.iadd (C : Cx G p s mt args meth c own cc nL ret nm A) {x y : Int32} (hd : decode cc pc = .ok (.iadd, 1)) (k : V G S ov l p e s mt args below meth c nL fr A ad0 N0 Nf Rz N R (pc + 1) L (.int (x + y) :: st) m t) : V G S ov l p e s mt args below meth c nL fr A ad0 N0 Nf Rz N R pc L (.int y :: .int x :: st) m t :=
  V.step (fun ad H locs ls Rm cells slots Q hP hS hL kk => lv_iadd C.1 C.2.1 hd kk) k
theorem V.isub (C : Cx G p s mt args meth c own cc nL ret nm A) {x y : Int32} (hd : decode cc pc = .ok (.isub, 1)) (k : V G S ov l p e s mt args below meth c nL fr A ad0 N0 Nf Rz N R (pc + 1) L (.int (x - y) :: st) m t) : V G S ov l p e s mt args below meth c nL fr A ad0 N0 Nf Rz N R pc L (.int y :: .int x :: st) m t :=
  V.step (fun ad H locs ls Rm cells slots Q hP hS hL kk => lv_isub C.1 C.2.1 hd kk) k
theorem V.imul (C : Cx G p s mt args meth c own cc nL ret nm A) {x y : Int32} (hd : decode cc pc = .ok (.imul, 1)) (k : V G S ov l p e s mt args below meth c nL fr A ad0 N0 Nf Rz N R (pc + 1) L (.int (x * y) :: st) m t) : V G S ov l p e s mt args below meth c nL fr A ad0 N0 Nf Rz N R pc L (.int y :: .int x :: st) m t :=
  V.step (fun ad H locs ls Rm cells slots Q hP hS hL kk => lv_imul C.1 C.2.1 hd kk) k
theorem V.iand (C : Cx G p s mt args meth c own cc nL ret nm A) {x y : Int32} (hd : decode cc pc = .ok (.iand, 1)) (k : V G S ov l p e s mt args below meth c nL fr A ad0 N0 Nf Rz N R (pc + 1) L (.int (x &&& y) :: st) m t) : V G S ov l p e s mt args below meth c nL fr A ad0 N0 Nf Rz N R pc L (.int y :: .int x :: st) m t :=
  V.step (fun ad H locs ls Rm cells slots Q hP hS hL kk => lv_iand C.1 C.2.1 hd kk) k
theorem V.ior (C : Cx G p s mt args meth c own cc nL ret nm A) {x y : Int32} (hd : decode cc pc = .ok (.ior, 1)) (k : V G S ov l p e s mt args below meth c nL fr A ad0 N0 Nf Rz N R (pc + 1) L (.int (x ||| y) :: st) m t) : V G S ov l p e s mt args below meth c nL fr A ad0 N0 Nf Rz N R pc L (.int y :: .int x :: st) m t :=
  V.step (fun ad H locs ls Rm cells slots Q hP hS hL kk => lv_ior C.1 C.2.1 hd kk) k
theorem V.ixor (C : Cx G p s mt args meth c own cc nL ret nm A) {x y : Int32} (hd : decode cc pc = .ok (.ixor, 1)) (k : V G S ov l p e s mt args below meth c nL fr A ad0 N0 Nf Rz N R (pc + 1) L (.int (x ^^^ y) :: st) m t) : V G S ov l p e s mt args below meth c nL fr A ad0 N0 Nf Rz N R pc L (.int y :: .int x :: st) m t :=
  V.step (fun ad H locs ls Rm cells slots Q hP hS hL kk => lv_ixor C.1 C.2.1 hd kk) k
theorem V.ishl (C : Cx G p s mt args meth c own cc nL ret nm A) {x y : Int32} (hd : decode cc pc = .ok (.ishl, 1)) (k : V G S ov l p e s mt args below meth c nL fr A ad0 N0 Nf Rz N R (pc + 1) L (.int (x <<< (y &&& 31)) :: st) m t) : V G S ov l p e s mt args below meth c nL fr A ad0 N0 Nf Rz N R pc L (.int y :: .int x :: st) m t :=
  V.step (fun ad H locs ls Rm cells slots Q hP hS hL kk => lv_ishl C.1 C.2.1 hd kk) k
theorem V.ishr (C : Cx G p s mt args meth c own cc nL ret nm A) {x y : Int32} (hd : decode cc pc = .ok (.ishr, 1)) (k : V G S ov l p e s mt args below meth c nL fr A ad0 N0 Nf Rz N R (pc + 1) L (.int (x >>> (y &&& 31)) :: st) m t) : V G S ov l p e s mt args below meth c nL fr A ad0 N0 Nf Rz N R pc L (.int y :: .int x :: st) m t :=
  V.step (fun ad H locs ls Rm cells slots Q hP hS hL kk => lv_ishr C.1 C.2.1 hd kk) k
theorem V.iushr (C : Cx G p s mt args meth c own cc nL ret nm A) {x y : Int32} (hd : decode cc pc = .ok (.iushr, 1)) (k : V G S ov l p e s mt args below meth c nL fr A ad0 N0 Nf Rz N R (pc + 1) L (.int ((x.toUInt32 >>> (y.toUInt32 &&& Int32.toUInt32 31)).toInt32) :: st) m t) : V G S ov l p e s mt args below meth c nL fr A ad0 N0 Nf Rz N R pc L (.int y :: .int x :: st) m t :=
  V.step (fun ad H locs ls Rm cells slots Q hP hS hL kk => lv_iushr C.1 C.2.1 hd rfl kk) k
theorem V.ineg (C : Cx G p s mt args meth c own cc nL ret nm A) {x : Int32} (hd : decode cc pc = .ok (.ineg, 1)) (k : V G S ov l p e s mt args below meth c nL fr A ad0 N0 Nf Rz N R (pc + 1) L (.int (-x) :: st) m t) : V G S ov l p e s mt args below meth c nL fr A ad0 N0 Nf Rz N R pc L (.int x :: st) m t :=
  V.step (fun ad H locs ls Rm cells slots Q hP hS hL kk => lv_ineg C.1 C.2.1 hd kk) k
theorem V.idiv (C : Cx G p s mt args meth c own cc nL ret nm A) {x y : Int32} (hne : ¬ y = 0) (hd : decode cc pc = .ok (.idiv, 1)) (k : V G S ov l p e s mt args below meth c nL fr A ad0 N0 Nf Rz N R (pc + 1) L (.int (x / y) :: st) m t) : V G S ov l p e s mt args below meth c nL fr A ad0 N0 Nf Rz N R pc L (.int y :: .int x :: st) m t :=
  V.step (fun ad H locs ls Rm cells slots Q hP hS hL kk => lv_idiv C.1 C.2.1 hd hne kk) k
theorem V.irem (C : Cx G p s mt args meth c own cc nL ret nm A) {x y : Int32} (hne : ¬ y = 0) (hd : decode cc pc = .ok (.irem, 1)) (k : V G S ov l p e s mt args below meth c nL fr A ad0 N0 Nf Rz N R (pc + 1) L (.int (x - x / y * y) :: st) m t) : V G S ov l p e s mt args below meth c nL fr A ad0 N0 Nf Rz N R pc L (.int y :: .int x :: st) m t :=
  V.step (fun ad H locs ls Rm cells slots Q hP hS hL kk => lv_irem C.1 C.2.1 hd hne kk) k
theorem V.ladd (C : Cx G p s mt args meth c own cc nL ret nm A) {x y : Int64} (hd : decode cc pc = .ok (.ladd, 1)) (k : V G S ov l p e s mt args below meth c nL fr A ad0 N0 Nf Rz N R (pc + 1) L (.long (x + y) :: st) m t) : V G S ov l p e s mt args below meth c nL fr A ad0 N0 Nf Rz N R pc L (.long y :: .long x :: st) m t :=
  V.step (fun ad H locs ls Rm cells slots Q hP hS hL kk => lv_ladd C.1 C.2.1 hd kk) k
theorem V.lsub (C : Cx G p s mt args meth c own cc nL ret nm A) {x y : Int64} (hd : decode cc pc = .ok (.lsub, 1)) (k : V G S ov l p e s mt args below meth c nL fr A ad0 N0 Nf Rz N R (pc + 1) L (.long (x - y) :: st) m t) : V G S ov l p e s mt args below meth c nL fr A ad0 N0 Nf Rz N R pc L (.long y :: .long x :: st) m t :=
  V.step (fun ad H locs ls Rm cells slots Q hP hS hL kk => lv_lsub C.1 C.2.1 hd kk) k
theorem V.lmul (C : Cx G p s mt args meth c own cc nL ret nm A) {x y : Int64} (hd : decode cc pc = .ok (.lmul, 1)) (k : V G S ov l p e s mt args below meth c nL fr A ad0 N0 Nf Rz N R (pc + 1) L (.long (x * y) :: st) m t) : V G S ov l p e s mt args below meth c nL fr A ad0 N0 Nf Rz N R pc L (.long y :: .long x :: st) m t :=
  V.step (fun ad H locs ls Rm cells slots Q hP hS hL kk => lv_lmul C.1 C.2.1 hd kk) k
theorem V.land (C : Cx G p s mt args meth c own cc nL ret nm A) {x y : Int64} (hd : decode cc pc = .ok (.land, 1)) (k : V G S ov l p e s mt args below meth c nL fr A ad0 N0 Nf Rz N R (pc + 1) L (.long (x &&& y) :: st) m t) : V G S ov l p e s mt args below meth c nL fr A ad0 N0 Nf Rz N R pc L (.long y :: .long x :: st) m t :=
  V.step (fun ad H locs ls Rm cells slots Q hP hS hL kk => lv_land C.1 C.2.1 hd kk) k
theorem V.lor (C : Cx G p s mt args meth c own cc nL ret nm A) {x y : Int64} (hd : decode cc pc = .ok (.lor, 1)) (k : V G S ov l p e s mt args below meth c nL fr A ad0 N0 Nf Rz N R (pc + 1) L (.long (x ||| y) :: st) m t) : V G S ov l p e s mt args below meth c nL fr A ad0 N0 Nf Rz N R pc L (.long y :: .long x :: st) m t :=
  V.step (fun ad H locs ls Rm cells slots Q hP hS hL kk => lv_lor C.1 C.2.1 hd kk) k
theorem V.lshl (C : Cx G p s mt args meth c own cc nL ret nm A) {x : Int64} {y : Int32} (hd : decode cc pc = .ok (.lshl, 1)) (k : V G S ov l p e s mt args below meth c nL fr A ad0 N0 Nf Rz N R (pc + 1) L (.long (x <<< (y.toInt64 &&& 63)) :: st) m t) : V G S ov l p e s mt args below meth c nL fr A ad0 N0 Nf Rz N R pc L (.int y :: .long x :: st) m t :=
  V.step (fun ad H locs ls Rm cells slots Q hP hS hL kk => lv_lshl C.1 C.2.1 hd rfl kk) k
theorem V.lshr (C : Cx G p s mt args meth c own cc nL ret nm A) {x : Int64} {y : Int32} (hd : decode cc pc = .ok (.lshr, 1)) (k : V G S ov l p e s mt args below meth c nL fr A ad0 N0 Nf Rz N R (pc + 1) L (.long (x >>> (y.toInt64 &&& 63)) :: st) m t) : V G S ov l p e s mt args below meth c nL fr A ad0 N0 Nf Rz N R pc L (.int y :: .long x :: st) m t :=
  V.step (fun ad H locs ls Rm cells slots Q hP hS hL kk => lv_lshr C.1 C.2.1 hd rfl kk) k
theorem V.lcmp (C : Cx G p s mt args meth c own cc nL ret nm A) {x y : Int64} (hd : decode cc pc = .ok (.lcmp, 1)) (k : V G S ov l p e s mt args below meth c nL fr A ad0 N0 Nf Rz N R (pc + 1) L (.int (lg_cmp x y) :: st) m t) : V G S ov l p e s mt args below meth c nL fr A ad0 N0 Nf Rz N R pc L (.long y :: .long x :: st) m t :=
  V.step (fun ad H locs ls Rm cells slots Q hP hS hL kk => W.lcmp C.1 C.2.1 hd kk) k
theorem V.i2l (C : Cx G p s mt args meth c own cc nL ret nm A) {x : Int32} (hd : decode cc pc = .ok (.i2l, 1)) (k : V G S ov l p e s mt args below meth c nL fr A ad0 N0 Nf Rz N R (pc + 1) L (.long x.toInt64 :: st) m t) : V G S ov l p e s mt args below meth c nL fr A ad0 N0 Nf Rz N R pc L (.int x :: st) m t :=
  V.step (fun ad H locs ls Rm cells slots Q hP hS hL kk => lv_i2l C.1 C.2.1 hd rfl kk) k
theorem V.l2i (C : Cx G p s mt args meth c own cc nL ret nm A) {x : Int64} (hd : decode cc pc = .ok (.l2i, 1)) (k : V G S ov l p e s mt args below meth c nL fr A ad0 N0 Nf Rz N R (pc + 1) L (.int x.toInt32 :: st) m t) : V G S ov l p e s mt args below meth c nL fr A ad0 N0 Nf Rz N R pc L (.long x :: st) m t :=
  V.step (fun ad H locs ls Rm cells slots Q hP hS hL kk => lv_l2i C.1 C.2.1 hd rfl kk) k
theorem V.i2b (C : Cx G p s mt args meth c own cc nL ret nm A) {x : Int32} (hd : decode cc pc = .ok (.i2b, 1)) (k : V G S ov l p e s mt args below meth c nL fr A ad0 N0 Nf Rz N R (pc + 1) L (.int x.toInt8.toInt32 :: st) m t) : V G S ov l p e s mt args below meth c nL fr A ad0 N0 Nf Rz N R pc L (.int x :: st) m t :=
  V.step (fun ad H locs ls Rm cells slots Q hP hS hL kk => lv_i2b C.1 C.2.1 hd rfl kk) k
theorem V.i2s (C : Cx G p s mt args meth c own cc nL ret nm A) {x : Int32} (hd : decode cc pc = .ok (.i2s, 1)) (k : V G S ov l p e s mt args below meth c nL fr A ad0 N0 Nf Rz N R (pc + 1) L (.int x.toInt16.toInt32 :: st) m t) : V G S ov l p e s mt args below meth c nL fr A ad0 N0 Nf Rz N R pc L (.int x :: st) m t :=
  V.step (fun ad H locs ls Rm cells slots Q hP hS hL kk => lv_i2s C.1 C.2.1 hd rfl kk) k
theorem V.i2c (C : Cx G p s mt args meth c own cc nL ret nm A) {x : Int32} (hd : decode cc pc = .ok (.i2c, 1)) (k : V G S ov l p e s mt args below meth c nL fr A ad0 N0 Nf Rz N R (pc + 1) L (.int (x.toUInt32 % 65536).toInt32 :: st) m t) : V G S ov l p e s mt args below meth c nL fr A ad0 N0 Nf Rz N R pc L (.int x :: st) m t :=
  V.step (fun ad H locs ls Rm cells slots Q hP hS hL kk => lv_i2c C.1 C.2.1 hd rfl kk) k
theorem V.dup (C : Cx G p s mt args meth c own cc nL ret nm A) {v : Value} (hv : v.category = 1) (hd : decode cc pc = .ok (.dup, 1)) (k : V G S ov l p e s mt args below meth c nL fr A ad0 N0 Nf Rz N R (pc + 1) L (v :: v :: st) m t) : V G S ov l p e s mt args below meth c nL fr A ad0 N0 Nf Rz N R pc L (v :: st) m t :=
  V.step (fun ad H locs ls Rm cells slots Q hP hS hL kk => lv_dup C.1 C.2.1 hd (by rw [mv_cat]; exact hv) kk) k
theorem V.pop (C : Cx G p s mt args meth c own cc nL ret nm A) {v : Value} (hv : v.category = 1) (hd : decode cc pc = .ok (.pop, 1)) (k : V G S ov l p e s mt args below meth c nL fr A ad0 N0 Nf Rz N R (pc + 1) L (st) m t) : V G S ov l p e s mt args below meth c nL fr A ad0 N0 Nf Rz N R pc L (v :: st) m t :=
  V.step (fun ad H locs ls Rm cells slots Q hP hS hL kk => lv_pop C.1 C.2.1 hd (by rw [mv_cat]; exact hv) kk) k
theorem V.dup2 (C : Cx G p s mt args meth c own cc nL ret nm A) {v w : Value} (hv : v.category = 1) (hw : w.category = 1) (hd : decode cc pc = .ok (.dup2, 1)) (k : V G S ov l p e s mt args below meth c nL fr A ad0 N0 Nf Rz N R (pc + 1) L (v :: w :: v :: w :: st) m t) : V G S ov l p e s mt args below meth c nL fr A ad0 N0 Nf Rz N R pc L (v :: w :: st) m t :=
  V.step (fun ad H locs ls Rm cells slots Q hP hS hL kk => lv_dup2_11 C.1 C.2.1 hd (by rw [mv_cat]; exact hv) (by rw [mv_cat]; exact hw) kk) k
theorem V.dup_x1 (C : Cx G p s mt args meth c own cc nL ret nm A) {v w : Value} (hv : v.category = 1) (hw : w.category = 1) (hd : decode cc pc = .ok (.dup_x1, 1)) (k : V G S ov l p e s mt args below meth c nL fr A ad0 N0 Nf Rz N R (pc + 1) L (v :: w :: v :: st) m t) : V G S ov l p e s mt args below meth c nL fr A ad0 N0 Nf Rz N R pc L (v :: w :: st) m t :=
  V.step (fun ad H locs ls Rm cells slots Q hP hS hL kk => lv_dup_x1 C.1 C.2.1 hd (by rw [mv_cat]; exact hv) (by rw [mv_cat]; exact hw) kk) k
theorem V.goto (C : Cx G p s mt args meth c own cc nL ret nm A) {off : Int} (tgt : Nat) (ht : (pc : Int) + off = (tgt : Int)) (hd : decode cc pc = .ok (.goto off, 3)) (k : V G S ov l p e s mt args below meth c nL fr A ad0 N0 Nf Rz N R tgt L (st) m t) : V G S ov l p e s mt args below meth c nL fr A ad0 N0 Nf Rz N R pc L (st) m t :=
  V.step (fun ad H locs ls Rm cells slots Q hP hS hL kk => lv_goto C.1 C.2.1 hd ht kk) k
theorem V.istore_n (C : Cx G p s mt args meth c own cc nL ret nm A) {k0 : Fin 4} {x : Int32} {L2 : List (Nat × Value)} (hn : (k0 : Nat) < nL) (hl : stI L (k0 : Nat) (.int x) = L2) (hd : decode cc pc = .ok (.istore_n k0, 1)) (k : V G S ov l p e s mt args below meth c nL fr A ad0 N0 Nf Rz N R (pc + 1) L2 st m t) : V G S ov l p e s mt args below meth c nL fr A ad0 N0 Nf Rz N R pc L (.int x :: st) m t :=
  V.gen (fun ad H locs ls Rm cells slots Q h2 h3 h4 h5 _ _ kk => lv_istore_n C.1 C.2.1 hd rfl h5 hn (stI_map (v := .int x) hl) (fun ls1 g5 => kk H locs ls1 h2 h3 h4 g5)) k
theorem V.istore (C : Cx G p s mt args meth c own cc nL ret nm A) {i : Nat} {x : Int32} {L2 : List (Nat × Value)} (hn : i < nL) (hl : stI L i (.int x) = L2) (hd : decode cc pc = .ok (.istore i, 2)) (k : V G S ov l p e s mt args below meth c nL fr A ad0 N0 Nf Rz N R (pc + 2) L2 st m t) : V G S ov l p e s mt args below meth c nL fr A ad0 N0 Nf Rz N R pc L (.int x :: st) m t :=
  V.gen (fun ad H locs ls Rm cells slots Q h2 h3 h4 h5 _ _ kk => lv_istore C.1 C.2.1 hd h5 hn (stI_map (v := .int x) hl) (fun ls1 g5 => kk H locs ls1 h2 h3 h4 g5)) k
theorem V.lstore_n (C : Cx G p s mt args meth c own cc nL ret nm A) {k0 : Fin 4} {x : Int64} {L2 : List (Nat × Value)} (hn : (k0 : Nat) + 1 < nL) (hl : stJ L (k0 : Nat) (.long x) = L2) (hd : decode cc pc = .ok (.lstore_n k0, 1)) (k : V G S ov l p e s mt args below meth c nL fr A ad0 N0 Nf Rz N R (pc + 1) L2 st m t) : V G S ov l p e s mt args below meth c nL fr A ad0 N0 Nf Rz N R pc L (.long x :: st) m t :=
  V.gen (fun ad H locs ls Rm cells slots Q h2 h3 h4 h5 _ _ kk => lv_lstore_n C.1 C.2.1 hd rfl h5 hn (stJ_map (v := .long x) hl) (fun ls1 g5 => kk H locs ls1 h2 h3 h4 g5)) k
theorem V.lstore (C : Cx G p s mt args meth c own cc nL ret nm A) {i : Nat} {x : Int64} {L2 : List (Nat × Value)} (hn : i + 1 < nL) (hl : stJ L i (.long x) = L2) (hd : decode cc pc = .ok (.lstore i, 2)) (k : V G S ov l p e s mt args below meth c nL fr A ad0 N0 Nf Rz N R (pc + 2) L2 st m t) : V G S ov l p e s mt args below meth c nL fr A ad0 N0 Nf Rz N R pc L (.long x :: st) m t :=
  V.gen (fun ad H locs ls Rm cells slots Q h2 h3 h4 h5 _ _ kk => lv_lstore C.1 C.2.1 hd h5 hn (stJ_map (v := .long x) hl) (fun ls1 g5 => kk H locs ls1 h2 h3 h4 g5)) k
theorem V.astore_n (C : Cx G p s mt args meth c own cc nL ret nm A) {k0 : Fin 4} {x : Nat} {L2 : List (Nat × Value)} (hn : (k0 : Nat) < nL) (hl : stI L (k0 : Nat) (.ref x) = L2) (hd : decode cc pc = .ok (.astore_n k0, 1)) (k : V G S ov l p e s mt args below meth c nL fr A ad0 N0 Nf Rz N R (pc + 1) L2 st m t) : V G S ov l p e s mt args below meth c nL fr A ad0 N0 Nf Rz N R pc L (.ref x :: st) m t :=
  V.gen (fun ad H locs ls Rm cells slots Q h2 h3 h4 h5 _ _ kk => lv_astore_n C.1 C.2.1 hd rfl h5 hn (stI_map (v := .ref x) hl) (fun ls1 g5 => kk H locs ls1 h2 h3 h4 g5)) k
theorem V.astore (C : Cx G p s mt args meth c own cc nL ret nm A) {i : Nat} {x : Nat} {L2 : List (Nat × Value)} (hn : i < nL) (hl : stI L i (.ref x) = L2) (hd : decode cc pc = .ok (.astore i, 2)) (k : V G S ov l p e s mt args below meth c nL fr A ad0 N0 Nf Rz N R (pc + 2) L2 st m t) : V G S ov l p e s mt args below meth c nL fr A ad0 N0 Nf Rz N R pc L (.ref x :: st) m t :=
  V.gen (fun ad H locs ls Rm cells slots Q h2 h3 h4 h5 _ _ kk => lv_astore C.1 C.2.1 hd h5 hn (stI_map (v := .ref x) hl) (fun ls1 g5 => kk H locs ls1 h2 h3 h4 g5)) k
theorem V.iinc (C : Cx G p s mt args meth c own cc nL ret nm A) {i : Nat} {n : Int} {x v : Int32} {L2 : List (Nat × Value)} (j : Nat) (hj : L[j]? = some (i, .int x)) (hv : Int32.ofInt n = v) (hn : i < nL) (hl : stI L i (.int (x + v)) = L2) (hd : decode cc pc = .ok (.iinc i n, 3)) (k : V G S ov l p e s mt args below meth c nL fr A ad0 N0 Nf Rz N R (pc + 3) L2 st m t) : V G S ov l p e s mt args below meth c nL fr A ad0 N0 Nf Rz N R pc L st m t :=
  V.gen (fun ad H locs ls Rm cells slots Q h2 h3 h4 h5 _ _ kk => lv_iinc C.1 C.2.1 hd h5 (k := j) (x := x) (by rw [List.getElem?_map, hj]; rfl) (show x + Int32.ofInt n = x + v by rw [hv]) hn (stI_map (v := .int (x + v)) hl) (fun ls1 g5 => kk H locs ls1 h2 h3 h4 g5)) k
theorem V.if_eq (C : Cx G p s mt args meth c own cc nL ret nm A) {x : Int32} {off : Int} {t2 : Option (α × Mem)} (tgt : Nat) (ht : (pc : Int) + off = (tgt : Int)) (hd : decode cc pc = .ok (.ifCond .eq off, 3)) (k1 : x = 0 → V G S ov l p e s mt args below meth c nL fr A ad0 N0 Nf Rz N R tgt L st m t) (k2 : ¬ x = 0 → V G S ov l p e s mt args below meth c nL fr A ad0 N0 Nf Rz N R (pc + 3) L st m t2) : V G S ov l p e s mt args below meth c nL fr A ad0 N0 Nf Rz N R pc L (.int x :: st) m (if x = 0 then t else t2) := by
  by_cases hc : x = 0
  · rw [if_pos hc]
    exact V.step (fun ad H locs ls Rm cells slots Q hP hS hL kk => lv_if_eq C.1 C.2.1 hd ht (fun _ => kk) (fun g => absurd hc g)) (k1 hc)
  · rw [if_neg hc]
    exact V.step (fun ad H locs ls Rm cells slots Q hP hS hL kk => lv_if_eq C.1 C.2.1 hd ht (fun g => absurd g hc) (fun _ => kk)) (k2 hc)
theorem V.if_ne (C : Cx G p s mt args meth c own cc nL ret nm A) {x : Int32} {off : Int} {t2 : Option (α × Mem)} (tgt : Nat) (ht : (pc : Int) + off = (tgt : Int)) (hd : decode cc pc = .ok (.ifCond .ne off, 3)) (k1 : ¬ x = 0 → V G S ov l p e s mt args below meth c nL fr A ad0 N0 Nf Rz N R tgt L st m t) (k2 : x = 0 → V G S ov l p e s mt args below meth c nL fr A ad0 N0 Nf Rz N R (pc + 3) L st m t2) : V G S ov l p e s mt args below meth c nL fr A ad0 N0 Nf Rz N R pc L (.int x :: st) m (if x = 0 then t2 else t) := by
  by_cases hc : x = 0
  · rw [if_pos hc]
    exact V.step (fun ad H locs ls Rm cells slots Q hP hS hL kk => lv_if_ne C.1 C.2.1 hd ht (fun g => absurd hc g) (fun _ => kk)) (k2 hc)
  · rw [if_neg hc]
    exact V.step (fun ad H locs ls Rm cells slots Q hP hS hL kk => lv_if_ne C.1 C.2.1 hd ht (fun _ => kk) (fun g => absurd g hc)) (k1 hc)
theorem V.if_lt (C : Cx G p s mt args meth c own cc nL ret nm A) {x : Int32} {off : Int} {t2 : Option (α × Mem)} (tgt : Nat) (ht : (pc : Int) + off = (tgt : Int)) (hd : decode cc pc = .ok (.ifCond .lt off, 3)) (k1 : x < 0 → V G S ov l p e s mt args below meth c nL fr A ad0 N0 Nf Rz N R tgt L st m t) (k2 : ¬ x < 0 → V G S ov l p e s mt args below meth c nL fr A ad0 N0 Nf Rz N R (pc + 3) L st m t2) : V G S ov l p e s mt args below meth c nL fr A ad0 N0 Nf Rz N R pc L (.int x :: st) m (if x < 0 then t else t2) := by
  by_cases hc : x < 0
  · rw [if_pos hc]
    exact V.step (fun ad H locs ls Rm cells slots Q hP hS hL kk => lv_if_lt C.1 C.2.1 hd ht (fun _ => kk) (fun g => absurd hc g)) (k1 hc)
  · rw [if_neg hc]
    exact V.step (fun ad H locs ls Rm cells slots Q hP hS hL kk => lv_if_lt C.1 C.2.1 hd ht (fun g => absurd g hc) (fun _ => kk)) (k2 hc)
theorem V.if_ge (C : Cx G p s mt args meth c own cc nL ret nm A) {x : Int32} {off : Int} {t2 : Option (α × Mem)} (tgt : Nat) (ht : (pc : Int) + off = (tgt : Int)) (hd : decode cc pc = .ok (.ifCond .ge off, 3)) (k1 : 0 ≤ x → V G S ov l p e s mt args below meth c nL fr A ad0 N0 Nf Rz N R tgt L st m t) (k2 : ¬ 0 ≤ x → V G S ov l p e s mt args below meth c nL fr A ad0 N0 Nf Rz N R (pc + 3) L st m t2) : V G S ov l p e s mt args below meth c nL fr A ad0 N0 Nf Rz N R pc L (.int x :: st) m (if 0 ≤ x then t else t2) := by
  by_cases hc : 0 ≤ x
  · rw [if_pos hc]
    exact V.step (fun ad H locs ls Rm cells slots Q hP hS hL kk => lv_if_ge C.1 C.2.1 hd ht (fun _ => kk) (fun g => absurd hc g)) (k1 hc)
  · rw [if_neg hc]
    exact V.step (fun ad H locs ls Rm cells slots Q hP hS hL kk => lv_if_ge C.1 C.2.1 hd ht (fun g => absurd g hc) (fun _ => kk)) (k2 hc)
theorem V.if_gt (C : Cx G p s mt args meth c own cc nL ret nm A) {x : Int32} {off : Int} {t2 : Option (α × Mem)} (tgt : Nat) (ht : (pc : Int) + off = (tgt : Int)) (hd : decode cc pc = .ok (.ifCond .gt off, 3)) (k1 : 0 < x → V G S ov l p e s mt args below meth c nL fr A ad0 N0 Nf Rz N R tgt L st m t) (k2 : ¬ 0 < x → V G S ov l p e s mt args below meth c nL fr A ad0 N0 Nf Rz N R (pc + 3) L st m t2) : V G S ov l p e s mt args below meth c nL fr A ad0 N0 Nf Rz N R pc L (.int x :: st) m (if 0 < x then t else t2) := by
  by_cases hc : 0 < x
  · rw [if_pos hc]
    exact V.step (fun ad H locs ls Rm cells slots Q hP hS hL kk => lv_if_gt C.1 C.2.1 hd ht (fun _ => kk) (fun g => absurd hc g)) (k1 hc)
  · rw [if_neg hc]
    exact V.step (fun ad H locs ls Rm cells slots Q hP hS hL kk => lv_if_gt C.1 C.2.1 hd ht (fun g => absurd g hc) (fun _ => kk)) (k2 hc)
theorem V.if_le (C : Cx G p s mt args meth c own cc nL ret nm A) {x : Int32} {off : Int} {t2 : Option (α × Mem)} (tgt : Nat) (ht : (pc : Int) + off = (tgt : Int)) (hd : decode cc pc = .ok (.ifCond .le off, 3)) (k1 : x ≤ 0 → V G S ov l p e s mt args below meth c nL fr A ad0 N0 Nf Rz N R tgt L st m t) (k2 : ¬ x ≤ 0 → V G S ov l p e s mt args below meth c nL fr A ad0 N0 Nf Rz N R (pc + 3) L st m t2) : V G S ov l p e s mt args below meth c nL fr A ad0 N0 Nf Rz N R pc L (.int x :: st) m (if x ≤ 0 then t else t2) := by
  by_cases hc : x ≤ 0
  · rw [if_pos hc]
    exact V.step (fun ad H locs ls Rm cells slots Q hP hS hL kk => lv_if_le C.1 C.2.1 hd ht (fun _ => kk) (fun g => absurd hc g)) (k1 hc)
  · rw [if_neg hc]
    exact V.step (fun ad H locs ls Rm cells slots Q hP hS hL kk => lv_if_le C.1 C.2.1 hd ht (fun g => absurd g hc) (fun _ => kk)) (k2 hc)
theorem V.icmp_eq (C : Cx G p s mt args meth c own cc nL ret nm A) {x y : Int32} {off : Int} {t2 : Option (α × Mem)} (tgt : Nat) (ht : (pc : Int) + off = (tgt : Int)) (hd : decode cc pc = .ok (.if_icmp .eq off, 3)) (k1 : x = y → V G S ov l p e s mt args below meth c nL fr A ad0 N0 Nf Rz N R tgt L st m t) (k2 : ¬ x = y → V G S ov l p e s mt args below meth c nL fr A ad0 N0 Nf Rz N R (pc + 3) L st m t2) : V G S ov l p e s mt args below meth c nL fr A ad0 N0 Nf Rz N R pc L (.int y :: .int x :: st) m (if x = y then t else t2) := by
  by_cases hc : x = y
  · rw [if_pos hc]
    exact V.step (fun ad H locs ls Rm cells slots Q hP hS hL kk => lv_icmp_eq C.1 C.2.1 hd ht (fun _ => kk) (fun g => absurd hc g)) (k1 hc)
  · rw [if_neg hc]
    exact V.step (fun ad H locs ls Rm cells slots Q hP hS hL kk => lv_icmp_eq C.1 C.2.1 hd ht (fun g => absurd g hc) (fun _ => kk)) (k2 hc)
theorem V.icmp_ne (C : Cx G p s mt args meth c own cc nL ret nm A) {x y : Int32} {off : Int} {t2 : Option (α × Mem)} (tgt : Nat) (ht : (pc : Int) + off = (tgt : Int)) (hd : decode cc pc = .ok (.if_icmp .ne off, 3)) (k1 : ¬ x = y → V G S ov l p e s mt args below meth c nL fr A ad0 N0 Nf Rz N R tgt L st m t) (k2 : x = y → V G S ov l p e s mt args below meth c nL fr A ad0 N0 Nf Rz N R (pc + 3) L st m t2) : V G S ov l p e s mt args below meth c nL fr A ad0 N0 Nf Rz N R pc L (.int y :: .int x :: st) m (if x = y then t2 else t) := by
  by_cases hc : x = y
  · rw [if_pos hc]
    exact V.step (fun ad H locs ls Rm cells slots Q hP hS hL kk => lv_icmp_ne C.1 C.2.1 hd ht (fun g => absurd hc g) (fun _ => kk)) (k2 hc)
  · rw [if_neg hc]
    exact V.step (fun ad H locs ls Rm cells slots Q hP hS hL kk => lv_icmp_ne C.1 C.2.1 hd ht (fun _ => kk) (fun g => absurd g hc)) (k1 hc)
theorem V.icmp_lt (C : Cx G p s mt args meth c own cc nL ret nm A) {x y : Int32} {off : Int} {t2 : Option (α × Mem)} (tgt : Nat) (ht : (pc : Int) + off = (tgt : Int)) (hd : decode cc pc = .ok (.if_icmp .lt off, 3)) (k1 : x < y → V G S ov l p e s mt args below meth c nL fr A ad0 N0 Nf Rz N R tgt L st m t) (k2 : ¬ x < y → V G S ov l p e s mt args below meth c nL fr A ad0 N0 Nf Rz N R (pc + 3) L st m t2) : V G S ov l p e s mt args below meth c nL fr A ad0 N0 Nf Rz N R pc L (.int y :: .int x :: st) m (if x < y then t else t2) := by
  by_cases hc : x < y
  · rw [if_pos hc]
    exact V.step (fun ad H locs ls Rm cells slots Q hP hS hL kk => lv_icmp_lt C.1 C.2.1 hd ht (fun _ => kk) (fun g => absurd hc g)) (k1 hc)
  · rw [if_neg hc]
    exact V.step (fun ad H locs ls Rm cells slots Q hP hS hL kk => lv_icmp_lt C.1 C.2.1 hd ht (fun g => absurd g hc) (fun _ => kk)) (k2 hc)
theorem V.icmp_ge (C : Cx G p s mt args meth c own cc nL ret nm A) {x y : Int32} {off : Int} {t2 : Option (α × Mem)} (tgt : Nat) (ht : (pc : Int) + off = (tgt : Int)) (hd : decode cc pc = .ok (.if_icmp .ge off, 3)) (k1 : y ≤ x → V G S ov l p e s mt args below meth c nL fr A ad0 N0 Nf Rz N R tgt L st m t) (k2 : ¬ y ≤ x → V G S ov l p e s mt args below meth c nL fr A ad0 N0 Nf Rz N R (pc + 3) L st m t2) : V G S ov l p e s mt args below meth c nL fr A ad0 N0 Nf Rz N R pc L (.int y :: .int x :: st) m (if y ≤ x then t else t2) := by
  by_cases hc : y ≤ x
  · rw [if_pos hc]
    exact V.step (fun ad H locs ls Rm cells slots Q hP hS hL kk => lv_icmp_ge C.1 C.2.1 hd ht (fun _ => kk) (fun g => absurd hc g)) (k1 hc)
  · rw [if_neg hc]
    exact V.step (fun ad H locs ls Rm cells slots Q hP hS hL kk => lv_icmp_ge C.1 C.2.1 hd ht (fun g => absurd g hc) (fun _ => kk)) (k2 hc)
theorem V.icmp_gt (C : Cx G p s mt args meth c own cc nL ret nm A) {x y : Int32} {off : Int} {t2 : Option (α × Mem)} (tgt : Nat) (ht : (pc : Int) + off = (tgt : Int)) (hd : decode cc pc = .ok (.if_icmp .gt off, 3)) (k1 : y < x → V G S ov l p e s mt args below meth c nL fr A ad0 N0 Nf Rz N R tgt L st m t) (k2 : ¬ y < x → V G S ov l p e s mt args below meth c nL fr A ad0 N0 Nf Rz N R (pc + 3) L st m t2) : V G S ov l p e s mt args below meth c nL fr A ad0 N0 Nf Rz N R pc L (.int y :: .int x :: st) m (if y < x then t else t2) := by
  by_cases hc : y < x
  · rw [if_pos hc]
    exact V.step (fun ad H locs ls Rm cells slots Q hP hS hL kk => lv_icmp_gt C.1 C.2.1 hd ht (fun _ => kk) (fun g => absurd hc g)) (k1 hc)
  · rw [if_neg hc]
    exact V.step (fun ad H locs ls Rm cells slots Q hP hS hL kk => lv_icmp_gt C.1 C.2.1 hd ht (fun g => absurd g hc) (fun _ => kk)) (k2 hc)
theorem V.icmp_le (C : Cx G p s mt args meth c own cc nL ret nm A) {x y : Int32} {off : Int} {t2 : Option (α × Mem)} (tgt : Nat) (ht : (pc : Int) + off = (tgt : Int)) (hd : decode cc pc = .ok (.if_icmp .le off, 3)) (k1 : x ≤ y → V G S ov l p e s mt args below meth c nL fr A ad0 N0 Nf Rz N R tgt L st m t) (k2 : ¬ x ≤ y → V G S ov l p e s mt args below meth c nL fr A ad0 N0 Nf Rz N R (pc + 3) L st m t2) : V G S ov l p e s mt args below meth c nL fr A ad0 N0 Nf Rz N R pc L (.int y :: .int x :: st) m (if x ≤ y then t else t2) := by
  by_cases hc : x ≤ y
  · rw [if_pos hc]
    exact V.step (fun ad H locs ls Rm cells slots Q hP hS hL kk => lv_icmp_le C.1 C.2.1 hd ht (fun _ => kk) (fun g => absurd hc g)) (k1 hc)
  · rw [if_neg hc]
    exact V.step (fun ad H locs ls Rm cells slots Q hP hS hL kk => lv_icmp_le C.1 C.2.1 hd ht (fun g => absurd g hc) (fun _ => kk)) (k2 hc)
theorem V.ifnonnullR (C : Cx G p s mt args meth c own cc nL ret nm A) {a : Nat} {off : Int} (tgt : Nat) (ht : (pc : Int) + off = (tgt : Int)) (hd : decode cc pc = .ok (.ifnonnull off, 3)) (k : V G S ov l p e s mt args below meth c nL fr A ad0 N0 Nf Rz N R tgt L (st) m t) : V G S ov l p e s mt args below meth c nL fr A ad0 N0 Nf Rz N R pc L (.ref a :: st) m t :=
  V.step (fun ad H locs ls Rm cells slots Q hP hS hL kk => lv_ifnonnull C.1 C.2.1 hd ht kk) k
theorem V.ifnonnullN (C : Cx G p s mt args meth c own cc nL ret nm A) {off : Int} (hd : decode cc pc = .ok (.ifnonnull off, 3)) (k : V G S ov l p e s mt args below meth c nL fr A ad0 N0 Nf Rz N R (pc + 3) L (st) m t) : V G S ov l p e s mt args below meth c nL fr A ad0 N0 Nf Rz N R pc L (.null :: st) m t :=
  V.step (fun ad H locs ls Rm cells slots Q hP hS hL kk => lv_ifnonnullN C.1 C.2.1 hd kk) k
end VR
end
section
def clOK (ci : Nat) (q : vw_C) : Prop := vwCl[ci]? = some q ∧ (∀ w ∈ u_ws q.1 q.2.1 q.2.2, w ∈ gtb) ∧ (∃ ty : Nat → FieldType, ∀ k, k < q.2.2 → parseFieldDescriptor (q.2.1 k).2.2.1 = some (ty k)) ∧ ∀ a, a < q.2.2 → ∀ b, b < q.2.2 → a ≠ b → (q.2.1 a).2.1 ≠ (q.2.1 b).2.1
theorem okX0 : clOK 0 (RX0, TX0, 2) := ⟨rfl, by decide +kernel, ⟨tyX0, tyX0_ok⟩, nmX0⟩
theorem okX1 : clOK 1 (RX1, TX1, 7) := ⟨rfl, by decide +kernel, ⟨tyX1, tyX1_ok⟩, nmX1⟩
theorem okX2 : clOK 2 (RX2, TX2, 3) := ⟨rfl, by decide +kernel, ⟨tyX2, tyX2_ok⟩, nmX2⟩
theorem okX3 : clOK 3 (RX3, TX3, 2) := ⟨rfl, by decide +kernel, ⟨tyX3, tyX3_ok⟩, nmX3⟩
theorem okX4 : clOK 4 (RX4, TX4, 2) := ⟨rfl, by decide +kernel, ⟨tyX4, tyX4_ok⟩, nmX4⟩
theorem okX5 : clOK 5 (RX5, TX5, 6) := ⟨rfl, by decide +kernel, ⟨tyX5, tyX5_ok⟩, nmX5⟩
theorem okX6 : clOK 6 (RX6, TX6, 6) := ⟨rfl, by decide +kernel, ⟨tyX6, tyX6_ok⟩, nmX6⟩
theorem okX7 : clOK 7 (RX7, TX7, 10) := ⟨rfl, by decide +kernel, ⟨tyX7, tyX7_ok⟩, nmX7⟩
theorem okX8 : clOK 8 (RX8, TX8, 9) := ⟨rfl, by decide +kernel, ⟨tyX8, tyX8_ok⟩, nmX8⟩
theorem okX9 : clOK 9 (RX9, TX9, 4) := ⟨rfl, by decide +kernel, ⟨tyX9, tyX9_ok⟩, nmX9⟩
theorem okX10 : clOK 10 (RX10, TX10, 4) := ⟨rfl, by decide +kernel, ⟨tyX10, tyX10_ok⟩, nmX10⟩
theorem okX11 : clOK 11 (RX11, TX11, 14) := ⟨rfl, by decide +kernel, ⟨tyX11, tyX11_ok⟩, nmX11⟩
theorem okX12 : clOK 12 (RX12, TX12, 33) := ⟨rfl, by decide +kernel, ⟨tyX12, tyX12_ok⟩, nmX12⟩
end
section
def Fl (own : String) (idx ci j : Nat) : Prop := ∃ q : vw_C, clOK ci q ∧ j < q.2.2 ∧ Cond.fieldLink own idx (q.2.1 j).1 (q.2.1 j).2.1 (q.2.1 j).2.2.1 ∈ gtb
def Fp (own : String) (idx ci j : Nat) (ty : FieldType) (fin : Bool) : Prop := ∃ q : vw_C, clOK ci q ∧ j < q.2.2 ∧ Cond.fieldLink own idx (q.2.1 j).1 (q.2.1 j).2.1 (q.2.1 j).2.2.1 ∈ gtb ∧ (q.2.1 j).2.2.2 = fin ∧ parseFieldDescriptor (q.2.1 j).2.2.1 = some ty ∧ (q.2.1 j).1 = q.1
theorem nF_ok {ci : Nat} {q : vw_C} (h : clOK ci q) : nF ci = q.2.2 := by
  unfold nF
  rw [h.1]
theorem fv_get {ad : Nat → Nat} {R : Rf} {m : Mem} {a ci j n : Nat} (h : j < n) : ((List.range n).map (fv ad R m a ci))[j]? = some (fv ad R m a ci j) := by
  simp [h]
section VR
variable {α : Type} {G : Gt} {S : Nat → Sh} {ov : α → Option Value} {l : Launch} {p : Program} {e : Env} {s : State} {mt : MethodId} {args : Array Value} {below : List Frame} {meth : Method} {c : Code} {own : String} {cc : ByteArray} {nL fr : Nat} {ret : Option FieldType} {nm : String} {A : Nat → Prop} {ad0 : Nat → Nat} {N0 Nf : Nat} {Rz : Rf} {N : Nat} {R : Rf} {pc : Nat} {L : List (Nat × Value)} {st : List Value} {m : Mem} {t : Option (α × Mem)}
theorem V.getf (C : Cx G p s mt args meth c own cc nL ret nm A) {a ci j idx : Nat} {v : Value} (F : Fl own idx ci j) (hs : S a = .inl ci) (hk : a < N) (hv : ∀ ad : Nat → Nat, fv ad R m a ci j = mv G ad v) (hd : decode cc pc = .ok (.getfield idx, 3)) (k : V G S ov l p e s mt args below meth c nL fr A ad0 N0 Nf Rz N R (pc + 3) L (v :: st) m t) : V G S ov l p e s mt args below meth c nL fr A ad0 N0 Nf Rz N R pc L (.ref a :: st) m t := by
  obtain ⟨⟨qc, qT, qN⟩, h1, h2, h3⟩ := F
  refine V.step (fun ad H locs ls Rm cells slots Q hP hS hL kk => ?_) k
  refine va_get C.1 C.2.1 C.2.2.2.2.1 h1.2.1 C.2.2.2.1 C.2.2.2.2.2.2.2.2.1 hP a (wl_get hk hs) h1.1 j h2 (C.2.2.2.2.1 _ h3) (fun x h => h) (v := mv G ad v) ?_ hd kk
  rw [← hv ad]
  have e := nF_ok h1
  show ((List.range (nF ci)).map (fv ad R m a ci))[j]? = _
  exact fv_get (by rw [e]; exact h2)
theorem V.geti (C : Cx G p s mt args meth c own cc nL ret nm A) {a ci j idx : Nat} (F : Fl own idx ci j) (hs : S a = .inl ci) (hk : a < N) (h0 : fK ci j = 0) (hd : decode cc pc = .ok (.getfield idx, 3)) (k : V G S ov l p e s mt args below meth c nL fr A ad0 N0 Nf Rz N R (pc + 3) L (.int (gi m a j) :: st) m t) : V G S ov l p e s mt args below meth c nL fr A ad0 N0 Nf Rz N R pc L (.ref a :: st) m t :=
  V.getf C F hs hk (fun ad => by simp only [fv, h0, if_true]; rfl) hd k
theorem V.getr (C : Cx G p s mt args meth c own cc nL ret nm A) {a b ci j idx : Nat} (F : Fl own idx ci j) (hs : S a = .inl ci) (hk : a < N) (h0 : fK ci j = 1) (hr : R a j = some b) (hd : decode cc pc = .ok (.getfield idx, 3)) (k : V G S ov l p e s mt args below meth c nL fr A ad0 N0 Nf Rz N R (pc + 3) L (.ref b :: st) m t) : V G S ov l p e s mt args below meth c nL fr A ad0 N0 Nf Rz N R pc L (.ref a :: st) m t :=
  V.getf C F hs hk (fun ad => by simp only [fv, h0, hr]; rfl) hd k
theorem V.getd (C : Cx G p s mt args meth c own cc nL ret nm A) {a b ci j idx : Nat} (F : Fl own idx ci j) (hs : S a = .inl ci) (hk : a < N) (h0 : fK ci j = 2) (hr : dcr (gi m a j) = some b) (hd : decode cc pc = .ok (.getfield idx, 3)) (k : V G S ov l p e s mt args below meth c nL fr A ad0 N0 Nf Rz N R (pc + 3) L (.ref b :: st) m t) : V G S ov l p e s mt args below meth c nL fr A ad0 N0 Nf Rz N R pc L (.ref a :: st) m t :=
  V.getf C F hs hk (fun ad => by simp only [fv, h0, hr]; rfl) hd k
theorem V.puti (C : Cx G p s mt args meth c own cc nL ret nm A) {a ci j idx : Nat} {x : Int32} (F : Fp own idx ci j .int false) (hs : S a = .inl ci) (hk : a < N) (h0 : fK ci j = 0)  (hd : decode cc pc = .ok (.putfield idx, 3)) (k : V G S ov l p e s mt args below meth c nL fr A ad0 N0 Nf Rz N R (pc + 3) L st (si m a j x) t) : V G S ov l p e s mt args below meth c nL fr A ad0 N0 Nf Rz N R pc L (.int x :: .ref a :: st) m t := by
  obtain ⟨⟨qc, qT, qN⟩, h1, h2, h3, h4, h5, h6⟩ := F
  obtain ⟨ty0, hty⟩ := h1.2.2.1
  refine V.gen (fun ad H locs ls Rm cells slots Q hP hD hS hL _ _ kk => ?_) k
  refine va_put C.1 C.2.1 C.2.2.2.2.1 h1.2.1 ty0 hty h1.2.2.2 C.2.2.2.1 C.2.2.2.2.2.2.2.2.1 hP hD hS a (wl_get hk hs) h1.1 j h2 (C.2.2.2.2.1 _ h3) (fun x h => h) h4 h5 rfl rfl (by rw [List.length_map, List.length_range, nF_ok h1]; exact h2) hd (fun H1 locs1 g1 g2 g3 => ?_)
  rw [show mv G ad (Value.int x) = Value.int x from rfl, wl_si_obj hk hs h0] at g1 g2
  exact kk H1 locs1 ls g1 g2 g3 hL
theorem V.putz (C : Cx G p s mt args meth c own cc nL ret nm A) {a ci j idx : Nat} {x : Int32} (F : Fp own idx ci j .boolean false) (hs : S a = .inl ci) (hk : a < N) (h0 : fK ci j = 0) (hz : x = 0 ∨ x = 1) (hd : decode cc pc = .ok (.putfield idx, 3)) (k : V G S ov l p e s mt args below meth c nL fr A ad0 N0 Nf Rz N R (pc + 3) L st (si m a j x) t) : V G S ov l p e s mt args below meth c nL fr A ad0 N0 Nf Rz N R pc L (.int x :: .ref a :: st) m t := by
  obtain ⟨⟨qc, qT, qN⟩, h1, h2, h3, h4, h5, h6⟩ := F
  obtain ⟨ty0, hty⟩ := h1.2.2.1
  refine V.gen (fun ad H locs ls Rm cells slots Q hP hD hS hL _ _ kk => ?_) k
  refine va_put C.1 C.2.1 C.2.2.2.2.1 h1.2.1 ty0 hty h1.2.2.2 C.2.2.2.1 C.2.2.2.2.2.2.2.2.1 hP hD hS a (wl_get hk hs) h1.1 j h2 (C.2.2.2.2.1 _ h3) (fun x h => h) h4 h5 (by rcases hz with rfl | rfl <;> rfl) (by rcases hz with rfl | rfl <;> rfl) (by rw [List.length_map, List.length_range, nF_ok h1]; exact h2) hd (fun H1 locs1 g1 g2 g3 => ?_)
  rw [show mv G ad (Value.int x) = Value.int x from rfl, wl_si_obj hk hs h0] at g1 g2
  exact kk H1 locs1 ls g1 g2 g3 hL
theorem V.putr (C : Cx G p s mt args meth c own cc nL ret nm A) {a b ci j idx : Nat} {ty : FieldType} (F : Fp own idx ci j ty true) (hnm : nm = "<init>") (ho : own = (vwCl.getD ci ("", fun _ => ("", "", "", false), 0)).1) (hs : S a = .inl ci) (hk : a < N) (h0 : fK ci j = 1) (hty : refKind ty = true) (hd : decode cc pc = .ok (.putfield idx, 3)) (k : V G S ov l p e s mt args below meth c nL fr A ad0 N0 Nf Rz N (up2 R a j (some b)) (pc + 3) L st m t) : V G S ov l p e s mt args below meth c nL fr A ad0 N0 Nf Rz N R pc L (.ref b :: .ref a :: st) m t := by
  obtain ⟨⟨qc, qT, qN⟩, h1, h2, h3, h4, h5, h6⟩ := F
  obtain ⟨ty0, hty0⟩ := h1.2.2.1
  have ho2 : own = qc := by rw [ho, List.getD_eq_getElem?_getD, h1.1]; rfl
  refine V.gen (fun ad H locs ls Rm cells slots Q hP hD hS hL _ _ kk => ?_) k
  refine va_putF C.1 C.2.1 C.2.2.2.2.1 h1.2.1 ty0 hty0 h1.2.2.2 C.2.2.2.1 C.2.2.2.2.2.2.2.2.1 hP hD hS a (wl_get hk hs) h1.1 j h2 (C.2.2.2.2.1 _ h3) (fun x h => h) h4 (by rw [C.2.2.2.2.2.2.2.1]; exact hnm) (by rw [h6, ho2]) h5 (by cases ty <;> first | rfl | (exfalso; revert hty; decide)) (by cases ty <;> first | rfl | (exfalso; revert hty; decide)) (by rw [List.length_map, List.length_range, nF_ok h1]; exact h2) hd (fun H1 locs1 g1 g2 g3 => ?_)
  rw [show mv G ad (.ref b) = .ref (ad b) from rfl, wl_sr_obj hk hs h0] at g1 g2
  exact kk H1 locs1 ls g1 g2 g3 hL
theorem V.putd (C : Cx G p s mt args meth c own cc nL ret nm A) {a b ci j idx : Nat} {ty : FieldType} (F : Fp own idx ci j ty false) (hs : S a = .inl ci) (hk : a < N) (h0 : fK ci j = 2) (hty : refKind ty = true) (hb : dcr (nI b) = some b) (hd : decode cc pc = .ok (.putfield idx, 3)) (k : V G S ov l p e s mt args below meth c nL fr A ad0 N0 Nf Rz N R (pc + 3) L st (si m a j (nI b)) t) : V G S ov l p e s mt args below meth c nL fr A ad0 N0 Nf Rz N R pc L (.ref b :: .ref a :: st) m t := by
  obtain ⟨⟨qc, qT, qN⟩, h1, h2, h3, h4, h5, h6⟩ := F
  obtain ⟨ty0, hty0⟩ := h1.2.2.1
  refine V.gen (fun ad H locs ls Rm cells slots Q hP hD hS hL _ _ kk => ?_) k
  refine va_put C.1 C.2.1 C.2.2.2.2.1 h1.2.1 ty0 hty0 h1.2.2.2 C.2.2.2.1 C.2.2.2.2.2.2.2.2.1 hP hD hS a (wl_get hk hs) h1.1 j h2 (C.2.2.2.2.1 _ h3) (fun x h => h) h4 h5 (by cases ty <;> first | rfl | (exfalso; revert hty; decide)) (by cases ty <;> first | rfl | (exfalso; revert hty; decide)) (by rw [List.length_map, List.length_range, nF_ok h1]; exact h2) hd (fun H1 locs1 g1 g2 g3 => ?_)
  rw [show mv G ad (.ref b) = .ref (ad b) from rfl, wl_sd_obj hk hs h0 hb] at g1 g2
  exact kk H1 locs1 ls g1 g2 g3 hL
theorem V.iald (C : Cx G p s mt args meth c own cc nL ret nm A) {a n : Nat} {i : Int32} (hs : S a = .inr (0, n)) (hk : a < N) (hd : decode cc pc = .ok (.iaload, 1)) (k : vp_in i n → V G S ov l p e s mt args below meth c nL fr A ad0 N0 Nf Rz N R (pc + 1) L (.int (gi m a (ix i)) :: st) m t) : V G S ov l p e s mt args below meth c nL fr A ad0 N0 Nf Rz N R pc L (.int i :: .ref a :: st) m (chk (inb i n) t) :=
  V.ck (fun hb1 => have hi := inb_in hb1; V.step (fun ad H locs ls Rm cells slots Q hP hS hL kk => va_iald C.1 C.2.1 C.2.2.2.2.2.2.2.2.1 hP a 0 (wl_get hk hs) rfl hi hd kk) (k hi))
theorem V.bald (C : Cx G p s mt args meth c own cc nL ret nm A) {a n : Nat} {i : Int32} (hs : S a = .inr (1, n)) (hk : a < N) (hd : decode cc pc = .ok (.baload, 1)) (k : vp_in i n → V G S ov l p e s mt args below meth c nL fr A ad0 N0 Nf Rz N R (pc + 1) L (.int (gi m a (ix i)) :: st) m t) : V G S ov l p e s mt args below meth c nL fr A ad0 N0 Nf Rz N R pc L (.int i :: .ref a :: st) m (chk (inb i n) t) :=
  V.ck (fun hb1 => have hi := inb_in hb1; V.step (fun ad H locs ls Rm cells slots Q hP hS hL kk => va_bald C.1 C.2.1 C.2.2.2.2.2.2.2.2.1 hP a 1 (wl_get hk hs) rfl hi hd kk) (k hi))
theorem V.zald (C : Cx G p s mt args meth c own cc nL ret nm A) {a n : Nat} {i : Int32} (hs : S a = .inr (2, n)) (hk : a < N) (hd : decode cc pc = .ok (.baload, 1)) (k : vp_in i n → V G S ov l p e s mt args below meth c nL fr A ad0 N0 Nf Rz N R (pc + 1) L (.int (gi m a (ix i)) :: st) m t) : V G S ov l p e s mt args below meth c nL fr A ad0 N0 Nf Rz N R pc L (.int i :: .ref a :: st) m (chk (inb i n) t) :=
  V.ck (fun hb1 => have hi := inb_in hb1; V.step (fun ad H locs ls Rm cells slots Q hP hS hL kk => va_zald C.1 C.2.1 C.2.2.2.2.2.2.2.2.1 hP a 2 (wl_get hk hs) rfl hi hd kk) (k hi))
theorem V.lald (C : Cx G p s mt args meth c own cc nL ret nm A) {a n : Nat} {i : Int32} (hs : S a = .inr (3, n)) (hk : a < N) (hd : decode cc pc = .ok (.laload, 1)) (k : vp_in i n → V G S ov l p e s mt args below meth c nL fr A ad0 N0 Nf Rz N R (pc + 1) L (.long (gl m a (ix i)) :: st) m t) : V G S ov l p e s mt args below meth c nL fr A ad0 N0 Nf Rz N R pc L (.int i :: .ref a :: st) m (chk (inb i n) t) :=
  V.ck (fun hb1 => have hi := inb_in hb1; V.step (fun ad H locs ls Rm cells slots Q hP hS hL kk => va_lald C.1 C.2.1 C.2.2.2.2.2.2.2.2.1 hP a 3 (wl_get hk hs) rfl hi hd kk) (k hi))
theorem V.alen (C : Cx G p s mt args meth c own cc nL ret nm A) {a ty n : Nat} {v : Int32} (hs : S a = .inr (ty, n)) (hty : ty < 7) (hk : a < N) (hv : Int32.ofNat n = v) (hd : decode cc pc = .ok (.arraylength, 1)) (k : V G S ov l p e s mt args below meth c nL fr A ad0 N0 Nf Rz N R (pc + 1) L (.int v :: st) m t) : V G S ov l p e s mt args below meth c nL fr A ad0 N0 Nf Rz N R pc L (.ref a :: st) m t := by
  obtain ⟨T, hT⟩ : ∃ T, (tyl G)[ty]? = some (G.2.1 ty, T) := by
    match ty, hty with
    | 0, _ => exact ⟨_, rfl⟩
    | 1, _ => exact ⟨_, rfl⟩
    | 2, _ => exact ⟨_, rfl⟩
    | 3, _ => exact ⟨_, rfl⟩
    | 4, _ => exact ⟨_, rfl⟩
    | 5, _ => exact ⟨_, rfl⟩
    | 6, _ => exact ⟨_, rfl⟩
    | n + 7, h => omega
  exact V.step (fun ad H locs ls Rm cells slots Q hP hS hL kk => va_alen C.1 C.2.1 C.2.2.2.2.2.2.2.2.1 hP a ty (wl_get hk hs) hT hv hd kk) k
theorem V.aald (C : Cx G p s mt args meth c own cc nL ret nm A) {a ty n : Nat} {f : Nat → Nat} {i : Int32} (hs : S a = .inr (ty, n)) (hty : ty = 4 ∨ ty = 5) (hk : a < N) (hr : ∀ j, j < n → R a j = some (f j)) (hd : decode cc pc = .ok (.aaload, 1)) (k : vp_in i n → V G S ov l p e s mt args below meth c nL fr A ad0 N0 Nf Rz N R (pc + 1) L (.ref (f (ix i)) :: st) m t) : V G S ov l p e s mt args below meth c nL fr A ad0 N0 Nf Rz N R pc L (.int i :: .ref a :: st) m (chk (inb i n) t) := by
  refine V.ck (fun hb1 => have hi := inb_in hb1; V.step (fun ad H locs ls Rm cells slots Q hP hS hL kk => ?_) (k hi))
  have hlt : i.toNatClampNeg < n := Nat.not_le.mp fun q => hi (Or.inr q)
  have e1 : va_rf ((fun j => (R a j).map ad) i.toNatClampNeg) = .ref (ad (f (ix i))) := by
    show va_rf ((R a i.toNatClampNeg).map ad) = _
    rw [hr _ hlt]
    rfl
  rcases hty with rfl | rfl
  · refine va_aldq C.1 C.2.1 C.2.2.2.2.2.2.2.2.1 hP a 4 (f := fun j => (R a j).map ad) (wl_get hk hs) rfl hi hd ?_
    rw [e1]
    exact kk
  · refine va_aldq C.1 C.2.1 C.2.2.2.2.2.2.2.2.1 hP a 5 (f := fun j => (R a j).map ad) (wl_get hk hs) rfl hi hd ?_
    rw [e1]
    exact kk
theorem V.aaldR (C : Cx G p s mt args meth c own cc nL ret nm A) {a b n : Nat} {i : Int32} (hs : S a = .inr (6, n)) (hk : a < N) (hr : dcr (gi m a (ix i)) = some b) (hd : decode cc pc = .ok (.aaload, 1)) (k : vp_in i n → V G S ov l p e s mt args below meth c nL fr A ad0 N0 Nf Rz N R (pc + 1) L (.ref b :: st) m t) : V G S ov l p e s mt args below meth c nL fr A ad0 N0 Nf Rz N R pc L (.int i :: .ref a :: st) m (chk (inb i n) t) := by
  refine V.ck (fun hb1 => have hi := inb_in hb1; V.step (fun ad H locs ls Rm cells slots Q hP hS hL kk => ?_) (k hi))
  refine va_aldq C.1 C.2.1 C.2.2.2.2.2.2.2.2.1 hP a 6 (f := fun j => (dcr (gi m a j)).map ad) (wl_get hk hs) rfl hi hd ?_
  show W _ _ _ _ _ _ _ _ _ _ _ _ _ _ _ (F0 _ _ _ (va_rf ((dcr (gi m a (ix i))).map ad) :: _))
  rw [hr]
  exact kk
theorem V.aaldN (C : Cx G p s mt args meth c own cc nL ret nm A) {a n : Nat} {i : Int32} (hs : S a = .inr (6, n)) (hk : a < N) (hr : dcr (gi m a (ix i)) = none) (hd : decode cc pc = .ok (.aaload, 1)) (k : vp_in i n → V G S ov l p e s mt args below meth c nL fr A ad0 N0 Nf Rz N R (pc + 1) L (.null :: st) m t) : V G S ov l p e s mt args below meth c nL fr A ad0 N0 Nf Rz N R pc L (.int i :: .ref a :: st) m (chk (inb i n) t) := by
  refine V.ck (fun hb1 => have hi := inb_in hb1; V.step (fun ad H locs ls Rm cells slots Q hP hS hL kk => ?_) (k hi))
  refine va_aldq C.1 C.2.1 C.2.2.2.2.2.2.2.2.1 hP a 6 (f := fun j => (dcr (gi m a j)).map ad) (wl_get hk hs) rfl hi hd ?_
  show W _ _ _ _ _ _ _ _ _ _ _ _ _ _ _ (F0 _ _ _ (va_rf ((dcr (gi m a (ix i))).map ad) :: _))
  rw [hr]
  exact kk
theorem V.iast (C : Cx G p s mt args meth c own cc nL ret nm A) {a n : Nat} {i x : Int32} (hs : S a = .inr (0, n)) (hk : a < N) (hd : decode cc pc = .ok (.iastore, 1)) (k : vp_in i n → V G S ov l p e s mt args below meth c nL fr A ad0 N0 Nf Rz N R (pc + 1) L st (si m a (ix i) x) t) : V G S ov l p e s mt args below meth c nL fr A ad0 N0 Nf Rz N R pc L (.int x :: .int i :: .ref a :: st) m (chk (inb i n) t) := by
  refine V.ck (fun hb1 => have hi := inb_in hb1; V.gen (fun ad H locs ls Rm cells slots Q hP hD hS hL _ _ kk => ?_) (k hi))
  refine va_iast C.1 C.2.1 C.2.2.2.2.2.2.2.2.1 hP hD hS a 0 (f := gi m a) (wl_get hk hs) rfl hi hd (fun H1 locs1 g1 g2 g3 => ?_)
  rw [wl_si_arr hk hs (by decide)] at g1 g2
  exact kk H1 locs1 ls g1 g2 g3 hL
theorem V.bast (C : Cx G p s mt args meth c own cc nL ret nm A) {a n : Nat} {i x : Int32} (hs : S a = .inr (1, n)) (hk : a < N) (hd : decode cc pc = .ok (.bastore, 1)) (k : vp_in i n → V G S ov l p e s mt args below meth c nL fr A ad0 N0 Nf Rz N R (pc + 1) L st (si m a (ix i) (vp_nar .byte x)) t) : V G S ov l p e s mt args below meth c nL fr A ad0 N0 Nf Rz N R pc L (.int x :: .int i :: .ref a :: st) m (chk (inb i n) t) := by
  refine V.ck (fun hb1 => have hi := inb_in hb1; V.gen (fun ad H locs ls Rm cells slots Q hP hD hS hL _ _ kk => ?_) (k hi))
  refine va_bast C.1 C.2.1 C.2.2.2.2.2.2.2.2.1 hP hD hS a 1 (f := gi m a) (wl_get hk hs) rfl hi hd (fun H1 locs1 g1 g2 g3 => ?_)
  rw [wl_si_arr hk hs (by decide)] at g1 g2
  exact kk H1 locs1 ls g1 g2 g3 hL
theorem V.zast (C : Cx G p s mt args meth c own cc nL ret nm A) {a n : Nat} {i x : Int32} (hs : S a = .inr (2, n)) (hk : a < N) (hd : decode cc pc = .ok (.bastore, 1)) (k : vp_in i n → V G S ov l p e s mt args below meth c nL fr A ad0 N0 Nf Rz N R (pc + 1) L st (si m a (ix i) (vp_nar .boolean x)) t) : V G S ov l p e s mt args below meth c nL fr A ad0 N0 Nf Rz N R pc L (.int x :: .int i :: .ref a :: st) m (chk (inb i n) t) := by
  refine V.ck (fun hb1 => have hi := inb_in hb1; V.gen (fun ad H locs ls Rm cells slots Q hP hD hS hL _ _ kk => ?_) (k hi))
  refine va_zast C.1 C.2.1 C.2.2.2.2.2.2.2.2.1 hP hD hS a 2 (f := gi m a) (wl_get hk hs) rfl hi hd (fun H1 locs1 g1 g2 g3 => ?_)
  rw [wl_si_arr hk hs (by decide)] at g1 g2
  exact kk H1 locs1 ls g1 g2 g3 hL
theorem V.last (C : Cx G p s mt args meth c own cc nL ret nm A) {a n : Nat} {i : Int32} {x : Int64} (hs : S a = .inr (3, n)) (hk : a < N) (hd : decode cc pc = .ok (.lastore, 1)) (k : vp_in i n → V G S ov l p e s mt args below meth c nL fr A ad0 N0 Nf Rz N R (pc + 1) L st (sl m a (ix i) x) t) : V G S ov l p e s mt args below meth c nL fr A ad0 N0 Nf Rz N R pc L (.long x :: .int i :: .ref a :: st) m (chk (inb i n) t) := by
  refine V.ck (fun hb1 => have hi := inb_in hb1; V.gen (fun ad H locs ls Rm cells slots Q hP hD hS hL _ _ kk => ?_) (k hi))
  refine va_last C.1 C.2.1 C.2.2.2.2.2.2.2.2.1 hP hD hS a 3 (f := gl m a) (wl_get hk hs) rfl hi hd (fun H1 locs1 g1 g2 g3 => ?_)
  rw [wl_sl_arr hk hs] at g1 g2
  exact kk H1 locs1 ls g1 g2 g3 hL
def Cpk (sp dp n : Int32) (n0 n1 : Nat) : Prop := ¬ sp < 0 ∧ ¬ dp < 0 ∧ ¬ n < 0 ∧ ix sp + ix n ≤ n0 ∧ ix dp + ix n ≤ n1
theorem V.copy (C : Cx G p s mt args meth c own cc nL ret nm A) {a b n0 n1 idx : Nat} {sp dp n : Int32} (hs0 : S a = .inr (0, n0)) (hk0 : a < N) (hs1 : S b = .inr (0, n1)) (hk1 : b < N) (hfr : 2 ≤ fr) (hst : (st.map Value.category).sum ≤ 8) (hl : Cond.methodLink own idx arraycopyName ∈ gtb) (hnat : Cond.native arraycopyName ∈ gtb) (hstat : Cond.static arraycopyName ∈ gtb) (hini : Cond.initialized "java/lang/System" ∈ gtb) (hd : decode cc pc = .ok (.invokestatic idx, 3)) (k : V G S ov l p e s mt args below meth c nL fr A ad0 N0 Nf Rz N R (pc + 3) L st (cpm m a b (ix sp) (ix dp) (ix n)) t) : V G S ov l p e s mt args below meth c nL fr A ad0 N0 Nf Rz N R pc L (.int n :: .int dp :: .ref b :: .int sp :: .ref a :: st) m (chk (decide (¬ sp < 0 ∧ ¬ dp < 0 ∧ ¬ n < 0 ∧ ix sp + ix n ≤ n0 ∧ ix dp + ix n ≤ n1)) t) := by
  refine V.ck (fun hb1 => have hi := of_decide_eq_true hb1; V.gen (fun ad H locs ls Rm cells slots Q hP hD hS hL hf1 hf2 kk => ?_) k)
  obtain ⟨i1, i2, i3, i4, i5⟩ := hi
  refine va_copyi C.1 C.2.1 (by rw [C.2.2.1]; exact hL.1.symm) C.2.2.2.1 (C.2.2.2.2.1 _ hl) (C.2.2.2.2.1 _ hnat) (C.2.2.2.2.1 _ hstat) (C.2.2.2.2.1 _ hini) C.2.2.2.2.2.2.2.2.1 hP hD hS a b 0 0 (f := gi m a) (g := gi m b) (ty := .int) (wl_get hk0 hs0) (wl_get hk1 hs1) rfl rfl rfl i1 i2 i3 i4 i5 (fun _ _ => rfl) (by omega) ?_ hd (fun H1 locs1 g1 g2 g3 => ?_)
  · rw [hf2]
    have e1 : (List.map (fun v => Value.category v) (st.map (mv G ad))).sum = (st.map Value.category).sum := by
      rw [List.map_map]
      congr 1
      apply List.map_congr_left
      intro v _
      exact mv_cat G ad v
    rw [e1]
    have e2 : nativeFrameWords "java/lang/System" "arraycopy" 5 + 11 ≤ 60 := by decide +kernel
    omega
  · rw [wl_cpm hk1 hs1 (by decide)] at g1 g2
    exact kk H1 locs1 ls g1 g2 g3 hL
theorem V.ldcs (C : Cx G p s mt args meth c own cc nL ret nm A) {idx k : Nat} (hk : k < 22) (hr : (own, idx, k) ∈ strR) (hd : decode cc pc = .ok (.ldc idx, 2)) (k1 : V G S ov l p e s mt args below meth c nL fr A ad0 N0 Nf Rz N R (pc + 2) L (.retAddr k :: st) m t) : V G S ov l p e s mt args below meth c nL fr A ad0 N0 Nf Rz N R pc L st m t := by
  refine V.step (fun ad H locs ls Rm cells slots Q hP hS hL kk => ?_) k1
  refine va_ldcS C.1 C.2.1 C.2.2.2.1 (C.2.2.2.2.2.2.2.2.2.2.2.1 _ hr) hd ?_
  rw [List.map_cons, show mv G ad (.retAddr k) = .ref (G.2.2.1 k) from if_pos (by omega)] at kk
  exact kk
theorem V.sval (C : Cx G p s mt args meth c own cc nL ret nm A) {idx k : Nat} (hk : k < 22) (hl : Cond.fieldLink own idx "java/lang/String" "value" "[B" ∈ gtb) (hd : decode cc pc = .ok (.getfield idx, 3)) (k1 : V G S ov l p e s mt args below meth c nL fr A ad0 N0 Nf Rz N R (pc + 3) L (.retAddr (k + 1000) :: st) m t) : V G S ov l p e s mt args below meth c nL fr A ad0 N0 Nf Rz N R pc L (.retAddr k :: st) m t := by
  refine V.step (fun ad H locs ls Rm cells slots Q hP hS hL kk => ?_) k1
  rw [List.map_cons, show mv G ad (.retAddr (k + 1000)) = .ref (G.2.2.2 k) by simp [mv]; intro h; omega] at kk
  rw [List.map_cons, show mv G ad (.retAddr k) = .ref (G.2.2.1 k) from if_pos (by omega)]
  exact vk_getf C.1 C.2.1 (C.2.2.2.2.2.2.2.2.2.2.1.1 k hk).2.2.1 hS C.2.2.2.1 (C.2.2.2.2.1 _ hl) (fun x h => h) hd kk
theorem V.scod (C : Cx G p s mt args meth c own cc nL ret nm A) {idx k : Nat} (hk : k < 22) (hl : Cond.fieldLink own idx "java/lang/String" "coder" "B" ∈ gtb) (hd : decode cc pc = .ok (.getfield idx, 3)) (k1 : V G S ov l p e s mt args below meth c nL fr A ad0 N0 Nf Rz N R (pc + 3) L (.int 0 :: st) m t) : V G S ov l p e s mt args below meth c nL fr A ad0 N0 Nf Rz N R pc L (.retAddr k :: st) m t := by
  refine V.step (fun ad H locs ls Rm cells slots Q hP hS hL kk => ?_) k1
  rw [List.map_cons, show mv G ad (.retAddr k) = .ref (G.2.2.1 k) from if_pos (by omega)]
  exact vk_getf C.1 C.2.1 (C.2.2.2.2.2.2.2.2.2.2.1.1 k hk).2.1 hS C.2.2.2.1 (C.2.2.2.2.1 _ hl) (fun x h => h) hd kk
theorem V.scmp (C : Cx G p s mt args meth c own cc nL ret nm A) {idx : Nat} (hl : Cond.fieldLink own idx "java/lang/String" "COMPACT_STRINGS" "Z" ∈ gtb) (hd : decode cc pc = .ok (.getstatic idx, 3)) (k1 : V G S ov l p e s mt args below meth c nL fr A ad0 N0 Nf Rz N R (pc + 3) L (.int 1 :: st) m t) : V G S ov l p e s mt args below meth c nL fr A ad0 N0 Nf Rz N R pc L st m t :=
  V.step (fun ad H locs ls Rm cells slots Q hP hS hL kk => va_gets C.1 C.2.1 C.2.2.2.2.2.2.2.2.2.2.2.2.1 hS C.2.2.2.1 (C.2.2.2.2.1 _ hl) (fun x h => h) hd kk) k1
theorem V.slen (C : Cx G p s mt args meth c own cc nL ret nm A) {k : Nat} (hk : k < 22) (hd : decode cc pc = .ok (.arraylength, 1)) (k1 : V G S ov l p e s mt args below meth c nL fr A ad0 N0 Nf Rz N R (pc + 1) L (.int (nI (strL.getD k 0)) :: st) m t) : V G S ov l p e s mt args below meth c nL fr A ad0 N0 Nf Rz N R pc L (.retAddr (k + 1000) :: st) m t := by
  refine V.step (fun ad H locs ls Rm cells slots Q hP hS hL kk => ?_) k1
  rw [List.map_cons, show mv G ad (.retAddr (k + 1000)) = .ref (G.2.2.2 k) by simp [mv]; intro h; omega]
  exact va_tlen C.1 C.2.1 (C.2.2.2.2.2.2.2.2.2.2.1.1 k hk).2.2.2 hS rfl hd kk
theorem V.sbald (C : Cx G p s mt args meth c own cc nL ret nm A) {k : Nat} {i : Int32} (hk : k < 22) (hd : decode cc pc = .ok (.baload, 1)) (k1 : vp_in i (strL.getD k 0) → V G S ov l p e s mt args below meth c nL fr A ad0 N0 Nf Rz N R (pc + 1) L (.int ((strB.getD k []).getD (ix i) 0) :: st) m t) : V G S ov l p e s mt args below meth c nL fr A ad0 N0 Nf Rz N R pc L (.int i :: .retAddr (k + 1000) :: st) m (chk (inb i (strL.getD k 0)) t) := by
  refine V.ck (fun hb1 => have hi := inb_in hb1; V.step (fun ad H locs ls Rm cells slots Q hP hS hL kk => ?_) (k1 hi))
  rw [List.map_cons, List.map_cons, show mv G ad (.retAddr (k + 1000)) = .ref (G.2.2.2 k) by simp [mv]; intro h; omega]
  exact va_tb C.1 C.2.1 (C.2.2.2.2.2.2.2.2.2.2.1.1 k hk).2.2.2 hS hi rfl hd kk
theorem qx_end {ov : α → Option Value} {r : α} {H : Heap} {locs : List Loc} {ad : Nat → Nat} (had : AdOK N0 Nf ad0 ad) (hP : va_P G.1 vwCl (wl G S ad Nf Rz m) H) (hD : va_D A (wl G S ad Nf Rz m)) (hS : va_S A s.heap H locs) (u : State) (hu : u.heap = H) : Qx ov G S ad0 N0 Nf Rz A r m args s (.returned (ov r)) u :=
  ⟨⟨rfl, ad, had, by rw [hu]; exact hP, hD⟩, hS.F hu⟩
theorem V.iret {A : Nat → Prop} {G : Gt} {x : Int32} (C : Cx G p s mt args meth c own cc nL (some .int) nm A) (hd : decode cc pc = .ok (.ireturn, 1)) : V G S oI l p e s mt args below meth c nL fr A ad0 N0 Nf Rz Nf Rz pc L [.int x] m (some (x, m)) := by
  intro r mF ht
  cases ht
  exact ⟨Nat.le_refl _, fun ad H locs ls h0 h1 h2 h3 h4 h5 => W.iret C.1 C.2.1 C.2.2.2.2.2.2.1 (fun u hu _ => qx_end h1 h2 h3 h4 u hu) h4.2.2 hd C.2.2.2.2.2.1⟩
theorem V.zret {A : Nat → Prop} {G : Gt} {x : Int32} {ty : FieldType} (hn : narrow ty (.int x) = .int x) (C : Cx G p s mt args meth c own cc nL (some ty) nm A) (hd : decode cc pc = .ok (.ireturn, 1)) : V G S oI l p e s mt args below meth c nL fr A ad0 N0 Nf Rz Nf Rz pc L [.int x] m (some (x, m)) := by
  intro r mF ht
  cases ht
  exact ⟨Nat.le_refl _, fun ad H locs ls h0 h1 h2 h3 h4 h5 => W.zret C.1 C.2.1 C.2.2.2.2.2.2.1 hn (fun u hu _ => qx_end h1 h2 h3 h4 u hu) h4.2.2 hd C.2.2.2.2.2.1⟩
theorem V.bret {A : Nat → Prop} {G : Gt} {x : Int32} (C : Cx G p s mt args meth c own cc nL (some .boolean) nm A) (hd : decode cc pc = .ok (.ireturn, 1)) : V G S oI l p e s mt args below meth c nL fr A ad0 N0 Nf Rz Nf Rz pc L [.int x] m (chk (decide (x = 0 ∨ x = 1)) (some (x, m))) :=
  V.ck (fun hx => V.zret (by rcases of_decide_eq_true hx with rfl | rfl <;> rfl) C hd)
theorem V.lret {A : Nat → Prop} {G : Gt} {x : Int64} (C : Cx G p s mt args meth c own cc nL (some .long) nm A) (hd : decode cc pc = .ok (.lreturn, 1)) : V G S oL l p e s mt args below meth c nL fr A ad0 N0 Nf Rz Nf Rz pc L [.long x] m (some (x, m)) := by
  intro r mF ht
  cases ht
  exact ⟨Nat.le_refl _, fun ad H locs ls h0 h1 h2 h3 h4 h5 => W.lret C.1 C.2.1 C.2.2.2.2.2.2.1 (fun u hu _ => qx_end h1 h2 h3 h4 u hu) h4.2.2 hd C.2.2.2.2.2.1⟩
theorem V.vret {A : Nat → Prop} {G : Gt} (C : Cx G p s mt args meth c own cc nL none nm A) (hd : decode cc pc = .ok (.return_, 1)) : V G S oV l p e s mt args below meth c nL fr A ad0 N0 Nf Rz Nf Rz pc L [] m (some ((), m)) := by
  intro r mF ht
  cases ht
  exact ⟨Nat.le_refl _, fun ad H locs ls h0 h1 h2 h3 h4 h5 => W.vret C.1 C.2.1 C.2.2.2.2.2.2.1 (fun u hu _ => qx_end h1 h2 h3 h4 u hu) h4.2.2 hd C.2.2.2.2.2.1⟩
end VR
end
section
def Ct {α : Type} (l : Launch) (y : MethodName) (cc : ByteArray) (nL : Nat) (ret : Option FieldType) (fr : Nat) (S : Nat → Sh) (ov : α → Option Value) (N Nf : Nat) (R Rz : Rf) (av : List Value) (m : Mem) (t : Option (α × Mem)) : Prop :=
  ∀ (G : Gt) (ad0 : Nat → Nat) (sz : Nat) (r : α) (mF : Mem), t = some (r, mF) → Met l y (.code y cc nL ret :: gtb) (rmk fr (Nf - N) (szs S Nf - szs S N)) (va_Pc (av.map (mv G ad0)) (WB G S ad0 N R m sz)) (Qx ov G S ad0 N Nf Rz (AS ad0 N sz) r mF) (Nf - N) (szs S Nf - szs S N) (AS ad0 N sz)
theorem sl_len (G : Gt) (ad : Nat → Nat) (vs : List Value) : (lg_sl (vs.map (mv G ad))).length = (lg_sl vs).length := by
  induction vs with
  | nil => rfl
  | cons v vs ih =>
    simp only [lg_sl, List.map_cons, List.flatMap_cons, List.length_append, mv_cat] at ih ⊢
    rw [ih]
    split <;> rfl
theorem Ct.of {α : Type} {l : Launch} {y : MethodName} {cc : ByteArray} {nL : Nat} {ret : Option FieldType} {fr : Nat} {S : Nat → Sh} {ov : α → Option Value} {N Nf : Nat} {R Rz : Rf} {av : List Value} {m : Mem} {t : Option (α × Mem)} {own nm : String} (hy : plainName y.cls = true) (hcl : y.cls = own) (hnm : y.name = nm) (hlen : (lg_sl av).length ≤ nL)
    (h : ∀ (G : Gt) (p : Program) (e : Env) (s : State) (mt : MethodId) (args : Array Value) (below : List Frame) (meth : Method) (c : Code) (A : Nat → Prop) (ad0 : Nat → Nat), Cx G p s mt args meth c own cc nL ret nm A → V G S ov l p e s mt args below meth c nL fr A ad0 N Nf Rz N R 0 (lv_args 0 av) [] m t) : Ct l y cc nL ret fr S ov N Nf R Rz av m t := by
  intro G ad0 sz r mF ht
  refine Met.ofW (cc := cc) (maxL := nL) (ret := ret) hy rfl ?_
  intro p e s mt args below meth c s₁ B hml hv
  obtain ⟨rfl, hsz, hP, hK, hD0, hST⟩ := hv
  have hts := atoms_spec (ws := .code y cc nL ret :: gtb) B.pre
  have hown : s.vm.findClass y.cls = some mt.cls := findClass_of_methodNamed B.named
  have hname : meth.name = y.name := (name_of_methodNamed B.named B.method).1
  subst hsz
  have C : Cx G p s mt (av.map (mv G ad0)).toArray meth c own cc nL ret nm (AS ad0 N s.heap.size) := ⟨B.exec, B.bytes, hml, by rw [← hcl]; exact hown, fun w h => hts w (List.mem_cons_of_mem _ h), B.notSynchronized, B.returns, by rw [hname, hnm], hK, fun q h => Or.inr h, hST⟩
  obtain ⟨k1, k2⟩ := h G p e s mt _ below meth c _ ad0 C r mF ht
  have hD : va_D (AS ad0 N s.heap.size) (wl G S ad0 N R m) := ⟨hD0.1, fun k q hq => by
    obtain ⟨h1, rfl⟩ := wl_of hq
    exact Or.inl ⟨k, h1, rfl⟩⟩
  have hl := lv_entry (av.map (mv G ad0)) (n := nL) (by rw [sl_len]; exact hlen)
  rw [lg_entry_eq]
  generalize (lg_sl (av.map (mv G ad0)) ++ List.replicate (nL - (lg_sl (av.map (mv G ad0))).length) Slot.unset).toArray = ls at hl ⊢
  rw [args_map] at hl
  have had : AdOK N Nf ad0 ad0 := by
    rcases Nat.eq_or_lt_of_le k1 with q | q
    · exact Or.inl ⟨q.symm, rfl⟩
    · exact Or.inr ⟨q, fun _ _ => rfl⟩
  have k3 := k2 ad0 s.heap [] ls (Nat.le_refl _) had hP hD va_S.rf hl
  rw [Nat.sub_self, Nat.sub_self] at k3
  exact k3
theorem wb_blind (G : Gt) (S : Nat → Sh) (ad : Nat → Nat) (N : Nat) (R : Rf) (m : Mem) (sz : Nat) (av : List Value) : FrameBlind (va_Pc av (WB G S ad N R m sz)) := by
  intro a U g mk q
  obtain ⟨q0, q1, q2, q3, q4, q5⟩ := q
  exact ⟨q0, q1, q2, va_K.moved (u := U) (U := U.calling g mk a) (Vm.Alike.refl U.vm) q3, q4, q5.same rfl⟩
section VR
variable {α : Type} {G : Gt} {S : Nat → Sh} {ov : α → Option Value} {l : Launch} {p : Program} {e : Env} {s : State} {mt : MethodId} {args : Array Value} {below : List Frame} {meth : Method} {c : Code} {own : String} {cc : ByteArray} {nL fr : Nat} {ret : Option FieldType} {nm : String} {A : Nat → Prop} {ad0 : Nat → Nat} {N0 Nf : Nat} {Rz : Rf} {N : Nat} {R : Rf} {pc : Nat} {L : List (Nat × Value)} {st : List Value} {m : Mem} {t : Option (α × Mem)}
theorem wb_here (C : Cx G p s mt args meth c own cc nL ret nm A) {ad : Nat → Nat} {H : Heap} {locs : List Loc} (hP : va_P G.1 vwCl (wl G S ad N R m) H) (hD : va_D A (wl G S ad N R m)) (hS : va_S A s.heap H locs) (U : State) (hU : U.heap = H) (hW : s.WarmedH U.vm) : WB G S ad N R m H.size U := by
  refine ⟨by rw [hU], by rw [hU]; exact hP, va_K.moved hW.alike C.2.2.2.2.2.2.2.2.1, hD.weaken (fun _ _ _ _ => trivial), ?_⟩
  rw [hU]
  refine STR.warm hW ((STR.kept C.2.2.2.2.2.2.2.2.2.2 hS.2.1).narrow (fun q h => ?_))
  rcases h with ⟨k, h1, rfl⟩ | h
  · exact hD.2 k _ (wl_get h1 rfl)
  · exact C.2.2.2.2.2.2.2.2.2.1 q (Nat.le_trans hS.1 h)
theorem V.run {β : Type} {ob : β → Option Value} {f : Option (β × Mem)} {g : β → Mem → Option (α × Mem)} {st0 : List Value} (C : Cx G p s mt args meth c own cc nL ret nm A) (hob : ∀ (r : β) (ad : Nat → Nat), (ob r).toList.map (mv G ad) = (ob r).toList)
    (hr : ∀ (ad : Nat → Nat) (H : Heap) (locs : List Loc) (ls : Array Slot) (cells slots : Nat) (Rm : Room) (r : β) (mF : Mem), f = some (r, mF) → va_P G.1 vwCl (wl G S ad N R m) H → va_D A (wl G S ad N R m) → va_S A s.heap H locs → Lr G ad ls nL L → Rm.frames = fr → Rm.locals = 40 * fr → cells ≤ Rm.cells → slots ≤ Rm.slots → ∃ as : Array Value, va_Run p l e Rm s mt args below meth c H locs cells slots 0 0 (F0 mt pc ls (st0.map (mv G ad))) (st.map (mv G ad)) (Qx ob G S ad N N R (AS ad N H.size) r mF as) (AS ad N H.size))
    (k : ∀ (r : β) (mF : Mem), f = some (r, mF) → V G S ov l p e s mt args below meth c nL fr A ad0 N0 Nf Rz N R (pc + 3) L ((ob r).toList ++ st) mF (g r mF)) : V G S ov l p e s mt args below meth c nL fr A ad0 N0 Nf Rz N R pc L st0 m (bnd f g) := by
  intro r mF ht
  cases hf : f with
  | none => rw [hf] at ht; cases ht
  | some q =>
    obtain ⟨r1, m1⟩ := q
    rw [hf] at ht
    have ht : g r1 m1 = some (r, mF) := ht
    obtain ⟨k1, k2⟩ := k r1 m1 hf r mF ht
    refine ⟨k1, fun ad H locs ls h0 h1 h2 h3 h4 h5 => ?_⟩
    have hm := szs_mono S k1
    obtain ⟨as, h6⟩ := hr ad H locs ls (N - N0) (szs S N - szs S N0) (rmk fr (Nf - N0) (szs S Nf - szs S N0)) r1 m1 hf h2 h3 h4 h5 rfl rfl (show N - N0 ≤ Nf - N0 by omega) (show szs S N - szs S N0 ≤ szs S Nf - szs S N0 by omega)
    intro T hT X
    obtain ⟨v, st₀, u, T', Lc, g0, X', gL, e1, e2, ⟨⟨hv, ad2, had, hP2, hD2⟩, hz, hk⟩, hsteps⟩ := h6 T hT X
    have had2 : ad2 = ad := by
      rcases had with h | h
      · exact h.2
      · exact absurd h.1 (Nat.lt_irrefl _)
    subst had2
    cases hv
    rw [g0] at hz hk
    have hA : ∀ q, AS ad2 N H.size q → A q := fun q h => by
      rcases h with ⟨k, h1, rfl⟩ | h
      · exact h3.2 k _ (wl_get h1 rfl)
      · exact C.2.2.2.2.2.2.2.2.2.1 q (Nat.le_trans h4.1 h)
    have hS2 : va_S A s.heap T'.heap (locs ++ Lc) := ⟨Nat.le_trans h4.1 (by rw [e1]; exact hz), fun q h1 h2 => by rw [e1, hk q (Nat.lt_of_lt_of_le h1 h4.1) (fun z => h2 (hA q z))]; exact h4.2.1 q h1 h2, fun q hq => by
      rcases List.mem_append.mp hq with h | h
      · exact h4.2.2 q h
      · exact hA _ (gL q h)⟩
    have hw := k2 ad2 T'.heap (locs ++ Lc) ls h0 h1 (by rw [e1]; exact hP2) ⟨hD2.1, fun k q hq => hA _ (hD2.2 k q hq)⟩ hS2 h5
    rw [List.map_append, hob] at hw
    obtain ⟨t2, a1, b1⟩ := hw T' rfl X'
    exact ⟨t2, hsteps t2 a1, b1⟩
def CkB (y : MethodName) (cc : ByteArray) (nL : Nat) (ret : Option FieldType) (n : Nat) : Prop := Cond.initialized y.cls ∈ gtb ∧ Cond.code y cc nL ret ∈ gtb ∧ (y.cls ≠ "java/lang/invoke/MethodHandle" ∧ y.cls ≠ "java/lang/invoke/VarHandle" ∧ (parseMethodDescriptor y.desc).map (fun d => d.parameters.length) = some n)
def CkV (y : MethodName) (cc : ByteArray) (nL : Nat) (ret : Option FieldType) (n : Nat) : Prop := CkB y cc nL ret n ∧ Cond.instanceMethod y ∈ gtb ∧ Cond.selects y.cls y y ∈ gtb
def CkS (y : MethodName) (cc : ByteArray) (nL : Nat) (ret : Option FieldType) (n : Nat) : Prop := CkB y cc nL ret n ∧ Cond.static y ∈ gtb
theorem ws_good {y : MethodName} {cc : ByteArray} {nL : Nat} {ret : Option FieldType} (h : Cond.code y cc nL ret ∈ gtb) : GoodIn gtb (.code y cc nL ret :: gtb) := fun w hw => by
  rcases List.mem_cons.mp hw with rfl | hw
  · exact gtb_good _ h
  · exact gtb_good _ hw
theorem cat_sum (G : Gt) (ad : Nat → Nat) (st : List Value) (h : (st.map Value.category).sum ≤ 8) : ((st.map (mv G ad)).map fun v => v.category).sum ≤ 8 := by
  have e1 : (List.map (fun v => Value.category v) (st.map (mv G ad))).sum = (st.map Value.category).sum := by
    rw [List.map_map]
    congr 1
    apply List.map_congr_left
    intro v _
    exact mv_cat G ad v
  rw [e1]
  exact h
theorem V.callV {β : Type} {ob : β → Option Value} {f : Option (β × Mem)} {g : β → Mem → Option (α × Mem)} (C : Cx G p s mt args meth c own cc nL ret nm A) {y : MethodName} {cc1 : ByteArray} {nL1 fr1 n idx b ci : Nat} {ret1 : Option FieldType} {As : List Value} {st0 : List Value} {q : vw_C} (hc : Ct l y cc1 nL1 ret1 fr1 S ob N N R R (.ref b :: As) m f) (hob : ∀ (G : Gt) (r : β) (ad : Nat → Nat), (ob r).toList.map (mv G ad) = (ob r).toList) (ck : CkV y cc1 nL1 ret1 n) (hl : Cond.methodLink own idx y ∈ gtb) (hq : vwCl[ci]? = some q) (hy : y.cls = q.1) (hs : S b = .inl ci) (hk : b < N) (hn : As.length = n) (hst0 : As.reverse ++ .ref b :: st = st0) (hst : (st.map Value.category).sum ≤ 8) (hfr : fr1 + 1 ≤ fr ∧ nL1 ≤ 21) (hd : decode cc pc = .ok (.invokevirtual idx, 3))
    (k : ∀ (r : β) (mF : Mem), f = some (r, mF) → V G S ov l p e s mt args below meth c nL fr A ad0 N0 Nf Rz N R (pc + 3) L ((ob r).toList ++ st) mF (g r mF)) : V G S ov l p e s mt args below meth c nL fr A ad0 N0 Nf Rz N R pc L st0 m (bnd f g) := by
  subst hst0
  refine V.run C (hob G) (fun ad H locs ls cells slots Rm r mF hf hP hD hS hL hf1 hf2 hcl hsl => ?_) k
  have hM := hc G ad H.size r mF hf
  rw [Nat.sub_self, Nat.sub_self] at hM
  refine ⟨_, va_runV (cc := cc) (nL := nL) (Ts := gtb) (own := own) (C := y.cls) (b := ad b) (As := As.map (mv G ad)) (index := idx) (bytes := cc1) (maxL := nL1) (ret := ret1) (n := n) ⟨C.1, C.2.1, C.2.2.1, C.2.2.2.1, C.2.2.2.2.1⟩ hM ?_ ⟨wb_blind G S ad N R m H.size _, ?_, fun U hU hW => ⟨rfl, wb_here C hP hD hS U hU hW⟩⟩ rfl (by rw [List.length_map]; exact hn) hL.1 (by rw [List.map_append, List.map_reverse]; rfl) (lv_room (cat_sum G ad st hst)) hd ⟨hcl, hsl⟩⟩
  · exact ⟨callB_of n C.2.2.2.2.1 (ws_good ck.1.2.1) rfl rfl rfl (C.2.2.2.2.1 _ ck.1.1) (C.2.2.2.2.1 _ hl) ck.1.2.2 ⟨by rw [hf1]; exact hfr.1, by rw [hf2]; show 8 + (nL1 + 11) + 40 * fr1 ≤ 40 * fr; omega⟩, C.2.2.2.2.1 _ ck.2.1, C.2.2.2.2.1 _ ck.2.2⟩
  · rw [hy]
    exact va_recv C.2.2.2.2.2.2.2.2.1 hP hq (wl_get hk hs)
theorem V.callN {β : Type} {ob : β → Option Value} {f : Option (β × Mem)} {g : β → Mem → Option (α × Mem)} (C : Cx G p s mt args meth c own cc nL ret nm A) {y : MethodName} {host : String} {cc1 : ByteArray} {nL1 fr1 n idx b ci : Nat} {ret1 : Option FieldType} {As : List Value} {st0 : List Value} {q : vw_C} (hc : Ct l y cc1 nL1 ret1 fr1 S ob N N R R (.ref b :: As) m f) (hob : ∀ (G : Gt) (r : β) (ad : Nat → Nat), (ob r).toList.map (mv G ad) = (ob r).toList) (ck : CkV y cc1 nL1 ret1 n) (hl : (own, idx, y, host) ∈ nestW) (hq : vwCl[ci]? = some q) (hy : y.cls = q.1) (hs : S b = .inl ci) (hk : b < N) (hn : As.length = n) (hst0 : As.reverse ++ .ref b :: st = st0) (hst : (st.map Value.category).sum ≤ 8) (hfr : fr1 + 1 ≤ fr ∧ nL1 ≤ 21) (hd : decode cc pc = .ok (.invokevirtual idx, 3))
    (k : ∀ (r : β) (mF : Mem), f = some (r, mF) → V G S ov l p e s mt args below meth c nL fr A ad0 N0 Nf Rz N R (pc + 3) L ((ob r).toList ++ st) mF (g r mF)) : V G S ov l p e s mt args below meth c nL fr A ad0 N0 Nf Rz N R pc L st0 m (bnd f g) := by
  subst hst0
  refine V.run C (hob G) (fun ad H locs ls cells slots Rm r mF hf hP hD hS hL hf1 hf2 hcl hsl => ?_) k
  have hM := hc G ad H.size r mF hf
  rw [Nat.sub_self, Nat.sub_self] at hM
  refine ⟨_, va_runVN (cc := cc) (nL := nL) (Ts := gtb) (own := own) (host := host) (C := y.cls) (b := ad b) (As := As.map (mv G ad)) (index := idx) (bytes := cc1) (maxL := nL1) (ret := ret1) (n := n) ⟨C.1, C.2.1, C.2.2.1, C.2.2.2.1, C.2.2.2.2.1⟩ hM ?_ ⟨wb_blind G S ad N R m H.size _, ?_, fun U hU hW => ⟨rfl, wb_here C hP hD hS U hU hW⟩⟩ rfl (by rw [List.length_map]; exact hn) hL.1 (by rw [List.map_append, List.map_reverse]; rfl) (lv_room (cat_sum G ad st hst)) hd ⟨hcl, hsl⟩⟩
  · exact ⟨va_cnB n C.2.2.2.2.1 (ws_good ck.1.2.1) rfl rfl rfl (C.2.2.2.2.2.2.2.2.2.2.2.2.2.2 _ hl) (C.2.2.2.2.1 _ ck.1.1) ck.1.2.2 ⟨by rw [hf1]; exact hfr.1, by rw [hf2]; show 8 + (nL1 + 11) + 40 * fr1 ≤ 40 * fr; omega⟩, C.2.2.2.2.1 _ ck.2.1, C.2.2.2.2.1 _ ck.2.2⟩
  · rw [hy]
    exact va_recv C.2.2.2.2.2.2.2.2.1 hP hq (wl_get hk hs)
theorem V.callT {β : Type} {ob : β → Option Value} {f : Option (β × Mem)} {g : β → Mem → Option (α × Mem)} (C : Cx G p s mt args meth c own cc nL ret nm A) {y : MethodName} {cc1 : ByteArray} {nL1 fr1 n idx b : Nat} {ret1 : Option FieldType} {As : List Value} {st0 : List Value} (hc : Ct l y cc1 nL1 ret1 fr1 S ob N N R R (.retAddr b :: As) m f) (hob : ∀ (G : Gt) (r : β) (ad : Nat → Nat), (ob r).toList.map (mv G ad) = (ob r).toList) (ck : CkV y cc1 nL1 ret1 n) (hl : Cond.methodLink own idx y ∈ gtb) (hy : y.cls = "java/lang/String") (hk : b < 22) (hn : As.length = n) (hst0 : As.reverse ++ .retAddr b :: st = st0) (hst : (st.map Value.category).sum ≤ 8) (hfr : fr1 + 1 ≤ fr ∧ nL1 ≤ 21) (hd : decode cc pc = .ok (.invokevirtual idx, 3))
    (k : ∀ (r : β) (mF : Mem), f = some (r, mF) → V G S ov l p e s mt args below meth c nL fr A ad0 N0 Nf Rz N R (pc + 3) L ((ob r).toList ++ st) mF (g r mF)) : V G S ov l p e s mt args below meth c nL fr A ad0 N0 Nf Rz N R pc L st0 m (bnd f g) := by
  subst hst0
  refine V.run C (hob G) (fun ad H locs ls cells slots Rm r mF hf hP hD hS hL hf1 hf2 hcl hsl => ?_) k
  have hM := hc G ad H.size r mF hf
  rw [Nat.sub_self, Nat.sub_self] at hM
  have eb : mv G ad (.retAddr b) = .ref (G.2.2.1 b) := if_pos (by omega)
  rw [List.map_cons, eb] at hM
  refine ⟨_, va_runV (cc := cc) (nL := nL) (Ts := gtb) (own := own) (C := y.cls) (b := G.2.2.1 b) (As := As.map (mv G ad)) (index := idx) (bytes := cc1) (maxL := nL1) (ret := ret1) (n := n) ⟨C.1, C.2.1, C.2.2.1, C.2.2.2.1, C.2.2.2.2.1⟩ hM ?_ ⟨wb_blind G S ad N R m H.size _, ?_, fun U hU hW => ⟨rfl, wb_here C hP hD hS U hU hW⟩⟩ rfl (by rw [List.length_map]; exact hn) hL.1 (by rw [List.map_append, List.map_reverse, List.map_cons, eb]) (lv_room (cat_sum G ad st hst)) hd ⟨hcl, hsl⟩⟩
  · exact ⟨callB_of n C.2.2.2.2.1 (ws_good ck.1.2.1) rfl rfl rfl (C.2.2.2.2.1 _ ck.1.1) (C.2.2.2.2.1 _ hl) ck.1.2.2 ⟨by rw [hf1]; exact hfr.1, by rw [hf2]; show 8 + (nL1 + 11) + 40 * fr1 ≤ 40 * fr; omega⟩, C.2.2.2.2.1 _ ck.2.1, C.2.2.2.2.1 _ ck.2.2⟩
  · rw [hy]
    exact vk_recv C.2.2.2.2.2.2.2.2.2.2.1 hk hS
theorem V.callS {β : Type} {ob : β → Option Value} {f : Option (β × Mem)} {g : β → Mem → Option (α × Mem)} (C : Cx G p s mt args meth c own cc nL ret nm A) {y : MethodName} {cc1 : ByteArray} {nL1 fr1 n idx : Nat} {ret1 : Option FieldType} {As : List Value} {st0 : List Value} (hc : Ct l y cc1 nL1 ret1 fr1 S ob N N R R As m f) (hob : ∀ (G : Gt) (r : β) (ad : Nat → Nat), (ob r).toList.map (mv G ad) = (ob r).toList) (ck : CkS y cc1 nL1 ret1 n) (hl : Cond.methodLink own idx y ∈ gtb) (hn : As.length = n) (hst0 : As.reverse ++ st = st0) (hst : (st.map Value.category).sum ≤ 8) (hfr : fr1 + 1 ≤ fr ∧ nL1 ≤ 21) (hd : decode cc pc = .ok (.invokestatic idx, 3))
    (k : ∀ (r : β) (mF : Mem), f = some (r, mF) → V G S ov l p e s mt args below meth c nL fr A ad0 N0 Nf Rz N R (pc + 3) L ((ob r).toList ++ st) mF (g r mF)) : V G S ov l p e s mt args below meth c nL fr A ad0 N0 Nf Rz N R pc L st0 m (bnd f g) := by
  subst hst0
  refine V.run C (hob G) (fun ad H locs ls cells slots Rm r mF hf hP hD hS hL hf1 hf2 hcl hsl => ?_) k
  have hM := hc G ad H.size r mF hf
  rw [Nat.sub_self, Nat.sub_self] at hM
  refine ⟨_, va_runS (cc := cc) (nL := nL) (Ts := gtb) (own := own) (As := As.map (mv G ad)) (index := idx) (bytes := cc1) (maxL := nL1) (ret := ret1) (n := n) ⟨C.1, C.2.1, C.2.2.1, C.2.2.2.1, C.2.2.2.2.1⟩ hM ?_ ⟨wb_blind G S ad N R m H.size _, fun U hU hW => ⟨rfl, wb_here C hP hD hS U hU hW⟩⟩ rfl (by rw [List.length_map]; exact hn) hL.1 (by rw [List.map_append, List.map_reverse]) (lv_room (cat_sum G ad st hst)) hd ⟨hcl, hsl⟩⟩
  exact ⟨callB_of n C.2.2.2.2.1 (ws_good ck.1.2.1) rfl rfl rfl (C.2.2.2.2.1 _ ck.1.1) (C.2.2.2.2.1 _ hl) ck.1.2.2 ⟨by rw [hf1]; exact hfr.1, by rw [hf2]; show 8 + (nL1 + 11) + 40 * fr1 ≤ 40 * fr; omega⟩, C.2.2.2.2.1 _ ck.2⟩
theorem obI (G : Gt) (r : Int32) (ad : Nat → Nat) : (oI r).toList.map (mv G ad) = (oI r).toList := rfl
theorem obL (G : Gt) (r : Int64) (ad : Nat → Nat) : (oL r).toList.map (mv G ad) = (oL r).toList := rfl
theorem obV (G : Gt) (r : Unit) (ad : Nat → Nat) : (oV r).toList.map (mv G ad) = (oV r).toList := rfl
end VR
end
section
def sxT : List Sh := [.inl 11, .inr (1, 900), .inl 8, .inr (0, 14), .inr (0, 8), .inl 4, .inr (0, 900), .inl 4, .inr (0, 900), .inl 8, .inr (0, 14), .inr (0, 8), .inl 4, .inr (0, 900), .inl 4, .inr (0, 900), .inl 5, .inr (0, 8), .inr (0, 8), .inr (0, 8), .inr (0, 14), .inr (0, 112), .inl 0, .inr (0, 7), .inr (0, 32), .inl 10, .inl 5, .inr (0, 8), .inr (0, 8), .inr (0, 8), .inr (0, 14), .inr (0, 112), .inl 10, .inl 5, .inr (0, 8), .inr (0, 8), .inr (0, 8), .inr (0, 14), .inr (0, 112), .inl 7, .inl 2, .inr (4, 8), .inl 5, .inr (0, 8), .inr (0, 8), .inr (0, 8), .inr (0, 14), .inr (0, 112), .inl 5, .inr (0, 8), .inr (0, 8), .inr (0, 8), .inr (0, 14), .inr (0, 112), .inl 5, .inr (0, 8), .inr (0, 8), .inr (0, 8), .inr (0, 14), .inr (0, 112), .inl 5, .inr (0, 8), .inr (0, 8), .inr (0, 8), .inr (0, 14), .inr (0, 112), .inl 5, .inr (0, 8), .inr (0, 8), .inr (0, 8), .inr (0, 14), .inr (0, 112), .inl 5, .inr (0, 8), .inr (0, 8), .inr (0, 8), .inr (0, 14), .inr (0, 112), .inl 5, .inr (0, 8), .inr (0, 8), .inr (0, 8), .inr (0, 14), .inr (0, 112), .inl 5, .inr (0, 8), .inr (0, 8), .inr (0, 8), .inr (0, 14), .inr (0, 112), .inl 6, .inr (2, 64), .inr (0, 64), .inr (0, 256), .inr (0, 256), .inr (0, 8), .inl 1, .inr (0, 14), .inr (0, 14), .inr (5, 4), .inl 9, .inr (3, 40), .inl 9, .inr (3, 40), .inl 9, .inr (3, 40), .inl 9, .inr (3, 40), .inr (6, 2)]
def siT : List Sh := [.inl 3, .inl 8, .inr (0, 14), .inr (0, 8), .inl 4, .inr (0, 900), .inl 4, .inr (0, 900), .inl 5, .inr (0, 8), .inr (0, 8), .inr (0, 8), .inr (0, 14), .inr (0, 112)]
def SX (a : Nat) : Sh := if a < 109 then sxT.getD a (.inl 0) else siT.getD ((a - 109) % 14) (.inl 0)
def rxT : List (List (Option Nat)) := [[some 1, none, none, some 2, some 9, some 16, some 25, some 32, some 39, some 40, some 90, some 96, some 99, some 108], [], [none, none, none, none, none, some 3, some 4, some 5, some 7], [], [], [some 6], [], [some 8], [], [none, none, none, none, none, some 10, some 11, some 12, some 14], [], [], [some 13], [], [some 15], [], [none, some 17, some 18, some 19, some 20, some 21], [], [], [], [], [], [some 23, some 24], [], [], [some 2, some 22, some 26], [none, some 27, some 28, some 29, some 30, some 31], [], [], [], [], [], [some 2, some 22, some 33], [none, some 34, some 35, some 36, some 37, some 38], [], [], [], [], [], [some 1, some 9, some 16], [some 41], [some 42, some 48, some 54, some 60, some 66, some 72, some 78, some 84], [none, some 43, some 44, some 45, some 46, some 47], [], [], [], [], [], [none, some 49, some 50, some 51, some 52, some 53], [], [], [], [], [], [none, some 55, some 56, some 57, some 58, some 59], [], [], [], [], [], [none, some 61, some 62, some 63, some 64, some 65], [], [], [], [], [], [none, some 67, some 68, some 69, some 70, some 71], [], [], [], [], [], [none, some 73, some 74, some 75, some 76, some 77], [], [], [], [], [], [none, some 79, some 80, some 81, some 82, some 83], [], [], [], [], [], [none, some 85, some 86, some 87, some 88, some 89], [], [], [], [], [], [none, some 91, some 92, some 93, some 94, some 95], [], [], [], [], [], [some 25, none, none, none, some 97, some 98], [], [], [some 100, some 102, some 104, some 106], [none, none, none, some 101], [], [none, none, none, some 103], [], [none, none, none, some 105], [], [none, none, none, some 107], [], []]
def riT : List (List (Option Nat)) := [[some 1, some 8], [none, none, none, none, none, some 2, some 3, some 4, some 6], [], [], [some 5], [], [some 7], [], [none, some 9, some 10, some 11, some 12, some 13], [], [], [], [], []]
def RX (a j : Nat) : Option Nat := if a < 109 then (rxT.getD a []).getD j none else ((riT.getD ((a - 109) % 14) []).getD j none).map (fun d => a - (a - 109) % 14 + d)
def smT : List Sh := [.inl 12, .inr (0, 6288), .inr (2, 2), .inr (0, 900), .inr (0, 2096), .inr (0, 7), .inr (0, 900), .inr (0, 129), .inr (0, 8), .inr (0, 64), .inr (0, 8), .inr (0, 8), .inr (2, 64), .inr (0, 129), .inr (0, 4), .inr (0, 4), .inr (3, 160)]
def SM (a : Nat) : Sh := smT.getD a (.inl 0)
def rmT : List (List (Option Nat)) := [[none, some 1, some 2, some 3, some 4, none, none, none, none, none, none, none, none, none, none, some 5, some 6, some 7, some 8, none, none, some 9, some 10, some 11, some 12, none, none, none, none, some 13, some 14, some 15, some 16]]
def RM (a j : Nat) : Option Nat := (rmT.getD a []).getD j none
theorem sX0 : SX 0 = .inl 11 := rfl
theorem kX0 {N : Nat} (h : 109 ≤ N) : 0 < N := by omega
theorem sX1 : SX 1 = .inr (1, 900) := rfl
theorem kX1 {N : Nat} (h : 109 ≤ N) : 1 < N := by omega
theorem sX2 : SX 2 = .inl 8 := rfl
theorem kX2 {N : Nat} (h : 109 ≤ N) : 2 < N := by omega
theorem sX3 : SX 3 = .inr (0, 14) := rfl
theorem kX3 {N : Nat} (h : 109 ≤ N) : 3 < N := by omega
theorem sX4 : SX 4 = .inr (0, 8) := rfl
theorem kX4 {N : Nat} (h : 109 ≤ N) : 4 < N := by omega
theorem sX5 : SX 5 = .inl 4 := rfl
theorem kX5 {N : Nat} (h : 109 ≤ N) : 5 < N := by omega
theorem sX6 : SX 6 = .inr (0, 900) := rfl
theorem kX6 {N : Nat} (h : 109 ≤ N) : 6 < N := by omega
theorem sX7 : SX 7 = .inl 4 := rfl
theorem kX7 {N : Nat} (h : 109 ≤ N) : 7 < N := by omega
theorem sX8 : SX 8 = .inr (0, 900) := rfl
theorem kX8 {N : Nat} (h : 109 ≤ N) : 8 < N := by omega
theorem sX9 : SX 9 = .inl 8 := rfl
theorem kX9 {N : Nat} (h : 109 ≤ N) : 9 < N := by omega
theorem sX10 : SX 10 = .inr (0, 14) := rfl
theorem kX10 {N : Nat} (h : 109 ≤ N) : 10 < N := by omega
theorem sX11 : SX 11 = .inr (0, 8) := rfl
theorem kX11 {N : Nat} (h : 109 ≤ N) : 11 < N := by omega
theorem sX12 : SX 12 = .inl 4 := rfl
theorem kX12 {N : Nat} (h : 109 ≤ N) : 12 < N := by omega
theorem sX13 : SX 13 = .inr (0, 900) := rfl
theorem kX13 {N : Nat} (h : 109 ≤ N) : 13 < N := by omega
theorem sX14 : SX 14 = .inl 4 := rfl
theorem kX14 {N : Nat} (h : 109 ≤ N) : 14 < N := by omega
theorem sX15 : SX 15 = .inr (0, 900) := rfl
theorem kX15 {N : Nat} (h : 109 ≤ N) : 15 < N := by omega
theorem sX16 : SX 16 = .inl 5 := rfl
theorem kX16 {N : Nat} (h : 109 ≤ N) : 16 < N := by omega
theorem sX17 : SX 17 = .inr (0, 8) := rfl
theorem kX17 {N : Nat} (h : 109 ≤ N) : 17 < N := by omega
theorem sX18 : SX 18 = .inr (0, 8) := rfl
theorem kX18 {N : Nat} (h : 109 ≤ N) : 18 < N := by omega
theorem sX19 : SX 19 = .inr (0, 8) := rfl
theorem kX19 {N : Nat} (h : 109 ≤ N) : 19 < N := by omega
theorem sX20 : SX 20 = .inr (0, 14) := rfl
theorem kX20 {N : Nat} (h : 109 ≤ N) : 20 < N := by omega
theorem sX21 : SX 21 = .inr (0, 112) := rfl
theorem kX21 {N : Nat} (h : 109 ≤ N) : 21 < N := by omega
theorem sX22 : SX 22 = .inl 0 := rfl
theorem kX22 {N : Nat} (h : 109 ≤ N) : 22 < N := by omega
theorem sX23 : SX 23 = .inr (0, 7) := rfl
theorem kX23 {N : Nat} (h : 109 ≤ N) : 23 < N := by omega
theorem sX24 : SX 24 = .inr (0, 32) := rfl
theorem kX24 {N : Nat} (h : 109 ≤ N) : 24 < N := by omega
theorem sX25 : SX 25 = .inl 10 := rfl
theorem kX25 {N : Nat} (h : 109 ≤ N) : 25 < N := by omega
theorem sX26 : SX 26 = .inl 5 := rfl
theorem kX26 {N : Nat} (h : 109 ≤ N) : 26 < N := by omega
theorem sX27 : SX 27 = .inr (0, 8) := rfl
theorem kX27 {N : Nat} (h : 109 ≤ N) : 27 < N := by omega
theorem sX28 : SX 28 = .inr (0, 8) := rfl
theorem kX28 {N : Nat} (h : 109 ≤ N) : 28 < N := by omega
theorem sX29 : SX 29 = .inr (0, 8) := rfl
theorem kX29 {N : Nat} (h : 109 ≤ N) : 29 < N := by omega
theorem sX30 : SX 30 = .inr (0, 14) := rfl
theorem kX30 {N : Nat} (h : 109 ≤ N) : 30 < N := by omega
theorem sX31 : SX 31 = .inr (0, 112) := rfl
theorem kX31 {N : Nat} (h : 109 ≤ N) : 31 < N := by omega
theorem sX32 : SX 32 = .inl 10 := rfl
theorem kX32 {N : Nat} (h : 109 ≤ N) : 32 < N := by omega
theorem sX33 : SX 33 = .inl 5 := rfl
theorem kX33 {N : Nat} (h : 109 ≤ N) : 33 < N := by omega
theorem sX34 : SX 34 = .inr (0, 8) := rfl
theorem kX34 {N : Nat} (h : 109 ≤ N) : 34 < N := by omega
theorem sX35 : SX 35 = .inr (0, 8) := rfl
theorem kX35 {N : Nat} (h : 109 ≤ N) : 35 < N := by omega
theorem sX36 : SX 36 = .inr (0, 8) := rfl
theorem kX36 {N : Nat} (h : 109 ≤ N) : 36 < N := by omega
theorem sX37 : SX 37 = .inr (0, 14) := rfl
theorem kX37 {N : Nat} (h : 109 ≤ N) : 37 < N := by omega
theorem sX38 : SX 38 = .inr (0, 112) := rfl
theorem kX38 {N : Nat} (h : 109 ≤ N) : 38 < N := by omega
theorem sX39 : SX 39 = .inl 7 := rfl
theorem kX39 {N : Nat} (h : 109 ≤ N) : 39 < N := by omega
theorem sX40 : SX 40 = .inl 2 := rfl
theorem kX40 {N : Nat} (h : 109 ≤ N) : 40 < N := by omega
theorem sX41 : SX 41 = .inr (4, 8) := rfl
theorem kX41 {N : Nat} (h : 109 ≤ N) : 41 < N := by omega
theorem sX42 : SX 42 = .inl 5 := rfl
theorem kX42 {N : Nat} (h : 109 ≤ N) : 42 < N := by omega
theorem sX43 : SX 43 = .inr (0, 8) := rfl
theorem kX43 {N : Nat} (h : 109 ≤ N) : 43 < N := by omega
theorem sX44 : SX 44 = .inr (0, 8) := rfl
theorem kX44 {N : Nat} (h : 109 ≤ N) : 44 < N := by omega
theorem sX45 : SX 45 = .inr (0, 8) := rfl
theorem kX45 {N : Nat} (h : 109 ≤ N) : 45 < N := by omega
theorem sX46 : SX 46 = .inr (0, 14) := rfl
theorem kX46 {N : Nat} (h : 109 ≤ N) : 46 < N := by omega
theorem sX47 : SX 47 = .inr (0, 112) := rfl
theorem kX47 {N : Nat} (h : 109 ≤ N) : 47 < N := by omega
theorem sX48 : SX 48 = .inl 5 := rfl
theorem kX48 {N : Nat} (h : 109 ≤ N) : 48 < N := by omega
theorem sX49 : SX 49 = .inr (0, 8) := rfl
theorem kX49 {N : Nat} (h : 109 ≤ N) : 49 < N := by omega
theorem sX50 : SX 50 = .inr (0, 8) := rfl
theorem kX50 {N : Nat} (h : 109 ≤ N) : 50 < N := by omega
theorem sX51 : SX 51 = .inr (0, 8) := rfl
theorem kX51 {N : Nat} (h : 109 ≤ N) : 51 < N := by omega
theorem sX52 : SX 52 = .inr (0, 14) := rfl
theorem kX52 {N : Nat} (h : 109 ≤ N) : 52 < N := by omega
theorem sX53 : SX 53 = .inr (0, 112) := rfl
theorem kX53 {N : Nat} (h : 109 ≤ N) : 53 < N := by omega
theorem sX54 : SX 54 = .inl 5 := rfl
theorem kX54 {N : Nat} (h : 109 ≤ N) : 54 < N := by omega
theorem sX55 : SX 55 = .inr (0, 8) := rfl
theorem kX55 {N : Nat} (h : 109 ≤ N) : 55 < N := by omega
theorem sX56 : SX 56 = .inr (0, 8) := rfl
theorem kX56 {N : Nat} (h : 109 ≤ N) : 56 < N := by omega
theorem sX57 : SX 57 = .inr (0, 8) := rfl
theorem kX57 {N : Nat} (h : 109 ≤ N) : 57 < N := by omega
theorem sX58 : SX 58 = .inr (0, 14) := rfl
theorem kX58 {N : Nat} (h : 109 ≤ N) : 58 < N := by omega
theorem sX59 : SX 59 = .inr (0, 112) := rfl
theorem kX59 {N : Nat} (h : 109 ≤ N) : 59 < N := by omega
theorem sX60 : SX 60 = .inl 5 := rfl
theorem kX60 {N : Nat} (h : 109 ≤ N) : 60 < N := by omega
theorem sX61 : SX 61 = .inr (0, 8) := rfl
theorem kX61 {N : Nat} (h : 109 ≤ N) : 61 < N := by omega
theorem sX62 : SX 62 = .inr (0, 8) := rfl
theorem kX62 {N : Nat} (h : 109 ≤ N) : 62 < N := by omega
theorem sX63 : SX 63 = .inr (0, 8) := rfl
theorem kX63 {N : Nat} (h : 109 ≤ N) : 63 < N := by omega
theorem sX64 : SX 64 = .inr (0, 14) := rfl
theorem kX64 {N : Nat} (h : 109 ≤ N) : 64 < N := by omega
theorem sX65 : SX 65 = .inr (0, 112) := rfl
theorem kX65 {N : Nat} (h : 109 ≤ N) : 65 < N := by omega
theorem sX66 : SX 66 = .inl 5 := rfl
theorem kX66 {N : Nat} (h : 109 ≤ N) : 66 < N := by omega
theorem sX67 : SX 67 = .inr (0, 8) := rfl
theorem kX67 {N : Nat} (h : 109 ≤ N) : 67 < N := by omega
theorem sX68 : SX 68 = .inr (0, 8) := rfl
theorem kX68 {N : Nat} (h : 109 ≤ N) : 68 < N := by omega
theorem sX69 : SX 69 = .inr (0, 8) := rfl
theorem kX69 {N : Nat} (h : 109 ≤ N) : 69 < N := by omega
theorem sX70 : SX 70 = .inr (0, 14) := rfl
theorem kX70 {N : Nat} (h : 109 ≤ N) : 70 < N := by omega
theorem sX71 : SX 71 = .inr (0, 112) := rfl
theorem kX71 {N : Nat} (h : 109 ≤ N) : 71 < N := by omega
theorem sX72 : SX 72 = .inl 5 := rfl
theorem kX72 {N : Nat} (h : 109 ≤ N) : 72 < N := by omega
theorem sX73 : SX 73 = .inr (0, 8) := rfl
theorem kX73 {N : Nat} (h : 109 ≤ N) : 73 < N := by omega
theorem sX74 : SX 74 = .inr (0, 8) := rfl
theorem kX74 {N : Nat} (h : 109 ≤ N) : 74 < N := by omega
theorem sX75 : SX 75 = .inr (0, 8) := rfl
theorem kX75 {N : Nat} (h : 109 ≤ N) : 75 < N := by omega
theorem sX76 : SX 76 = .inr (0, 14) := rfl
theorem kX76 {N : Nat} (h : 109 ≤ N) : 76 < N := by omega
theorem sX77 : SX 77 = .inr (0, 112) := rfl
theorem kX77 {N : Nat} (h : 109 ≤ N) : 77 < N := by omega
theorem sX78 : SX 78 = .inl 5 := rfl
theorem kX78 {N : Nat} (h : 109 ≤ N) : 78 < N := by omega
theorem sX79 : SX 79 = .inr (0, 8) := rfl
theorem kX79 {N : Nat} (h : 109 ≤ N) : 79 < N := by omega
theorem sX80 : SX 80 = .inr (0, 8) := rfl
theorem kX80 {N : Nat} (h : 109 ≤ N) : 80 < N := by omega
theorem sX81 : SX 81 = .inr (0, 8) := rfl
theorem kX81 {N : Nat} (h : 109 ≤ N) : 81 < N := by omega
theorem sX82 : SX 82 = .inr (0, 14) := rfl
theorem kX82 {N : Nat} (h : 109 ≤ N) : 82 < N := by omega
theorem sX83 : SX 83 = .inr (0, 112) := rfl
theorem kX83 {N : Nat} (h : 109 ≤ N) : 83 < N := by omega
theorem sX84 : SX 84 = .inl 5 := rfl
theorem kX84 {N : Nat} (h : 109 ≤ N) : 84 < N := by omega
theorem sX85 : SX 85 = .inr (0, 8) := rfl
theorem kX85 {N : Nat} (h : 109 ≤ N) : 85 < N := by omega
theorem sX86 : SX 86 = .inr (0, 8) := rfl
theorem kX86 {N : Nat} (h : 109 ≤ N) : 86 < N := by omega
theorem sX87 : SX 87 = .inr (0, 8) := rfl
theorem kX87 {N : Nat} (h : 109 ≤ N) : 87 < N := by omega
theorem sX88 : SX 88 = .inr (0, 14) := rfl
theorem kX88 {N : Nat} (h : 109 ≤ N) : 88 < N := by omega
theorem sX89 : SX 89 = .inr (0, 112) := rfl
theorem kX89 {N : Nat} (h : 109 ≤ N) : 89 < N := by omega
theorem sX90 : SX 90 = .inl 6 := rfl
theorem kX90 {N : Nat} (h : 109 ≤ N) : 90 < N := by omega
theorem sX91 : SX 91 = .inr (2, 64) := rfl
theorem kX91 {N : Nat} (h : 109 ≤ N) : 91 < N := by omega
theorem sX92 : SX 92 = .inr (0, 64) := rfl
theorem kX92 {N : Nat} (h : 109 ≤ N) : 92 < N := by omega
theorem sX93 : SX 93 = .inr (0, 256) := rfl
theorem kX93 {N : Nat} (h : 109 ≤ N) : 93 < N := by omega
theorem sX94 : SX 94 = .inr (0, 256) := rfl
theorem kX94 {N : Nat} (h : 109 ≤ N) : 94 < N := by omega
theorem sX95 : SX 95 = .inr (0, 8) := rfl
theorem kX95 {N : Nat} (h : 109 ≤ N) : 95 < N := by omega
theorem sX96 : SX 96 = .inl 1 := rfl
theorem kX96 {N : Nat} (h : 109 ≤ N) : 96 < N := by omega
theorem sX97 : SX 97 = .inr (0, 14) := rfl
theorem kX97 {N : Nat} (h : 109 ≤ N) : 97 < N := by omega
theorem sX98 : SX 98 = .inr (0, 14) := rfl
theorem kX98 {N : Nat} (h : 109 ≤ N) : 98 < N := by omega
theorem sX99 : SX 99 = .inr (5, 4) := rfl
theorem kX99 {N : Nat} (h : 109 ≤ N) : 99 < N := by omega
theorem sX100 : SX 100 = .inl 9 := rfl
theorem kX100 {N : Nat} (h : 109 ≤ N) : 100 < N := by omega
theorem sX101 : SX 101 = .inr (3, 40) := rfl
theorem kX101 {N : Nat} (h : 109 ≤ N) : 101 < N := by omega
theorem sX102 : SX 102 = .inl 9 := rfl
theorem kX102 {N : Nat} (h : 109 ≤ N) : 102 < N := by omega
theorem sX103 : SX 103 = .inr (3, 40) := rfl
theorem kX103 {N : Nat} (h : 109 ≤ N) : 103 < N := by omega
theorem sX104 : SX 104 = .inl 9 := rfl
theorem kX104 {N : Nat} (h : 109 ≤ N) : 104 < N := by omega
theorem sX105 : SX 105 = .inr (3, 40) := rfl
theorem kX105 {N : Nat} (h : 109 ≤ N) : 105 < N := by omega
theorem sX106 : SX 106 = .inl 9 := rfl
theorem kX106 {N : Nat} (h : 109 ≤ N) : 106 < N := by omega
theorem sX107 : SX 107 = .inr (3, 40) := rfl
theorem kX107 {N : Nat} (h : 109 ≤ N) : 107 < N := by omega
theorem sX108 : SX 108 = .inr (6, 2) := rfl
theorem kX108 {N : Nat} (h : 109 ≤ N) : 108 < N := by omega
theorem rX0_0 : RX 0 0 = some 1 := rfl
theorem rX0_3 : RX 0 3 = some 2 := rfl
theorem rX0_4 : RX 0 4 = some 9 := rfl
theorem rX0_5 : RX 0 5 = some 16 := rfl
theorem rX0_6 : RX 0 6 = some 25 := rfl
theorem rX0_7 : RX 0 7 = some 32 := rfl
theorem rX0_8 : RX 0 8 = some 39 := rfl
theorem rX0_9 : RX 0 9 = some 40 := rfl
theorem rX0_10 : RX 0 10 = some 90 := rfl
theorem rX0_11 : RX 0 11 = some 96 := rfl
theorem rX0_12 : RX 0 12 = some 99 := rfl
theorem rX0_13 : RX 0 13 = some 108 := rfl
theorem rX2_5 : RX 2 5 = some 3 := rfl
theorem rX2_6 : RX 2 6 = some 4 := rfl
theorem rX2_7 : RX 2 7 = some 5 := rfl
theorem rX2_8 : RX 2 8 = some 7 := rfl
theorem rX5_0 : RX 5 0 = some 6 := rfl
theorem rX7_0 : RX 7 0 = some 8 := rfl
theorem rX9_5 : RX 9 5 = some 10 := rfl
theorem rX9_6 : RX 9 6 = some 11 := rfl
theorem rX9_7 : RX 9 7 = some 12 := rfl
theorem rX9_8 : RX 9 8 = some 14 := rfl
theorem rX12_0 : RX 12 0 = some 13 := rfl
theorem rX14_0 : RX 14 0 = some 15 := rfl
theorem rX16_1 : RX 16 1 = some 17 := rfl
theorem rX16_2 : RX 16 2 = some 18 := rfl
theorem rX16_3 : RX 16 3 = some 19 := rfl
theorem rX16_4 : RX 16 4 = some 20 := rfl
theorem rX16_5 : RX 16 5 = some 21 := rfl
theorem rX22_0 : RX 22 0 = some 23 := rfl
theorem rX22_1 : RX 22 1 = some 24 := rfl
theorem rX25_0 : RX 25 0 = some 2 := rfl
theorem rX25_1 : RX 25 1 = some 22 := rfl
theorem rX25_2 : RX 25 2 = some 26 := rfl
theorem rX26_1 : RX 26 1 = some 27 := rfl
theorem rX26_2 : RX 26 2 = some 28 := rfl
theorem rX26_3 : RX 26 3 = some 29 := rfl
theorem rX26_4 : RX 26 4 = some 30 := rfl
theorem rX26_5 : RX 26 5 = some 31 := rfl
theorem rX32_0 : RX 32 0 = some 2 := rfl
theorem rX32_1 : RX 32 1 = some 22 := rfl
theorem rX32_2 : RX 32 2 = some 33 := rfl
theorem rX33_1 : RX 33 1 = some 34 := rfl
theorem rX33_2 : RX 33 2 = some 35 := rfl
theorem rX33_3 : RX 33 3 = some 36 := rfl
theorem rX33_4 : RX 33 4 = some 37 := rfl
theorem rX33_5 : RX 33 5 = some 38 := rfl
theorem rX39_0 : RX 39 0 = some 1 := rfl
theorem rX39_1 : RX 39 1 = some 9 := rfl
theorem rX39_2 : RX 39 2 = some 16 := rfl
theorem rX40_0 : RX 40 0 = some 41 := rfl
theorem rX41_0 : RX 41 0 = some 42 := rfl
theorem rX41_1 : RX 41 1 = some 48 := rfl
theorem rX41_2 : RX 41 2 = some 54 := rfl
theorem rX41_3 : RX 41 3 = some 60 := rfl
theorem rX41_4 : RX 41 4 = some 66 := rfl
theorem rX41_5 : RX 41 5 = some 72 := rfl
theorem rX41_6 : RX 41 6 = some 78 := rfl
theorem rX41_7 : RX 41 7 = some 84 := rfl
theorem rX42_1 : RX 42 1 = some 43 := rfl
theorem rX42_2 : RX 42 2 = some 44 := rfl
theorem rX42_3 : RX 42 3 = some 45 := rfl
theorem rX42_4 : RX 42 4 = some 46 := rfl
theorem rX42_5 : RX 42 5 = some 47 := rfl
theorem rX48_1 : RX 48 1 = some 49 := rfl
theorem rX48_2 : RX 48 2 = some 50 := rfl
theorem rX48_3 : RX 48 3 = some 51 := rfl
theorem rX48_4 : RX 48 4 = some 52 := rfl
theorem rX48_5 : RX 48 5 = some 53 := rfl
theorem rX54_1 : RX 54 1 = some 55 := rfl
theorem rX54_2 : RX 54 2 = some 56 := rfl
theorem rX54_3 : RX 54 3 = some 57 := rfl
theorem rX54_4 : RX 54 4 = some 58 := rfl
theorem rX54_5 : RX 54 5 = some 59 := rfl
theorem rX60_1 : RX 60 1 = some 61 := rfl
theorem rX60_2 : RX 60 2 = some 62 := rfl
theorem rX60_3 : RX 60 3 = some 63 := rfl
theorem rX60_4 : RX 60 4 = some 64 := rfl
theorem rX60_5 : RX 60 5 = some 65 := rfl
theorem rX66_1 : RX 66 1 = some 67 := rfl
theorem rX66_2 : RX 66 2 = some 68 := rfl
theorem rX66_3 : RX 66 3 = some 69 := rfl
theorem rX66_4 : RX 66 4 = some 70 := rfl
theorem rX66_5 : RX 66 5 = some 71 := rfl
theorem rX72_1 : RX 72 1 = some 73 := rfl
theorem rX72_2 : RX 72 2 = some 74 := rfl
theorem rX72_3 : RX 72 3 = some 75 := rfl
theorem rX72_4 : RX 72 4 = some 76 := rfl
theorem rX72_5 : RX 72 5 = some 77 := rfl
theorem rX78_1 : RX 78 1 = some 79 := rfl
theorem rX78_2 : RX 78 2 = some 80 := rfl
theorem rX78_3 : RX 78 3 = some 81 := rfl
theorem rX78_4 : RX 78 4 = some 82 := rfl
theorem rX78_5 : RX 78 5 = some 83 := rfl
theorem rX84_1 : RX 84 1 = some 85 := rfl
theorem rX84_2 : RX 84 2 = some 86 := rfl
theorem rX84_3 : RX 84 3 = some 87 := rfl
theorem rX84_4 : RX 84 4 = some 88 := rfl
theorem rX84_5 : RX 84 5 = some 89 := rfl
theorem rX90_1 : RX 90 1 = some 91 := rfl
theorem rX90_2 : RX 90 2 = some 92 := rfl
theorem rX90_3 : RX 90 3 = some 93 := rfl
theorem rX90_4 : RX 90 4 = some 94 := rfl
theorem rX90_5 : RX 90 5 = some 95 := rfl
theorem rX96_0 : RX 96 0 = some 25 := rfl
theorem rX96_4 : RX 96 4 = some 97 := rfl
theorem rX96_5 : RX 96 5 = some 98 := rfl
theorem rX99_0 : RX 99 0 = some 100 := rfl
theorem rX99_1 : RX 99 1 = some 102 := rfl
theorem rX99_2 : RX 99 2 = some 104 := rfl
theorem rX99_3 : RX 99 3 = some 106 := rfl
theorem rX100_3 : RX 100 3 = some 101 := rfl
theorem rX102_3 : RX 102 3 = some 103 := rfl
theorem rX104_3 : RX 104 3 = some 105 := rfl
theorem rX106_3 : RX 106 3 = some 107 := rfl
theorem sM0 : SM 0 = .inl 12 := rfl
theorem kM0 : 0 < 17 := by decide
theorem sM1 : SM 1 = .inr (0, 6288) := rfl
theorem kM1 : 1 < 17 := by decide
theorem sM2 : SM 2 = .inr (2, 2) := rfl
theorem kM2 : 2 < 17 := by decide
theorem sM3 : SM 3 = .inr (0, 900) := rfl
theorem kM3 : 3 < 17 := by decide
theorem sM4 : SM 4 = .inr (0, 2096) := rfl
theorem kM4 : 4 < 17 := by decide
theorem sM5 : SM 5 = .inr (0, 7) := rfl
theorem kM5 : 5 < 17 := by decide
theorem sM6 : SM 6 = .inr (0, 900) := rfl
theorem kM6 : 6 < 17 := by decide
theorem sM7 : SM 7 = .inr (0, 129) := rfl
theorem kM7 : 7 < 17 := by decide
theorem sM8 : SM 8 = .inr (0, 8) := rfl
theorem kM8 : 8 < 17 := by decide
theorem sM9 : SM 9 = .inr (0, 64) := rfl
theorem kM9 : 9 < 17 := by decide
theorem sM10 : SM 10 = .inr (0, 8) := rfl
theorem kM10 : 10 < 17 := by decide
theorem sM11 : SM 11 = .inr (0, 8) := rfl
theorem kM11 : 11 < 17 := by decide
theorem sM12 : SM 12 = .inr (2, 64) := rfl
theorem kM12 : 12 < 17 := by decide
theorem sM13 : SM 13 = .inr (0, 129) := rfl
theorem kM13 : 13 < 17 := by decide
theorem sM14 : SM 14 = .inr (0, 4) := rfl
theorem kM14 : 14 < 17 := by decide
theorem sM15 : SM 15 = .inr (0, 4) := rfl
theorem kM15 : 15 < 17 := by decide
theorem sM16 : SM 16 = .inr (3, 160) := rfl
theorem kM16 : 16 < 17 := by decide
theorem rM0_1 : RM 0 1 = some 1 := rfl
theorem rM0_2 : RM 0 2 = some 2 := rfl
theorem rM0_3 : RM 0 3 = some 3 := rfl
theorem rM0_4 : RM 0 4 = some 4 := rfl
theorem rM0_15 : RM 0 15 = some 5 := rfl
theorem rM0_16 : RM 0 16 = some 6 := rfl
theorem rM0_17 : RM 0 17 = some 7 := rfl
theorem rM0_18 : RM 0 18 = some 8 := rfl
theorem rM0_21 : RM 0 21 = some 9 := rfl
theorem rM0_22 : RM 0 22 = some 10 := rfl
theorem rM0_23 : RM 0 23 = some 11 := rfl
theorem rM0_24 : RM 0 24 = some 12 := rfl
theorem rM0_29 : RM 0 29 = some 13 := rfl
theorem rM0_30 : RM 0 30 = some 14 := rfl
theorem rM0_31 : RM 0 31 = some 15 := rfl
theorem rM0_32 : RM 0 32 = some 16 := rfl
def isLife (N a : Nat) : Prop := a + 5 < N ∧ SX a = .inl 5 ∧ SX (a + 1) = .inr (0, 8) ∧ SX (a + 2) = .inr (0, 8) ∧ SX (a + 3) = .inr (0, 8) ∧ SX (a + 4) = .inr (0, 14) ∧ SX (a + 5) = .inr (0, 112) ∧ RX a 1 = some (a + 1) ∧ RX a 2 = some (a + 2) ∧ RX a 3 = some (a + 3) ∧ RX a 4 = some (a + 4) ∧ RX a 5 = some (a + 5)
def isLaw (N a : Nat) : Prop := a + 1 < N ∧ SX a = .inl 4 ∧ SX (a + 1) = .inr (0, 900) ∧ RX a 0 = some (a + 1)
def isRules (N a : Nat) : Prop := a + 6 < N ∧ SX a = .inl 8 ∧ SX (a + 1) = .inr (0, 14) ∧ SX (a + 2) = .inr (0, 8) ∧ RX a 5 = some (a + 1) ∧ RX a 6 = some (a + 2) ∧ RX a 7 = some (a + 3) ∧ RX a 8 = some (a + 5) ∧ isLaw N (a + 3) ∧ isLaw N (a + 5)
def isWorld (N a : Nat) : Prop := a < N ∧ SX a = .inl 10 ∧ RX a 0 = some 2 ∧ RX a 1 = some 22 ∧ RX a 2 = some (a + 1) ∧ isLife N (a + 1)
def isTray (N a : Nat) : Prop := a + 1 < N ∧ SX a = .inl 9 ∧ SX (a + 1) = .inr (3, 40) ∧ RX a 3 = some (a + 1)
def isImage (N a : Nat) : Prop := a < N ∧ SX a = .inl 3 ∧ RX a 0 = some (a + 1) ∧ RX a 1 = some (a + 8) ∧ isRules N (a + 1) ∧ isLife N (a + 8)
theorem isLife.s {N a : Nat} (h : isLife N a) : SX a = .inl 5 := h.2.1
theorem isLife.s1 {N a : Nat} (h : isLife N a) : SX (a + 1) = .inr (0, 8) := h.2.2.1
theorem isLife.r1 {N a : Nat} (h : isLife N a) : RX a 1 = some (a + 1) := h.2.2.2.2.2.2.2.1
theorem isLife.s2 {N a : Nat} (h : isLife N a) : SX (a + 2) = .inr (0, 8) := h.2.2.2.1
theorem isLife.r2 {N a : Nat} (h : isLife N a) : RX a 2 = some (a + 2) := h.2.2.2.2.2.2.2.2.1
theorem isLife.s3 {N a : Nat} (h : isLife N a) : SX (a + 3) = .inr (0, 8) := h.2.2.2.2.1
theorem isLife.r3 {N a : Nat} (h : isLife N a) : RX a 3 = some (a + 3) := h.2.2.2.2.2.2.2.2.2.1
theorem isLife.s4 {N a : Nat} (h : isLife N a) : SX (a + 4) = .inr (0, 14) := h.2.2.2.2.2.1
theorem isLife.r4 {N a : Nat} (h : isLife N a) : RX a 4 = some (a + 4) := h.2.2.2.2.2.2.2.2.2.2.1
theorem isLife.s5 {N a : Nat} (h : isLife N a) : SX (a + 5) = .inr (0, 112) := h.2.2.2.2.2.2.1
theorem isLife.r5 {N a : Nat} (h : isLife N a) : RX a 5 = some (a + 5) := h.2.2.2.2.2.2.2.2.2.2.2
theorem isLife.k {N a : Nat} (h : isLife N a) : a < N := by have := h.1; omega
theorem isLife.k1 {N a : Nat} (h : isLife N a) : a + 1 < N := by have := h.1; omega
theorem isLife.k2 {N a : Nat} (h : isLife N a) : a + 2 < N := by have := h.1; omega
theorem isLife.k3 {N a : Nat} (h : isLife N a) : a + 3 < N := by have := h.1; omega
theorem isLife.k4 {N a : Nat} (h : isLife N a) : a + 4 < N := by have := h.1; omega
theorem isLife.k5 {N a : Nat} (h : isLife N a) : a + 5 < N := by have := h.1; omega
theorem isLaw.s {N a : Nat} (h : isLaw N a) : SX a = .inl 4 := h.2.1
theorem isLaw.s1 {N a : Nat} (h : isLaw N a) : SX (a + 1) = .inr (0, 900) := h.2.2.1
theorem isLaw.r0 {N a : Nat} (h : isLaw N a) : RX a 0 = some (a + 1) := h.2.2.2
theorem isLaw.k {N a : Nat} (h : isLaw N a) : a < N := by have := h.1; omega
theorem isLaw.k1 {N a : Nat} (h : isLaw N a) : a + 1 < N := by have := h.1; omega
theorem isRules.s {N a : Nat} (h : isRules N a) : SX a = .inl 8 := h.2.1
theorem isRules.s1 {N a : Nat} (h : isRules N a) : SX (a + 1) = .inr (0, 14) := h.2.2.1
theorem isRules.s2 {N a : Nat} (h : isRules N a) : SX (a + 2) = .inr (0, 8) := h.2.2.2.1
theorem isRules.r5 {N a : Nat} (h : isRules N a) : RX a 5 = some (a + 1) := h.2.2.2.2.1
theorem isRules.r6 {N a : Nat} (h : isRules N a) : RX a 6 = some (a + 2) := h.2.2.2.2.2.1
theorem isRules.r7 {N a : Nat} (h : isRules N a) : RX a 7 = some (a + 3) := h.2.2.2.2.2.2.1
theorem isRules.r8 {N a : Nat} (h : isRules N a) : RX a 8 = some (a + 5) := h.2.2.2.2.2.2.2.1
theorem isRules.l7 {N a : Nat} (h : isRules N a) : isLaw N (a + 3) := h.2.2.2.2.2.2.2.2.1
theorem isRules.l8 {N a : Nat} (h : isRules N a) : isLaw N (a + 5) := h.2.2.2.2.2.2.2.2.2
theorem isRules.k {N a : Nat} (h : isRules N a) : a < N := by have := h.1; omega
theorem isRules.k1 {N a : Nat} (h : isRules N a) : a + 1 < N := by have := h.1; omega
theorem isRules.k2 {N a : Nat} (h : isRules N a) : a + 2 < N := by have := h.1; omega
theorem isWorld.s {N a : Nat} (h : isWorld N a) : SX a = .inl 10 := h.2.1
theorem isWorld.r0 {N a : Nat} (h : isWorld N a) : RX a 0 = some 2 := h.2.2.1
theorem isWorld.r1 {N a : Nat} (h : isWorld N a) : RX a 1 = some 22 := h.2.2.2.1
theorem isWorld.r2 {N a : Nat} (h : isWorld N a) : RX a 2 = some (a + 1) := h.2.2.2.2.1
theorem isWorld.life {N a : Nat} (h : isWorld N a) : isLife N (a + 1) := h.2.2.2.2.2
theorem isWorld.k {N a : Nat} (h : isWorld N a) : a < N := by have := h.1; omega
theorem isTray.s {N a : Nat} (h : isTray N a) : SX a = .inl 9 := h.2.1
theorem isTray.s1 {N a : Nat} (h : isTray N a) : SX (a + 1) = .inr (3, 40) := h.2.2.1
theorem isTray.r3 {N a : Nat} (h : isTray N a) : RX a 3 = some (a + 1) := h.2.2.2
theorem isTray.k {N a : Nat} (h : isTray N a) : a < N := by have := h.1; omega
theorem isTray.k1 {N a : Nat} (h : isTray N a) : a + 1 < N := by have := h.1; omega
theorem isImage.s {N a : Nat} (h : isImage N a) : SX a = .inl 3 := h.2.1
theorem isImage.r0 {N a : Nat} (h : isImage N a) : RX a 0 = some (a + 1) := h.2.2.1
theorem isImage.r1 {N a : Nat} (h : isImage N a) : RX a 1 = some (a + 8) := h.2.2.2.1
theorem isImage.ru {N a : Nat} (h : isImage N a) : isRules N (a + 1) := h.2.2.2.2.1
theorem isImage.li {N a : Nat} (h : isImage N a) : isLife N (a + 8) := h.2.2.2.2.2
theorem isImage.k {N a : Nat} (h : isImage N a) : a < N := by have := h.1; omega
theorem iX2 {N : Nat} (h : 109 ≤ N) : isRules N 2 := ⟨by omega, rfl, rfl, rfl, rfl, rfl, rfl, rfl, ⟨by omega, rfl, rfl, rfl⟩, ⟨by omega, rfl, rfl, rfl⟩⟩
theorem iX5 {N : Nat} (h : 109 ≤ N) : isLaw N 5 := ⟨by omega, rfl, rfl, rfl⟩
theorem iX7 {N : Nat} (h : 109 ≤ N) : isLaw N 7 := ⟨by omega, rfl, rfl, rfl⟩
theorem iX9 {N : Nat} (h : 109 ≤ N) : isRules N 9 := ⟨by omega, rfl, rfl, rfl, rfl, rfl, rfl, rfl, ⟨by omega, rfl, rfl, rfl⟩, ⟨by omega, rfl, rfl, rfl⟩⟩
theorem iX12 {N : Nat} (h : 109 ≤ N) : isLaw N 12 := ⟨by omega, rfl, rfl, rfl⟩
theorem iX14 {N : Nat} (h : 109 ≤ N) : isLaw N 14 := ⟨by omega, rfl, rfl, rfl⟩
theorem iX16 {N : Nat} (h : 109 ≤ N) : isLife N 16 := ⟨by omega, rfl, rfl, rfl, rfl, rfl, rfl, rfl, rfl, rfl, rfl, rfl⟩
theorem iX25 {N : Nat} (h : 109 ≤ N) : isWorld N 25 := ⟨by omega, rfl, rfl, rfl, rfl, ⟨by omega, rfl, rfl, rfl, rfl, rfl, rfl, rfl, rfl, rfl, rfl, rfl⟩⟩
theorem iX26 {N : Nat} (h : 109 ≤ N) : isLife N 26 := ⟨by omega, rfl, rfl, rfl, rfl, rfl, rfl, rfl, rfl, rfl, rfl, rfl⟩
theorem iX32 {N : Nat} (h : 109 ≤ N) : isWorld N 32 := ⟨by omega, rfl, rfl, rfl, rfl, ⟨by omega, rfl, rfl, rfl, rfl, rfl, rfl, rfl, rfl, rfl, rfl, rfl⟩⟩
theorem iX33 {N : Nat} (h : 109 ≤ N) : isLife N 33 := ⟨by omega, rfl, rfl, rfl, rfl, rfl, rfl, rfl, rfl, rfl, rfl, rfl⟩
theorem iX42 {N : Nat} (h : 109 ≤ N) : isLife N 42 := ⟨by omega, rfl, rfl, rfl, rfl, rfl, rfl, rfl, rfl, rfl, rfl, rfl⟩
theorem iX48 {N : Nat} (h : 109 ≤ N) : isLife N 48 := ⟨by omega, rfl, rfl, rfl, rfl, rfl, rfl, rfl, rfl, rfl, rfl, rfl⟩
theorem iX54 {N : Nat} (h : 109 ≤ N) : isLife N 54 := ⟨by omega, rfl, rfl, rfl, rfl, rfl, rfl, rfl, rfl, rfl, rfl, rfl⟩
theorem iX60 {N : Nat} (h : 109 ≤ N) : isLife N 60 := ⟨by omega, rfl, rfl, rfl, rfl, rfl, rfl, rfl, rfl, rfl, rfl, rfl⟩
theorem iX66 {N : Nat} (h : 109 ≤ N) : isLife N 66 := ⟨by omega, rfl, rfl, rfl, rfl, rfl, rfl, rfl, rfl, rfl, rfl, rfl⟩
theorem iX72 {N : Nat} (h : 109 ≤ N) : isLife N 72 := ⟨by omega, rfl, rfl, rfl, rfl, rfl, rfl, rfl, rfl, rfl, rfl, rfl⟩
theorem iX78 {N : Nat} (h : 109 ≤ N) : isLife N 78 := ⟨by omega, rfl, rfl, rfl, rfl, rfl, rfl, rfl, rfl, rfl, rfl, rfl⟩
theorem iX84 {N : Nat} (h : 109 ≤ N) : isLife N 84 := ⟨by omega, rfl, rfl, rfl, rfl, rfl, rfl, rfl, rfl, rfl, rfl, rfl⟩
theorem iX100 {N : Nat} (h : 109 ≤ N) : isTray N 100 := ⟨by omega, rfl, rfl, rfl⟩
theorem iX102 {N : Nat} (h : 109 ≤ N) : isTray N 102 := ⟨by omega, rfl, rfl, rfl⟩
theorem iX104 {N : Nat} (h : 109 ≤ N) : isTray N 104 := ⟨by omega, rfl, rfl, rfl⟩
theorem iX106 {N : Nat} (h : 109 ≤ N) : isTray N 106 := ⟨by omega, rfl, rfl, rfl⟩
theorem rPast : ∀ j, j < 8 → RX 41 j = some (42 + 6 * j) := by decide +kernel
theorem rTrays : ∀ j, j < 4 → RX 99 j = some (100 + 2 * j) := by decide +kernel
theorem lifePast {N : Nat} (h : 109 ≤ N) {i : Int32} (hi : vp_in i 8) : isLife N (42 + 6 * ix i) := by
  have hlt : i.toNatClampNeg < 8 := Nat.not_le.mp fun q => hi (Or.inr q)
  show isLife N (42 + 6 * i.toNatClampNeg)
  generalize i.toNatClampNeg = j at hlt
  match j, hlt with
  | 0, _ => exact iX42 h
  | 1, _ => exact iX48 h
  | 2, _ => exact iX54 h
  | 3, _ => exact iX60 h
  | 4, _ => exact iX66 h
  | 5, _ => exact iX72 h
  | 6, _ => exact iX78 h
  | 7, _ => exact iX84 h
  | n + 8, q => omega
theorem trayAt {N : Nat} (h : 109 ≤ N) {i : Int32} (hi : vp_in i 4) : isTray N (100 + 2 * ix i) := by
  have hlt : i.toNatClampNeg < 4 := Nat.not_le.mp fun q => hi (Or.inr q)
  show isTray N (100 + 2 * i.toNatClampNeg)
  generalize i.toNatClampNeg = j at hlt
  match j, hlt with
  | 0, _ => exact iX100 h
  | 1, _ => exact iX102 h
  | 2, _ => exact iX104 h
  | 3, _ => exact iX106 h
  | n + 4, q => omega
def okl (v : Int32) : Bool := decide (v = 12 ∨ v = 14)
theorem okl_d {v : Int32} (h : okl v = true) : dcr v = some (ix v) := by
  rcases of_decide_eq_true h with rfl | rfl <;> rfl
theorem okl_law {N : Nat} (hN : 109 ≤ N) {v : Int32} (h : okl v = true) : isLaw N (ix v) := by
  rcases of_decide_eq_true h with rfl | rfl
  · exact iX12 hN
  · exact iX14 hN
def oki (N : Nat) (v : Int32) : Bool := decide ((v = 109 ∧ 123 ≤ N) ∨ (v = 123 ∧ 137 ≤ N))
theorem oki_d {N : Nat} {v : Int32} (h : oki N v = true) : dcr v = some (ix v) := by
  rcases of_decide_eq_true h with ⟨rfl, _⟩ | ⟨rfl, _⟩ <;> rfl
theorem img0 {N : Nat} (h : 123 ≤ N) : isImage N 109 := ⟨by omega, rfl, rfl, rfl, ⟨by omega, rfl, rfl, rfl, rfl, rfl, rfl, rfl, ⟨by omega, rfl, rfl, rfl⟩, ⟨by omega, rfl, rfl, rfl⟩⟩, ⟨by omega, rfl, rfl, rfl, rfl, rfl, rfl, rfl, rfl, rfl, rfl, rfl⟩⟩
theorem img1 {N : Nat} (h : 137 ≤ N) : isImage N 123 := ⟨by omega, rfl, rfl, rfl, ⟨by omega, rfl, rfl, rfl, rfl, rfl, rfl, rfl, ⟨by omega, rfl, rfl, rfl⟩, ⟨by omega, rfl, rfl, rfl⟩⟩, ⟨by omega, rfl, rfl, rfl, rfl, rfl, rfl, rfl, rfl, rfl, rfl, rfl⟩⟩
theorem oki_img {N : Nat} {v : Int32} (h : oki N v = true) : isImage N (ix v) := by
  rcases of_decide_eq_true h with ⟨rfl, q⟩ | ⟨rfl, q⟩
  · exact img0 q
  · exact img1 q
def FU : Nat := 20000
end
