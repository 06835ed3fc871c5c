section
-- ===== PART A: goes FIRST, ahead of the names: the tables' words, and 'selects' of the private methods out of them =====
/-- a private method of a class that the tables say can be made, by its rows of tables_1 -/
def lw_okq (q : MethodName × Nat) : Prop := (q.1.cls ≠ "java/lang/invoke/MethodHandle" ∧ q.1.cls ≠ "java/lang/invoke/VarHandle") ∧ Cond.instantiable q.1.cls q.2 ∈ tables_1 ∧ Cond.privateMethod q.1 ∈ tables_1 ∧ Cond.instanceMethod q.1 ∈ tables_1
theorem lw_p0 : lw_okq (⟨"RootedDeltas", "beginAct", "()V"⟩, 10) := ⟨⟨by decide +kernel, by decide +kernel⟩, List.mem_of_getElem? (i := 17) (by decide +kernel), List.mem_of_getElem? (i := 187) (by decide +kernel), List.mem_of_getElem? (i := 188) (by decide +kernel)⟩
theorem lw_p1 : lw_okq (⟨"RootedDeltas", "tryMake", "(III)I"⟩, 10) := ⟨⟨by decide +kernel, by decide +kernel⟩, List.mem_of_getElem? (i := 17) (by decide +kernel), List.mem_of_getElem? (i := 204) (by decide +kernel), List.mem_of_getElem? (i := 205) (by decide +kernel)⟩
theorem lw_p2 : lw_okq (⟨"RootedDeltas", "endAct", "(I)I"⟩, 10) := ⟨⟨by decide +kernel, by decide +kernel⟩, List.mem_of_getElem? (i := 17) (by decide +kernel), List.mem_of_getElem? (i := 257) (by decide +kernel), List.mem_of_getElem? (i := 258) (by decide +kernel)⟩
theorem lw_p3 : lw_okq (⟨"RootedDeltas$History", "dropOldest", "()V"⟩, 2) := ⟨⟨by decide +kernel, by decide +kernel⟩, List.mem_of_getElem? (i := 80) (by decide +kernel), List.mem_of_getElem? (i := 265) (by decide +kernel), List.mem_of_getElem? (i := 266) (by decide +kernel)⟩
theorem lw_p4 : lw_okq (⟨"RootedDeltas$History", "stateAt", "(I)LRootedDeltas$State;"⟩, 2) := ⟨⟨by decide +kernel, by decide +kernel⟩, List.mem_of_getElem? (i := 80) (by decide +kernel), List.mem_of_getElem? (i := 269) (by decide +kernel), List.mem_of_getElem? (i := 270) (by decide +kernel)⟩
theorem lw_p5 : lw_okq (⟨"RootedDeltas", "tryMix", "(III)I"⟩, 10) := ⟨⟨by decide +kernel, by decide +kernel⟩, List.mem_of_getElem? (i := 17) (by decide +kernel), List.mem_of_getElem? (i := 278) (by decide +kernel), List.mem_of_getElem? (i := 279) (by decide +kernel)⟩
theorem lw_p6 : lw_okq (⟨"RootedDeltas", "tryAsk", "(I)I"⟩, 10) := ⟨⟨by decide +kernel, by decide +kernel⟩, List.mem_of_getElem? (i := 17) (by decide +kernel), List.mem_of_getElem? (i := 333) (by decide +kernel), List.mem_of_getElem? (i := 334) (by decide +kernel)⟩
theorem lw_p7 : lw_okq (⟨"RootedDeltas$Reach", "spreadAlong", "(LRootedDeltas$State;I)V"⟩, 4) := ⟨⟨by decide +kernel, by decide +kernel⟩, List.mem_of_getElem? (i := 97) (by decide +kernel), List.mem_of_getElem? (i := 344) (by decide +kernel), List.mem_of_getElem? (i := 345) (by decide +kernel)⟩
theorem lw_p8 : lw_okq (⟨"RootedDeltas", "rulePrefers", "(II)Z"⟩, 10) := ⟨⟨by decide +kernel, by decide +kernel⟩, List.mem_of_getElem? (i := 17) (by decide +kernel), List.mem_of_getElem? (i := 390) (by decide +kernel), List.mem_of_getElem? (i := 391) (by decide +kernel)⟩
theorem lw_p9 : lw_okq (⟨"RootedDeltas", "tryRoot", "(I)I"⟩, 10) := ⟨⟨by decide +kernel, by decide +kernel⟩, List.mem_of_getElem? (i := 17) (by decide +kernel), List.mem_of_getElem? (i := 404) (by decide +kernel), List.mem_of_getElem? (i := 405) (by decide +kernel)⟩
theorem lw_p10 : lw_okq (⟨"RootedDeltas", "giveRoot", "(II)V"⟩, 10) := ⟨⟨by decide +kernel, by decide +kernel⟩, List.mem_of_getElem? (i := 17) (by decide +kernel), List.mem_of_getElem? (i := 413) (by decide +kernel), List.mem_of_getElem? (i := 414) (by decide +kernel)⟩
theorem lw_p11 : lw_okq (⟨"RootedDeltas", "tryJoin", "(I)I"⟩, 10) := ⟨⟨by decide +kernel, by decide +kernel⟩, List.mem_of_getElem? (i := 17) (by decide +kernel), List.mem_of_getElem? (i := 425) (by decide +kernel), List.mem_of_getElem? (i := 426) (by decide +kernel)⟩
theorem lw_p12 : lw_okq (⟨"RootedDeltas$Orders", "readOrder", "()Z"⟩, 8) := ⟨⟨by decide +kernel, by decide +kernel⟩, List.mem_of_getElem? (i := 117) (by decide +kernel), List.mem_of_getElem? (i := 459) (by decide +kernel), List.mem_of_getElem? (i := 460) (by decide +kernel)⟩
theorem lw_p13 : lw_okq (⟨"RootedDeltas$Orders", "readWord", "()I"⟩, 8) := ⟨⟨by decide +kernel, by decide +kernel⟩, List.mem_of_getElem? (i := 117) (by decide +kernel), List.mem_of_getElem? (i := 463) (by decide +kernel), List.mem_of_getElem? (i := 464) (by decide +kernel)⟩
theorem lw_p14 : lw_okq (⟨"RootedDeltas$Orders", "alikeFromHere", "(Ljava/lang/String;)I"⟩, 8) := ⟨⟨by decide +kernel, by decide +kernel⟩, List.mem_of_getElem? (i := 117) (by decide +kernel), List.mem_of_getElem? (i := 475) (by decide +kernel), List.mem_of_getElem? (i := 476) (by decide +kernel)⟩
theorem lw_p15 : lw_okq (⟨"RootedDeltas$Orders", "signAt", "(I)I"⟩, 8) := ⟨⟨by decide +kernel, by decide +kernel⟩, List.mem_of_getElem? (i := 117) (by decide +kernel), List.mem_of_getElem? (i := 489) (by decide +kernel), List.mem_of_getElem? (i := 490) (by decide +kernel)⟩
def lw_privs_1 : List (MethodName × Nat) := [(⟨"RootedDeltas", "beginAct", "()V"⟩, 10), (⟨"RootedDeltas", "tryMake", "(III)I"⟩, 10), (⟨"RootedDeltas", "endAct", "(I)I"⟩, 10), (⟨"RootedDeltas$History", "dropOldest", "()V"⟩, 2), (⟨"RootedDeltas$History", "stateAt", "(I)LRootedDeltas$State;"⟩, 2), (⟨"RootedDeltas", "tryMix", "(III)I"⟩, 10), (⟨"RootedDeltas", "tryAsk", "(I)I"⟩, 10), (⟨"RootedDeltas$Reach", "spreadAlong", "(LRootedDeltas$State;I)V"⟩, 4), (⟨"RootedDeltas", "rulePrefers", "(II)Z"⟩, 10), (⟨"RootedDeltas", "tryRoot", "(I)I"⟩, 10), (⟨"RootedDeltas", "giveRoot", "(II)V"⟩, 10), (⟨"RootedDeltas", "tryJoin", "(I)I"⟩, 10), (⟨"RootedDeltas$Orders", "readOrder", "()Z"⟩, 8), (⟨"RootedDeltas$Orders", "readWord", "()I"⟩, 8), (⟨"RootedDeltas$Orders", "alikeFromHere", "(Ljava/lang/String;)I"⟩, 8), (⟨"RootedDeltas$Orders", "signAt", "(I)I"⟩, 8)]
theorem lw_r1 : ∀ q ∈ lw_privs_1, lw_okq q := List.forall_mem_cons.mpr ⟨lw_p0, List.forall_mem_cons.mpr ⟨lw_p1, List.forall_mem_cons.mpr ⟨lw_p2, List.forall_mem_cons.mpr ⟨lw_p3, List.forall_mem_cons.mpr ⟨lw_p4, List.forall_mem_cons.mpr ⟨lw_p5, List.forall_mem_cons.mpr ⟨lw_p6, List.forall_mem_cons.mpr ⟨lw_p7, List.forall_mem_cons.mpr ⟨lw_p8, List.forall_mem_cons.mpr ⟨lw_p9, List.forall_mem_cons.mpr ⟨lw_p10, List.forall_mem_cons.mpr ⟨lw_p11, List.forall_mem_cons.mpr ⟨lw_p12, List.forall_mem_cons.mpr ⟨lw_p13, List.forall_mem_cons.mpr ⟨lw_p14, List.forall_mem_cons.mpr ⟨lw_p15, fun _ h => absurd h List.not_mem_nil⟩⟩⟩⟩⟩⟩⟩⟩⟩⟩⟩⟩⟩⟩⟩⟩
theorem lw_p16 : lw_okq (⟨"RootedDeltas$Orders", "readNumber", "([II)Z"⟩, 8) := ⟨⟨by decide +kernel, by decide +kernel⟩, List.mem_of_getElem? (i := 117) (by decide +kernel), List.mem_of_getElem? (i := 535) (by decide +kernel), List.mem_of_getElem? (i := 536) (by decide +kernel)⟩
theorem lw_p17 : lw_okq (⟨"RootedDeltas$Orders", "readSign", "(C)Z"⟩, 8) := ⟨⟨by decide +kernel, by decide +kernel⟩, List.mem_of_getElem? (i := 117) (by decide +kernel), List.mem_of_getElem? (i := 539) (by decide +kernel), List.mem_of_getElem? (i := 540) (by decide +kernel)⟩
theorem lw_p18 : lw_okq (⟨"RootedDeltas$Orders", "digitAt", "(I)I"⟩, 8) := ⟨⟨by decide +kernel, by decide +kernel⟩, List.mem_of_getElem? (i := 117) (by decide +kernel), List.mem_of_getElem? (i := 543) (by decide +kernel), List.mem_of_getElem? (i := 544) (by decide +kernel)⟩
theorem lw_p19 : lw_okq (⟨"RootedDeltas$Orders", "readMoreDigits", "(II)I"⟩, 8) := ⟨⟨by decide +kernel, by decide +kernel⟩, List.mem_of_getElem? (i := 117) (by decide +kernel), List.mem_of_getElem? (i := 547) (by decide +kernel), List.mem_of_getElem? (i := 548) (by decide +kernel)⟩
theorem lw_p20 : lw_okq (⟨"RootedDeltas$Orders", "readCells", "()Z"⟩, 8) := ⟨⟨by decide +kernel, by decide +kernel⟩, List.mem_of_getElem? (i := 117) (by decide +kernel), List.mem_of_getElem? (i := 551) (by decide +kernel), List.mem_of_getElem? (i := 552) (by decide +kernel)⟩
theorem lw_p21 : lw_okq (⟨"RootedDeltas", "carryOut", "(I)I"⟩, 10) := ⟨⟨by decide +kernel, by decide +kernel⟩, List.mem_of_getElem? (i := 17) (by decide +kernel), List.mem_of_getElem? (i := 556) (by decide +kernel), List.mem_of_getElem? (i := 557) (by decide +kernel)⟩
theorem lw_p22 : lw_okq (⟨"RootedDeltas", "stopAt", "(II)I"⟩, 10) := ⟨⟨by decide +kernel, by decide +kernel⟩, List.mem_of_getElem? (i := 17) (by decide +kernel), List.mem_of_getElem? (i := 577) (by decide +kernel), List.mem_of_getElem? (i := 578) (by decide +kernel)⟩
theorem lw_p23 : lw_okq (⟨"RootedDeltas", "tellOfTree", "(II)I"⟩, 10) := ⟨⟨by decide +kernel, by decide +kernel⟩, List.mem_of_getElem? (i := 17) (by decide +kernel), List.mem_of_getElem? (i := 612) (by decide +kernel), List.mem_of_getElem? (i := 613) (by decide +kernel)⟩
theorem lw_p24 : lw_okq (⟨"RootedDeltas", "costFrom", "(I)I"⟩, 10) := ⟨⟨by decide +kernel, by decide +kernel⟩, List.mem_of_getElem? (i := 17) (by decide +kernel), List.mem_of_getElem? (i := 639) (by decide +kernel), List.mem_of_getElem? (i := 640) (by decide +kernel)⟩
theorem lw_p25 : lw_okq (⟨"RootedDeltas", "longestWay", "()I"⟩, 10) := ⟨⟨by decide +kernel, by decide +kernel⟩, List.mem_of_getElem? (i := 17) (by decide +kernel), List.mem_of_getElem? (i := 675) (by decide +kernel), List.mem_of_getElem? (i := 676) (by decide +kernel)⟩
theorem lw_p26 : lw_okq (⟨"RootedDeltasModel", "putAside", "()V"⟩, 19) := ⟨⟨by decide +kernel, by decide +kernel⟩, List.mem_of_getElem? (i := 693) (by decide +kernel), List.mem_of_getElem? (i := 764) (by decide +kernel), List.mem_of_getElem? (i := 765) (by decide +kernel)⟩
theorem lw_p27 : lw_okq (⟨"RootedDeltasModel", "makes", "(III)I"⟩, 19) := ⟨⟨by decide +kernel, by decide +kernel⟩, List.mem_of_getElem? (i := 693) (by decide +kernel), List.mem_of_getElem? (i := 768) (by decide +kernel), List.mem_of_getElem? (i := 769) (by decide +kernel)⟩
theorem lw_p28 : lw_okq (⟨"RootedDeltasModel", "isVersion", "(I)Z"⟩, 19) := ⟨⟨by decide +kernel, by decide +kernel⟩, List.mem_of_getElem? (i := 693) (by decide +kernel), List.mem_of_getElem? (i := 772) (by decide +kernel), List.mem_of_getElem? (i := 773) (by decide +kernel)⟩
theorem lw_p29 : lw_okq (⟨"RootedDeltasModel", "free", "()I"⟩, 19) := ⟨⟨by decide +kernel, by decide +kernel⟩, List.mem_of_getElem? (i := 693) (by decide +kernel), List.mem_of_getElem? (i := 779) (by decide +kernel), List.mem_of_getElem? (i := 780) (by decide +kernel)⟩
theorem lw_p30 : lw_okq (⟨"RootedDeltasModel", "comes", "(I)I"⟩, 19) := ⟨⟨by decide +kernel, by decide +kernel⟩, List.mem_of_getElem? (i := 693) (by decide +kernel), List.mem_of_getElem? (i := 783) (by decide +kernel), List.mem_of_getElem? (i := 784) (by decide +kernel)⟩
theorem lw_p31 : lw_okq (⟨"RootedDeltasModel", "act", "(I)I"⟩, 19) := ⟨⟨by decide +kernel, by decide +kernel⟩, List.mem_of_getElem? (i := 693) (by decide +kernel), List.mem_of_getElem? (i := 787) (by decide +kernel), List.mem_of_getElem? (i := 788) (by decide +kernel)⟩
def lw_privs_2 : List (MethodName × Nat) := [(⟨"RootedDeltas$Orders", "readNumber", "([II)Z"⟩, 8), (⟨"RootedDeltas$Orders", "readSign", "(C)Z"⟩, 8), (⟨"RootedDeltas$Orders", "digitAt", "(I)I"⟩, 8), (⟨"RootedDeltas$Orders", "readMoreDigits", "(II)I"⟩, 8), (⟨"RootedDeltas$Orders", "readCells", "()Z"⟩, 8), (⟨"RootedDeltas", "carryOut", "(I)I"⟩, 10), (⟨"RootedDeltas", "stopAt", "(II)I"⟩, 10), (⟨"RootedDeltas", "tellOfTree", "(II)I"⟩, 10), (⟨"RootedDeltas", "costFrom", "(I)I"⟩, 10), (⟨"RootedDeltas", "longestWay", "()I"⟩, 10), (⟨"RootedDeltasModel", "putAside", "()V"⟩, 19), (⟨"RootedDeltasModel", "makes", "(III)I"⟩, 19), (⟨"RootedDeltasModel", "isVersion", "(I)Z"⟩, 19), (⟨"RootedDeltasModel", "free", "()I"⟩, 19), (⟨"RootedDeltasModel", "comes", "(I)I"⟩, 19), (⟨"RootedDeltasModel", "act", "(I)I"⟩, 19)]
theorem lw_r2 : ∀ q ∈ lw_privs_2, lw_okq q := List.forall_mem_cons.mpr ⟨lw_p16, List.forall_mem_cons.mpr ⟨lw_p17, List.forall_mem_cons.mpr ⟨lw_p18, List.forall_mem_cons.mpr ⟨lw_p19, List.forall_mem_cons.mpr ⟨lw_p20, List.forall_mem_cons.mpr ⟨lw_p21, List.forall_mem_cons.mpr ⟨lw_p22, List.forall_mem_cons.mpr ⟨lw_p23, List.forall_mem_cons.mpr ⟨lw_p24, List.forall_mem_cons.mpr ⟨lw_p25, List.forall_mem_cons.mpr ⟨lw_p26, List.forall_mem_cons.mpr ⟨lw_p27, List.forall_mem_cons.mpr ⟨lw_p28, List.forall_mem_cons.mpr ⟨lw_p29, List.forall_mem_cons.mpr ⟨lw_p30, List.forall_mem_cons.mpr ⟨lw_p31, fun _ h => absurd h List.not_mem_nil⟩⟩⟩⟩⟩⟩⟩⟩⟩⟩⟩⟩⟩⟩⟩⟩
theorem lw_p32 : lw_okq (⟨"RootedDeltasModel", "mixes", "(III)I"⟩, 19) := ⟨⟨by decide +kernel, by decide +kernel⟩, List.mem_of_getElem? (i := 693) (by decide +kernel), List.mem_of_getElem? (i := 795) (by decide +kernel), List.mem_of_getElem? (i := 796) (by decide +kernel)⟩
theorem lw_p33 : lw_okq (⟨"RootedDeltasModel", "removes", "(I)I"⟩, 19) := ⟨⟨by decide +kernel, by decide +kernel⟩, List.mem_of_getElem? (i := 693) (by decide +kernel), List.mem_of_getElem? (i := 803) (by decide +kernel), List.mem_of_getElem? (i := 804) (by decide +kernel)⟩
theorem lw_p34 : lw_okq (⟨"RootedDeltasModel", "madeOf", "(I)I"⟩, 19) := ⟨⟨by decide +kernel, by decide +kernel⟩, List.mem_of_getElem? (i := 693) (by decide +kernel), List.mem_of_getElem? (i := 807) (by decide +kernel), List.mem_of_getElem? (i := 808) (by decide +kernel)⟩
theorem lw_p35 : lw_okq (⟨"RootedDeltasModel", "hangs", "(I)Z"⟩, 19) := ⟨⟨by decide +kernel, by decide +kernel⟩, List.mem_of_getElem? (i := 693) (by decide +kernel), List.mem_of_getElem? (i := 811) (by decide +kernel), List.mem_of_getElem? (i := 812) (by decide +kernel)⟩
theorem lw_p36 : lw_okq (⟨"RootedDeltasModel", "versions", "(I)I"⟩, 19) := ⟨⟨by decide +kernel, by decide +kernel⟩, List.mem_of_getElem? (i := 693) (by decide +kernel), List.mem_of_getElem? (i := 815) (by decide +kernel), List.mem_of_getElem? (i := 816) (by decide +kernel)⟩
theorem lw_p37 : lw_okq (⟨"RootedDeltasModel", "asks", "(I)I"⟩, 19) := ⟨⟨by decide +kernel, by decide +kernel⟩, List.mem_of_getElem? (i := 693) (by decide +kernel), List.mem_of_getElem? (i := 823) (by decide +kernel), List.mem_of_getElem? (i := 824) (by decide +kernel)⟩
theorem lw_p38 : lw_okq (⟨"RootedDeltasModel", "rootOf", "(I)I"⟩, 19) := ⟨⟨by decide +kernel, by decide +kernel⟩, List.mem_of_getElem? (i := 693) (by decide +kernel), List.mem_of_getElem? (i := 827) (by decide +kernel), List.mem_of_getElem? (i := 828) (by decide +kernel)⟩
theorem lw_p39 : lw_okq (⟨"RootedDeltasModel", "top", "(I)I"⟩, 19) := ⟨⟨by decide +kernel, by decide +kernel⟩, List.mem_of_getElem? (i := 693) (by decide +kernel), List.mem_of_getElem? (i := 831) (by decide +kernel), List.mem_of_getElem? (i := 832) (by decide +kernel)⟩
theorem lw_p40 : lw_okq (⟨"RootedDeltasModel", "cellsBetween", "(II)I"⟩, 19) := ⟨⟨by decide +kernel, by decide +kernel⟩, List.mem_of_getElem? (i := 693) (by decide +kernel), List.mem_of_getElem? (i := 835) (by decide +kernel), List.mem_of_getElem? (i := 836) (by decide +kernel)⟩
theorem lw_p41 : lw_okq (⟨"RootedDeltasModel", "layWay", "(II)V"⟩, 19) := ⟨⟨by decide +kernel, by decide +kernel⟩, List.mem_of_getElem? (i := 693) (by decide +kernel), List.mem_of_getElem? (i := 839) (by decide +kernel), List.mem_of_getElem? (i := 840) (by decide +kernel)⟩
theorem lw_p42 : lw_okq (⟨"RootedDeltasModel", "comesOf", "(II)Z"⟩, 19) := ⟨⟨by decide +kernel, by decide +kernel⟩, List.mem_of_getElem? (i := 693) (by decide +kernel), List.mem_of_getElem? (i := 843) (by decide +kernel), List.mem_of_getElem? (i := 844) (by decide +kernel)⟩
theorem lw_p43 : lw_okq (⟨"RootedDeltasModel", "unlikeCells", "(II)I"⟩, 19) := ⟨⟨by decide +kernel, by decide +kernel⟩, List.mem_of_getElem? (i := 693) (by decide +kernel), List.mem_of_getElem? (i := 847) (by decide +kernel), List.mem_of_getElem? (i := 848) (by decide +kernel)⟩
theorem lw_p44 : lw_okq (⟨"RootedDeltasModel", "becomesRoot", "(I)V"⟩, 19) := ⟨⟨by decide +kernel, by decide +kernel⟩, List.mem_of_getElem? (i := 693) (by decide +kernel), List.mem_of_getElem? (i := 851) (by decide +kernel), List.mem_of_getElem? (i := 852) (by decide +kernel)⟩
theorem lw_p45 : lw_okq (⟨"RootedDeltasModel", "roots", "(I)I"⟩, 19) := ⟨⟨by decide +kernel, by decide +kernel⟩, List.mem_of_getElem? (i := 693) (by decide +kernel), List.mem_of_getElem? (i := 859) (by decide +kernel), List.mem_of_getElem? (i := 860) (by decide +kernel)⟩
theorem lw_p46 : lw_okq (⟨"RootedDeltasModel", "cuts", "(I)I"⟩, 19) := ⟨⟨by decide +kernel, by decide +kernel⟩, List.mem_of_getElem? (i := 693) (by decide +kernel), List.mem_of_getElem? (i := 867) (by decide +kernel), List.mem_of_getElem? (i := 868) (by decide +kernel)⟩
theorem lw_p47 : lw_okq (⟨"RootedDeltasModel", "joins", "(I)I"⟩, 19) := ⟨⟨by decide +kernel, by decide +kernel⟩, List.mem_of_getElem? (i := 693) (by decide +kernel), List.mem_of_getElem? (i := 875) (by decide +kernel), List.mem_of_getElem? (i := 876) (by decide +kernel)⟩
def lw_privs_3 : List (MethodName × Nat) := [(⟨"RootedDeltasModel", "mixes", "(III)I"⟩, 19), (⟨"RootedDeltasModel", "removes", "(I)I"⟩, 19), (⟨"RootedDeltasModel", "madeOf", "(I)I"⟩, 19), (⟨"RootedDeltasModel", "hangs", "(I)Z"⟩, 19), (⟨"RootedDeltasModel", "versions", "(I)I"⟩, 19), (⟨"RootedDeltasModel", "asks", "(I)I"⟩, 19), (⟨"RootedDeltasModel", "rootOf", "(I)I"⟩, 19), (⟨"RootedDeltasModel", "top", "(I)I"⟩, 19), (⟨"RootedDeltasModel", "cellsBetween", "(II)I"⟩, 19), (⟨"RootedDeltasModel", "layWay", "(II)V"⟩, 19), (⟨"RootedDeltasModel", "comesOf", "(II)Z"⟩, 19), (⟨"RootedDeltasModel", "unlikeCells", "(II)I"⟩, 19), (⟨"RootedDeltasModel", "becomesRoot", "(I)V"⟩, 19), (⟨"RootedDeltasModel", "roots", "(I)I"⟩, 19), (⟨"RootedDeltasModel", "cuts", "(I)I"⟩, 19), (⟨"RootedDeltasModel", "joins", "(I)I"⟩, 19)]
theorem lw_r3 : ∀ q ∈ lw_privs_3, lw_okq q := List.forall_mem_cons.mpr ⟨lw_p32, List.forall_mem_cons.mpr ⟨lw_p33, List.forall_mem_cons.mpr ⟨lw_p34, List.forall_mem_cons.mpr ⟨lw_p35, List.forall_mem_cons.mpr ⟨lw_p36, List.forall_mem_cons.mpr ⟨lw_p37, List.forall_mem_cons.mpr ⟨lw_p38, List.forall_mem_cons.mpr ⟨lw_p39, List.forall_mem_cons.mpr ⟨lw_p40, List.forall_mem_cons.mpr ⟨lw_p41, List.forall_mem_cons.mpr ⟨lw_p42, List.forall_mem_cons.mpr ⟨lw_p43, List.forall_mem_cons.mpr ⟨lw_p44, List.forall_mem_cons.mpr ⟨lw_p45, List.forall_mem_cons.mpr ⟨lw_p46, List.forall_mem_cons.mpr ⟨lw_p47, fun _ h => absurd h List.not_mem_nil⟩⟩⟩⟩⟩⟩⟩⟩⟩⟩⟩⟩⟩⟩⟩⟩
theorem lw_p48 : lw_okq (⟨"RootedDeltasModel", "sets", "(II)I"⟩, 19) := ⟨⟨by decide +kernel, by decide +kernel⟩, List.mem_of_getElem? (i := 693) (by decide +kernel), List.mem_of_getElem? (i := 883) (by decide +kernel), List.mem_of_getElem? (i := 884) (by decide +kernel)⟩
theorem lw_p49 : lw_okq (⟨"RootedDeltasModel", "go", "(Z)I"⟩, 19) := ⟨⟨by decide +kernel, by decide +kernel⟩, List.mem_of_getElem? (i := 693) (by decide +kernel), List.mem_of_getElem? (i := 899) (by decide +kernel), List.mem_of_getElem? (i := 900) (by decide +kernel)⟩
theorem lw_p50 : lw_okq (⟨"RootedDeltasModel", "order", "()V"⟩, 19) := ⟨⟨by decide +kernel, by decide +kernel⟩, List.mem_of_getElem? (i := 693) (by decide +kernel), List.mem_of_getElem? (i := 903) (by decide +kernel), List.mem_of_getElem? (i := 904) (by decide +kernel)⟩
theorem lw_p51 : lw_okq (⟨"RootedDeltasModel", "signs", "(III)V"⟩, 19) := ⟨⟨by decide +kernel, by decide +kernel⟩, List.mem_of_getElem? (i := 693) (by decide +kernel), List.mem_of_getElem? (i := 907) (by decide +kernel), List.mem_of_getElem? (i := 908) (by decide +kernel)⟩
theorem lw_p52 : lw_okq (⟨"RootedDeltasModel", "sign", "(I)V"⟩, 19) := ⟨⟨by decide +kernel, by decide +kernel⟩, List.mem_of_getElem? (i := 693) (by decide +kernel), List.mem_of_getElem? (i := 911) (by decide +kernel), List.mem_of_getElem? (i := 912) (by decide +kernel)⟩
theorem lw_p53 : lw_okq (⟨"RootedDeltasModel", "isNext", "(II)Z"⟩, 19) := ⟨⟨by decide +kernel, by decide +kernel⟩, List.mem_of_getElem? (i := 693) (by decide +kernel), List.mem_of_getElem? (i := 915) (by decide +kernel), List.mem_of_getElem? (i := 916) (by decide +kernel)⟩
theorem lw_p54 : lw_okq (⟨"RootedDeltasModel", "number", "(I)I"⟩, 19) := ⟨⟨by decide +kernel, by decide +kernel⟩, List.mem_of_getElem? (i := 693) (by decide +kernel), List.mem_of_getElem? (i := 919) (by decide +kernel), List.mem_of_getElem? (i := 920) (by decide +kernel)⟩
theorem lw_p55 : lw_okq (⟨"RootedDeltasModel", "cells", "()I"⟩, 19) := ⟨⟨by decide +kernel, by decide +kernel⟩, List.mem_of_getElem? (i := 693) (by decide +kernel), List.mem_of_getElem? (i := 923) (by decide +kernel), List.mem_of_getElem? (i := 924) (by decide +kernel)⟩
theorem lw_p56 : lw_okq (⟨"RootedDeltasModel", "does", "()I"⟩, 19) := ⟨⟨by decide +kernel, by decide +kernel⟩, List.mem_of_getElem? (i := 693) (by decide +kernel), List.mem_of_getElem? (i := 927) (by decide +kernel), List.mem_of_getElem? (i := 928) (by decide +kernel)⟩
theorem lw_p57 : lw_okq (⟨"RootedDeltasModel", "putBack", "()V"⟩, 19) := ⟨⟨by decide +kernel, by decide +kernel⟩, List.mem_of_getElem? (i := 693) (by decide +kernel), List.mem_of_getElem? (i := 931) (by decide +kernel), List.mem_of_getElem? (i := 932) (by decide +kernel)⟩
theorem lw_p58 : lw_okq (⟨"RootedDeltasModel", "cellsUnlike", "(II)I"⟩, 19) := ⟨⟨by decide +kernel, by decide +kernel⟩, List.mem_of_getElem? (i := 693) (by decide +kernel), List.mem_of_getElem? (i := 959) (by decide +kernel), List.mem_of_getElem? (i := 960) (by decide +kernel)⟩
theorem lw_p59 : lw_okq (⟨"RootedDeltasModel", "size", "(I)I"⟩, 19) := ⟨⟨by decide +kernel, by decide +kernel⟩, List.mem_of_getElem? (i := 693) (by decide +kernel), List.mem_of_getElem? (i := 963) (by decide +kernel), List.mem_of_getElem? (i := 964) (by decide +kernel)⟩
theorem lw_p60 : lw_okq (⟨"RootedDeltasModel", "isAhead", "(II)Z"⟩, 19) := ⟨⟨by decide +kernel, by decide +kernel⟩, List.mem_of_getElem? (i := 693) (by decide +kernel), List.mem_of_getElem? (i := 979) (by decide +kernel), List.mem_of_getElem? (i := 980) (by decide +kernel)⟩
theorem lw_p61 : lw_okq (⟨"RootedDeltasModel", "costOf", "(I)I"⟩, 19) := ⟨⟨by decide +kernel, by decide +kernel⟩, List.mem_of_getElem? (i := 693) (by decide +kernel), List.mem_of_getElem? (i := 987) (by decide +kernel), List.mem_of_getElem? (i := 988) (by decide +kernel)⟩
theorem lw_p62 : lw_okq (⟨"RootedDeltasModel", "room", "()I"⟩, 19) := ⟨⟨by decide +kernel, by decide +kernel⟩, List.mem_of_getElem? (i := 693) (by decide +kernel), List.mem_of_getElem? (i := 1000) (by decide +kernel), List.mem_of_getElem? (i := 1001) (by decide +kernel)⟩
theorem lw_p63 : lw_okq (⟨"RootedDeltasModel", "mostSteps", "()I"⟩, 19) := ⟨⟨by decide +kernel, by decide +kernel⟩, List.mem_of_getElem? (i := 693) (by decide +kernel), List.mem_of_getElem? (i := 1008) (by decide +kernel), List.mem_of_getElem? (i := 1009) (by decide +kernel)⟩
def lw_privs_4 : List (MethodName × Nat) := [(⟨"RootedDeltasModel", "sets", "(II)I"⟩, 19), (⟨"RootedDeltasModel", "go", "(Z)I"⟩, 19), (⟨"RootedDeltasModel", "order", "()V"⟩, 19), (⟨"RootedDeltasModel", "signs", "(III)V"⟩, 19), (⟨"RootedDeltasModel", "sign", "(I)V"⟩, 19), (⟨"RootedDeltasModel", "isNext", "(II)Z"⟩, 19), (⟨"RootedDeltasModel", "number", "(I)I"⟩, 19), (⟨"RootedDeltasModel", "cells", "()I"⟩, 19), (⟨"RootedDeltasModel", "does", "()I"⟩, 19), (⟨"RootedDeltasModel", "putBack", "()V"⟩, 19), (⟨"RootedDeltasModel", "cellsUnlike", "(II)I"⟩, 19), (⟨"RootedDeltasModel", "size", "(I)I"⟩, 19), (⟨"RootedDeltasModel", "isAhead", "(II)Z"⟩, 19), (⟨"RootedDeltasModel", "costOf", "(I)I"⟩, 19), (⟨"RootedDeltasModel", "room", "()I"⟩, 19), (⟨"RootedDeltasModel", "mostSteps", "()I"⟩, 19)]
theorem lw_r4 : ∀ q ∈ lw_privs_4, lw_okq q := List.forall_mem_cons.mpr ⟨lw_p48, List.forall_mem_cons.mpr ⟨lw_p49, List.forall_mem_cons.mpr ⟨lw_p50, List.forall_mem_cons.mpr ⟨lw_p51, List.forall_mem_cons.mpr ⟨lw_p52, List.forall_mem_cons.mpr ⟨lw_p53, List.forall_mem_cons.mpr ⟨lw_p54, List.forall_mem_cons.mpr ⟨lw_p55, List.forall_mem_cons.mpr ⟨lw_p56, List.forall_mem_cons.mpr ⟨lw_p57, List.forall_mem_cons.mpr ⟨lw_p58, List.forall_mem_cons.mpr ⟨lw_p59, List.forall_mem_cons.mpr ⟨lw_p60, List.forall_mem_cons.mpr ⟨lw_p61, List.forall_mem_cons.mpr ⟨lw_p62, List.forall_mem_cons.mpr ⟨lw_p63, fun _ h => absurd h List.not_mem_nil⟩⟩⟩⟩⟩⟩⟩⟩⟩⟩⟩⟩⟩⟩⟩⟩
theorem lw_p64 : lw_okq (⟨"RootedDeltasModel", "rows", "()I"⟩, 19) := ⟨⟨by decide +kernel, by decide +kernel⟩, List.mem_of_getElem? (i := 693) (by decide +kernel), List.mem_of_getElem? (i := 1012) (by decide +kernel), List.mem_of_getElem? (i := 1013) (by decide +kernel)⟩
def lw_privs_5 : List (MethodName × Nat) := [(⟨"RootedDeltasModel", "rows", "()I"⟩, 19)]
theorem lw_r5 : ∀ q ∈ lw_privs_5, lw_okq q := List.forall_mem_cons.mpr ⟨lw_p64, fun _ h => absurd h List.not_mem_nil⟩
def lw_privs : List (MethodName × Nat) := lw_privs_1 ++ (lw_privs_2 ++ (lw_privs_3 ++ (lw_privs_4 ++ (lw_privs_5))))
def lw_tbl : List Cond := k2_sels lw_privs ++ tables_1
theorem lw_privs_ok : ∀ q ∈ lw_privs, lw_okq q := by
  show ∀ q ∈ lw_privs_1 ++ (lw_privs_2 ++ (lw_privs_3 ++ (lw_privs_4 ++ (lw_privs_5)))), lw_okq q
  exact List.forall_mem_append.mpr ⟨lw_r1, List.forall_mem_append.mpr ⟨lw_r2, List.forall_mem_append.mpr ⟨lw_r3, List.forall_mem_append.mpr ⟨lw_r4, lw_r5⟩⟩⟩⟩
def RX0 : String := "RootedDeltas$History"
def TX0 : u_T := fun k => match k with
  | 0 => ("RootedDeltas$History", "states", "[LRootedDeltas$State;", true)
  | _ => ("RootedDeltas$History", "size", "I", false)
def tyX0 : Nat → FieldType := fun k => match k with
  | 0 => .array (.object "RootedDeltas$State")
  | _ => .int
abbrev wsX00 : List Cond := u_ws RX0 TX0 2
theorem nmX0 : ∀ a, a < 2 → ∀ b, b < 2 → a ≠ b → (TX0 a).2.1 ≠ (TX0 b).2.1 := by decide +kernel
theorem tyX0_ok : ∀ k, k < 2 → parseFieldDescriptor (TX0 k).2.2.1 = some (tyX0 k) := by decide +kernel
abbrev cX0_init : ByteArray := prog_2_method_1_code
def yX0_init : MethodName := ⟨RX0, "<init>", "()V"⟩
abbrev cX0_record : ByteArray := prog_2_method_2_code
def yX0_record : MethodName := ⟨RX0, "record", "(LRootedDeltas$State;)V"⟩
abbrev cX0_takeLatest : ByteArray := prog_2_method_3_code
def yX0_takeLatest : MethodName := ⟨RX0, "takeLatest", "(LRootedDeltas$State;)Z"⟩
abbrev cX0_stateAt : ByteArray := prog_2_method_4_code
def yX0_stateAt : MethodName := ⟨RX0, "stateAt", "(I)LRootedDeltas$State;"⟩
abbrev cX0_dropOldest : ByteArray := prog_2_method_5_code
def yX0_dropOldest : MethodName := ⟨RX0, "dropOldest", "()V"⟩
def RX1 : String := "RootedDeltas$Orders"
def TX1 : u_T := fun k => match k with
  | 0 => ("RootedDeltas$Orders", "text", "[C", true)
  | 1 => ("RootedDeltas$Orders", "length", "I", false)
  | 2 => ("RootedDeltas$Orders", "place", "I", false)
  | 3 => ("RootedDeltas$Orders", "size", "I", false)
  | 4 => ("RootedDeltas$Orders", "words", "[I", true)
  | 5 => ("RootedDeltas$Orders", "first", "[I", true)
  | 6 => ("RootedDeltas$Orders", "second", "[I", true)
  | _ => ("RootedDeltas$Orders", "third", "[I", true)
def tyX1 : Nat → FieldType := fun k => match k with
  | 0 => .array .char
  | 1 => .int
  | 2 => .int
  | 3 => .int
  | 4 => .array .int
  | 5 => .array .int
  | 6 => .array .int
  | _ => .array .int
abbrev wsX10 : List Cond := u_ws RX1 TX1 8
theorem nmX1 : ∀ a, a < 8 → ∀ b, b < 8 → a ≠ b → (TX1 a).2.1 ≠ (TX1 b).2.1 := by decide +kernel
theorem tyX1_ok : ∀ k, k < 8 → parseFieldDescriptor (TX1 k).2.2.1 = some (tyX1 k) := by decide +kernel
abbrev cX1_init : ByteArray := prog_3_method_1_code
def yX1_init : MethodName := ⟨RX1, "<init>", "()V"⟩
abbrev cX1_add : ByteArray := prog_3_method_2_code
def yX1_add : MethodName := ⟨RX1, "add", "(C)Z"⟩
abbrev cX1_clear : ByteArray := prog_3_method_3_code
def yX1_clear : MethodName := ⟨RX1, "clear", "()I"⟩
abbrev cX1_wordOf : ByteArray := prog_3_method_4_code
def yX1_wordOf : MethodName := ⟨RX1, "wordOf", "(I)I"⟩
abbrev cX1_firstOf : ByteArray := prog_3_method_5_code
def yX1_firstOf : MethodName := ⟨RX1, "firstOf", "(I)I"⟩
abbrev cX1_secondOf : ByteArray := prog_3_method_6_code
def yX1_secondOf : MethodName := ⟨RX1, "secondOf", "(I)I"⟩
abbrev cX1_thirdOf : ByteArray := prog_3_method_7_code
def yX1_thirdOf : MethodName := ⟨RX1, "thirdOf", "(I)I"⟩
abbrev cX1_read : ByteArray := prog_3_method_8_code
def yX1_read : MethodName := ⟨RX1, "read", "()Z"⟩
abbrev cX1_readOrder : ByteArray := prog_3_method_9_code
def yX1_readOrder : MethodName := ⟨RX1, "readOrder", "()Z"⟩
abbrev cX1_readWord : ByteArray := prog_3_method_10_code
def yX1_readWord : MethodName := ⟨RX1, "readWord", "()I"⟩
abbrev cX1_alikeFromHere : ByteArray := prog_3_method_11_code
def yX1_alikeFromHere : MethodName := ⟨RX1, "alikeFromHere", "(Ljava/lang/String;)I"⟩
abbrev cX1_lettersOf : ByteArray := prog_3_method_12_code
def yX1_lettersOf : MethodName := ⟨RX1, "lettersOf", "(I)Ljava/lang/String;"⟩
abbrev cX1_readNumber : ByteArray := prog_3_method_13_code
def yX1_readNumber : MethodName := ⟨RX1, "readNumber", "([II)Z"⟩
abbrev cX1_readMoreDigits : ByteArray := prog_3_method_14_code
def yX1_readMoreDigits : MethodName := ⟨RX1, "readMoreDigits", "(II)I"⟩
abbrev cX1_readCells : ByteArray := prog_3_method_15_code
def yX1_readCells : MethodName := ⟨RX1, "readCells", "()Z"⟩
abbrev cX1_readSign : ByteArray := prog_3_method_16_code
def yX1_readSign : MethodName := ⟨RX1, "readSign", "(C)Z"⟩
abbrev cX1_signAt : ByteArray := prog_3_method_17_code
def yX1_signAt : MethodName := ⟨RX1, "signAt", "(I)I"⟩
abbrev cX1_digitAt : ByteArray := prog_3_method_18_code
def yX1_digitAt : MethodName := ⟨RX1, "digitAt", "(I)I"⟩
def RX2 : String := "RootedDeltas$Reach"
def TX2 : u_T := fun k => match k with
  | 0 => ("RootedDeltas$Reach", "reached", "I", false)
  | 1 => ("RootedDeltas$Reach", "steps", "[I", true)
  | 2 => ("RootedDeltas$Reach", "cells", "[I", true)
  | _ => ("RootedDeltas$Reach", "before", "[I", true)
def tyX2 : Nat → FieldType := fun k => match k with
  | 0 => .int
  | 1 => .array .int
  | 2 => .array .int
  | _ => .array .int
abbrev wsX20 : List Cond := u_ws RX2 TX2 4
theorem nmX2 : ∀ a, a < 4 → ∀ b, b < 4 → a ≠ b → (TX2 a).2.1 ≠ (TX2 b).2.1 := by decide +kernel
theorem tyX2_ok : ∀ k, k < 4 → parseFieldDescriptor (TX2 k).2.2.1 = some (tyX2 k) := by decide +kernel
abbrev cX2_init : ByteArray := prog_4_method_1_code
def yX2_init : MethodName := ⟨RX2, "<init>", "()V"⟩
abbrev cX2_spread : ByteArray := prog_4_method_2_code
def yX2_spread : MethodName := ⟨RX2, "spread", "(LRootedDeltas$State;I)V"⟩
abbrev cX2_spreadAlong : ByteArray := prog_4_method_3_code
def yX2_spreadAlong : MethodName := ⟨RX2, "spreadAlong", "(LRootedDeltas$State;I)V"⟩
abbrev cX2_rootReached : ByteArray := prog_4_method_4_code
def yX2_rootReached : MethodName := ⟨RX2, "rootReached", "(LRootedDeltas$State;)I"⟩
abbrev cX2_stepsTo : ByteArray := prog_4_method_5_code
def yX2_stepsTo : MethodName := ⟨RX2, "stepsTo", "(I)I"⟩
abbrev cX2_cellsTo : ByteArray := prog_4_method_6_code
def yX2_cellsTo : MethodName := ⟨RX2, "cellsTo", "(I)I"⟩
abbrev cX2_towardsStart : ByteArray := prog_4_method_7_code
def yX2_towardsStart : MethodName := ⟨RX2, "towardsStart", "(II)I"⟩
abbrev cX2_farthest : ByteArray := prog_4_method_8_code
def yX2_farthest : MethodName := ⟨RX2, "farthest", "()I"⟩
def RX3 : String := "RootedDeltas$Rows"
def TX3 : u_T := fun k => match k with
  | _ => ("", "", "", false)
def tyX3 : Nat → FieldType := fun k => match k with
  | _ => .int
abbrev wsX30 : List Cond := u_ws RX3 TX3 0
theorem nmX3 : ∀ a, a < 0 → ∀ b, b < 0 → a ≠ b → (TX3 a).2.1 ≠ (TX3 b).2.1 := by decide +kernel
theorem tyX3_ok : ∀ k, k < 0 → parseFieldDescriptor (TX3 k).2.2.1 = some (tyX3 k) := by decide +kernel
abbrev cX3_at : ByteArray := prog_5_method_2_code
def yX3_at : MethodName := ⟨RX3, "at", "([II)I"⟩
abbrev cX3_put : ByteArray := prog_5_method_3_code
def yX3_put : MethodName := ⟨RX3, "put", "([III)V"⟩
abbrev cX3_copy : ByteArray := prog_5_method_4_code
def yX3_copy : MethodName := ⟨RX3, "copy", "([I[I)V"⟩
def RX4 : String := "RootedDeltas$Sets"
def TX4 : u_T := fun k => match k with
  | _ => ("", "", "", false)
def tyX4 : Nat → FieldType := fun k => match k with
  | _ => .int
abbrev wsX40 : List Cond := u_ws RX4 TX4 0
theorem nmX4 : ∀ a, a < 0 → ∀ b, b < 0 → a ≠ b → (TX4 a).2.1 ≠ (TX4 b).2.1 := by decide +kernel
theorem tyX4_ok : ∀ k, k < 0 → parseFieldDescriptor (TX4 k).2.2.1 = some (tyX4 k) := by decide +kernel
abbrev cX4_of : ByteArray := prog_6_method_2_code
def yX4_of : MethodName := ⟨RX4, "of", "(I)I"⟩
abbrev cX4_isIn : ByteArray := prog_6_method_3_code
def yX4_isIn : MethodName := ⟨RX4, "isIn", "(II)Z"⟩
def RX5 : String := "RootedDeltas$State"
def TX5 : u_T := fun k => match k with
  | 0 => ("RootedDeltas$State", "versions", "I", false)
  | 1 => ("RootedDeltas$State", "kept", "I", false)
  | 2 => ("RootedDeltas$State", "roots", "I", false)
  | 3 => ("RootedDeltas$State", "source", "[I", true)
  | 4 => ("RootedDeltas$State", "difference", "[I", true)
  | 5 => ("RootedDeltas$State", "asked", "[I", true)
  | 6 => ("RootedDeltas$State", "numbers", "[I", true)
  | 7 => ("RootedDeltas$State", "rule", "I", false)
  | 8 => ("RootedDeltas$State", "mostSteps", "I", false)
  | 9 => ("RootedDeltas$State", "askings", "I", false)
  | 10 => ("RootedDeltas$State", "costs", "I", false)
  | 11 => ("RootedDeltas$State", "rootChanges", "I", false)
  | _ => ("RootedDeltas$State", "wayCuts", "I", false)
def tyX5 : Nat → FieldType := fun k => match k with
  | 0 => .int
  | 1 => .int
  | 2 => .int
  | 3 => .array .int
  | 4 => .array .int
  | 5 => .array .int
  | 6 => .array .int
  | 7 => .int
  | 8 => .int
  | 9 => .int
  | 10 => .int
  | 11 => .int
  | _ => .int
abbrev wsX50 : List Cond := u_ws RX5 TX5 13
theorem nmX5 : ∀ a, a < 13 → ∀ b, b < 13 → a ≠ b → (TX5 a).2.1 ≠ (TX5 b).2.1 := by decide +kernel
theorem tyX5_ok : ∀ k, k < 13 → parseFieldDescriptor (TX5 k).2.2.1 = some (tyX5 k) := by decide +kernel
abbrev cX5_init : ByteArray := prog_7_method_1_code
def yX5_init : MethodName := ⟨RX5, "<init>", "()V"⟩
abbrev cX5_copyFrom : ByteArray := prog_7_method_2_code
def yX5_copyFrom : MethodName := ⟨RX5, "copyFrom", "(LRootedDeltas$State;)V"⟩
abbrev cX5_has : ByteArray := prog_7_method_3_code
def yX5_has : MethodName := ⟨RX5, "has", "(I)Z"⟩
abbrev cX5_isKept : ByteArray := prog_7_method_4_code
def yX5_isKept : MethodName := ⟨RX5, "isKept", "(I)Z"⟩
abbrev cX5_isRoot : ByteArray := prog_7_method_5_code
def yX5_isRoot : MethodName := ⟨RX5, "isRoot", "(I)Z"⟩
abbrev cX5_sourceOf : ByteArray := prog_7_method_6_code
def yX5_sourceOf : MethodName := ⟨RX5, "sourceOf", "(I)I"⟩
abbrev cX5_differenceOf : ByteArray := prog_7_method_7_code
def yX5_differenceOf : MethodName := ⟨RX5, "differenceOf", "(I)I"⟩
abbrev cX5_askedFor : ByteArray := prog_7_method_8_code
def yX5_askedFor : MethodName := ⟨RX5, "askedFor", "(I)I"⟩
abbrev cX5_numberIn : ByteArray := prog_7_method_9_code
def yX5_numberIn : MethodName := ⟨RX5, "numberIn", "(II)I"⟩
abbrev cX5_putNumber : ByteArray := prog_7_method_10_code
def yX5_putNumber : MethodName := ⟨RX5, "putNumber", "(III)V"⟩
abbrev cX5_copyCells : ByteArray := prog_7_method_11_code
def yX5_copyCells : MethodName := ⟨RX5, "copyCells", "(III)V"⟩
abbrev cX5_unlikeCells : ByteArray := prog_7_method_12_code
def yX5_unlikeCells : MethodName := ⟨RX5, "unlikeCells", "(II)I"⟩
abbrev cX5_hang : ByteArray := prog_7_method_13_code
def yX5_hang : MethodName := ⟨RX5, "hang", "(II)V"⟩
abbrev cX5_drop : ByteArray := prog_7_method_14_code
def yX5_drop : MethodName := ⟨RX5, "drop", "(I)V"⟩
abbrev cX5_keepDifference : ByteArray := prog_7_method_15_code
def yX5_keepDifference : MethodName := ⟨RX5, "keepDifference", "(I)V"⟩
abbrev cX5_cutDifference : ByteArray := prog_7_method_16_code
def yX5_cutDifference : MethodName := ⟨RX5, "cutDifference", "(I)V"⟩
abbrev cX5_cutBetween : ByteArray := prog_7_method_17_code
def yX5_cutBetween : MethodName := ⟨RX5, "cutBetween", "(II)V"⟩
abbrev cX5_addRoot : ByteArray := prog_7_method_18_code
def yX5_addRoot : MethodName := ⟨RX5, "addRoot", "(I)V"⟩
abbrev cX5_dropRoot : ByteArray := prog_7_method_19_code
def yX5_dropRoot : MethodName := ⟨RX5, "dropRoot", "(I)V"⟩
abbrev cX5_moveRoot : ByteArray := prog_7_method_20_code
def yX5_moveRoot : MethodName := ⟨RX5, "moveRoot", "(II)V"⟩
abbrev cX5_noteAsking : ByteArray := prog_7_method_21_code
def yX5_noteAsking : MethodName := ⟨RX5, "noteAsking", "(II)V"⟩
abbrev cX5_lowestFree : ByteArray := prog_7_method_22_code
def yX5_lowestFree : MethodName := ⟨RX5, "lowestFree", "()I"⟩
abbrev cX5_howMany : ByteArray := prog_7_method_23_code
def yX5_howMany : MethodName := ⟨RX5, "howMany", "()I"⟩
abbrev cX5_trees : ByteArray := prog_7_method_24_code
def yX5_trees : MethodName := ⟨RX5, "trees", "()I"⟩
abbrev cX5_cuts : ByteArray := prog_7_method_25_code
def yX5_cuts : MethodName := ⟨RX5, "cuts", "()I"⟩
abbrev cX5_madeOf : ByteArray := prog_7_method_26_code
def yX5_madeOf : MethodName := ⟨RX5, "madeOf", "(I)I"⟩
abbrev cX5_ancestors : ByteArray := prog_7_method_27_code
def yX5_ancestors : MethodName := ⟨RX5, "ancestors", "(I)I"⟩
abbrev cX5_roomOf : ByteArray := prog_7_method_28_code
def yX5_roomOf : MethodName := ⟨RX5, "roomOf", "(I)I"⟩
abbrev cX5_room : ByteArray := prog_7_method_29_code
def yX5_room : MethodName := ⟨RX5, "room", "()I"⟩
abbrev cX5_neverAsked : ByteArray := prog_7_method_30_code
def yX5_neverAsked : MethodName := ⟨RX5, "neverAsked", "()I"⟩
abbrev cX5_unlikeRows : ByteArray := prog_7_method_31_code
def yX5_unlikeRows : MethodName := ⟨RX5, "unlikeRows", "()I"⟩
abbrev cX5_hasRowBelow : ByteArray := prog_7_method_32_code
def yX5_hasRowBelow : MethodName := ⟨RX5, "hasRowBelow", "(I)Z"⟩
def RX6 : String := "RootedDeltas"
def TX6 : u_T := fun k => match k with
  | 0 => ("RootedDeltas", "now", "LRootedDeltas$State;", true)
  | 1 => ("RootedDeltas", "before", "LRootedDeltas$State;", true)
  | 2 => ("RootedDeltas", "snapshot", "LRootedDeltas$State;", true)
  | 3 => ("RootedDeltas", "hasSnapshot", "Z", false)
  | 4 => ("RootedDeltas", "history", "LRootedDeltas$History;", true)
  | 5 => ("RootedDeltas", "reach", "LRootedDeltas$Reach;", true)
  | 6 => ("RootedDeltas", "orders", "LRootedDeltas$Orders;", true)
  | 7 => ("RootedDeltas", "hasStopped", "Z", false)
  | 8 => ("RootedDeltas", "stoppedOrder", "I", false)
  | _ => ("RootedDeltas", "stoppedError", "I", false)
def tyX6 : Nat → FieldType := fun k => match k with
  | 0 => .object "RootedDeltas$State"
  | 1 => .object "RootedDeltas$State"
  | 2 => .object "RootedDeltas$State"
  | 3 => .boolean
  | 4 => .object "RootedDeltas$History"
  | 5 => .object "RootedDeltas$Reach"
  | 6 => .object "RootedDeltas$Orders"
  | 7 => .boolean
  | 8 => .int
  | _ => .int
abbrev wsX60 : List Cond := u_ws RX6 TX6 10
theorem nmX6 : ∀ a, a < 10 → ∀ b, b < 10 → a ≠ b → (TX6 a).2.1 ≠ (TX6 b).2.1 := by decide +kernel
theorem tyX6_ok : ∀ k, k < 10 → parseFieldDescriptor (TX6 k).2.2.1 = some (tyX6 k) := by decide +kernel
abbrev cX6_init : ByteArray := prog_1_method_1_code
def yX6_init : MethodName := ⟨RX6, "<init>", "()V"⟩
abbrev cX6_make : ByteArray := prog_1_method_2_code
def yX6_make : MethodName := ⟨RX6, "make", "(III)I"⟩
abbrev cX6_mix : ByteArray := prog_1_method_3_code
def yX6_mix : MethodName := ⟨RX6, "mix", "(III)I"⟩
abbrev cX6_remove : ByteArray := prog_1_method_4_code
def yX6_remove : MethodName := ⟨RX6, "remove", "(I)I"⟩
abbrev cX6_ask : ByteArray := prog_1_method_5_code
def yX6_ask : MethodName := ⟨RX6, "ask", "(I)I"⟩
abbrev cX6_root : ByteArray := prog_1_method_6_code
def yX6_root : MethodName := ⟨RX6, "root", "(I)I"⟩
abbrev cX6_cut : ByteArray := prog_1_method_7_code
def yX6_cut : MethodName := ⟨RX6, "cut", "(I)I"⟩
abbrev cX6_join : ByteArray := prog_1_method_8_code
def yX6_join : MethodName := ⟨RX6, "join", "(I)I"⟩
abbrev cX6_set : ByteArray := prog_1_method_9_code
def yX6_set : MethodName := ⟨RX6, "set", "(II)I"⟩
abbrev cX6_type : ByteArray := prog_1_method_10_code
def yX6_type : MethodName := ⟨RX6, "type", "(C)I"⟩
abbrev cX6_clearText : ByteArray := prog_1_method_11_code
def yX6_clearText : MethodName := ⟨RX6, "clearText", "()I"⟩
abbrev cX6_perform : ByteArray := prog_1_method_12_code
def yX6_perform : MethodName := ⟨RX6, "perform", "()I"⟩
abbrev cX6_stopped : ByteArray := prog_1_method_13_code
def yX6_stopped : MethodName := ⟨RX6, "stopped", "(I)I"⟩
abbrev cX6_undo : ByteArray := prog_1_method_14_code
def yX6_undo : MethodName := ⟨RX6, "undo", "()I"⟩
abbrev cX6_keep : ByteArray := prog_1_method_15_code
def yX6_keep : MethodName := ⟨RX6, "keep", "()I"⟩
abbrev cX6_restore : ByteArray := prog_1_method_16_code
def yX6_restore : MethodName := ⟨RX6, "restore", "()I"⟩
abbrev cX6_cell : ByteArray := prog_1_method_17_code
def yX6_cell : MethodName := ⟨RX6, "cell", "(II)I"⟩
abbrev cX6_version : ByteArray := prog_1_method_18_code
def yX6_version : MethodName := ⟨RX6, "version", "(II)I"⟩
abbrev cX6_way : ByteArray := prog_1_method_19_code
def yX6_way : MethodName := ⟨RX6, "way", "(II)I"⟩
abbrev cX6_unlike : ByteArray := prog_1_method_20_code
def yX6_unlike : MethodName := ⟨RX6, "unlike", "(II)I"⟩
abbrev cX6_common : ByteArray := prog_1_method_21_code
def yX6_common : MethodName := ⟨RX6, "common", "(II)I"⟩
abbrev cX6_ifRoot : ByteArray := prog_1_method_22_code
def yX6_ifRoot : MethodName := ⟨RX6, "ifRoot", "(I)I"⟩
abbrev cX6_bestRoot : ByteArray := prog_1_method_23_code
def yX6_bestRoot : MethodName := ⟨RX6, "bestRoot", "(I)I"⟩
abbrev cX6_ifCut : ByteArray := prog_1_method_24_code
def yX6_ifCut : MethodName := ⟨RX6, "ifCut", "(I)I"⟩
abbrev cX6_count : ByteArray := prog_1_method_25_code
def yX6_count : MethodName := ⟨RX6, "count", "(I)I"⟩
abbrev cX6_beginAct : ByteArray := prog_1_method_26_code
def yX6_beginAct : MethodName := ⟨RX6, "beginAct", "()V"⟩
abbrev cX6_endAct : ByteArray := prog_1_method_27_code
def yX6_endAct : MethodName := ⟨RX6, "endAct", "(I)I"⟩
abbrev cX6_tryMake : ByteArray := prog_1_method_28_code
def yX6_tryMake : MethodName := ⟨RX6, "tryMake", "(III)I"⟩
abbrev cX6_tryMix : ByteArray := prog_1_method_29_code
def yX6_tryMix : MethodName := ⟨RX6, "tryMix", "(III)I"⟩
abbrev cX6_tryAsk : ByteArray := prog_1_method_30_code
def yX6_tryAsk : MethodName := ⟨RX6, "tryAsk", "(I)I"⟩
abbrev cX6_rulePrefers : ByteArray := prog_1_method_31_code
def yX6_rulePrefers : MethodName := ⟨RX6, "rulePrefers", "(II)Z"⟩
abbrev cX6_tryRoot : ByteArray := prog_1_method_32_code
def yX6_tryRoot : MethodName := ⟨RX6, "tryRoot", "(I)I"⟩
abbrev cX6_tryJoin : ByteArray := prog_1_method_33_code
def yX6_tryJoin : MethodName := ⟨RX6, "tryJoin", "(I)I"⟩
abbrev cX6_giveRoot : ByteArray := prog_1_method_34_code
def yX6_giveRoot : MethodName := ⟨RX6, "giveRoot", "(II)V"⟩
abbrev cX6_stopAt : ByteArray := prog_1_method_35_code
def yX6_stopAt : MethodName := ⟨RX6, "stopAt", "(II)I"⟩
abbrev cX6_carryOut : ByteArray := prog_1_method_36_code
def yX6_carryOut : MethodName := ⟨RX6, "carryOut", "(I)I"⟩
abbrev cX6_tellOfTree : ByteArray := prog_1_method_37_code
def yX6_tellOfTree : MethodName := ⟨RX6, "tellOfTree", "(II)I"⟩
abbrev cX6_costFrom : ByteArray := prog_1_method_38_code
def yX6_costFrom : MethodName := ⟨RX6, "costFrom", "(I)I"⟩
abbrev cX6_longestWay : ByteArray := prog_1_method_39_code
def yX6_longestWay : MethodName := ⟨RX6, "longestWay", "()I"⟩
abbrev cX6_isCell : ByteArray := prog_1_method_40_code
def yX6_isCell : MethodName := ⟨RX6, "isCell", "(I)Z"⟩
def RX7 : String := "RootedDeltasModel"
def TX7 : u_T := fun k => match k with
  | 0 => ("RootedDeltasModel", "s", "[I", true)
  | 1 => ("RootedDeltasModel", "aside", "[I", true)
  | 2 => ("RootedDeltasModel", "before", "[I", true)
  | 3 => ("RootedDeltasModel", "known", "I", false)
  | 4 => ("RootedDeltasModel", "kept", "[I", true)
  | 5 => ("RootedDeltasModel", "isKept", "Z", false)
  | 6 => ("RootedDeltasModel", "text", "[I", true)
  | 7 => ("RootedDeltasModel", "length", "I", false)
  | 8 => ("RootedDeltasModel", "stopPlace", "I", false)
  | 9 => ("RootedDeltasModel", "stopError", "I", false)
  | 10 => ("RootedDeltasModel", "way", "[I", true)
  | 11 => ("RootedDeltasModel", "steps", "I", false)
  | 12 => ("RootedDeltasModel", "wayCells", "I", false)
  | 13 => ("RootedDeltasModel", "place", "I", false)
  | 14 => ("RootedDeltasModel", "isWrong", "Z", false)
  | 15 => ("RootedDeltasModel", "letter", "I", false)
  | 16 => ("RootedDeltasModel", "one", "I", false)
  | 17 => ("RootedDeltasModel", "two", "I", false)
  | _ => ("RootedDeltasModel", "three", "I", false)
def tyX7 : Nat → FieldType := fun k => match k with
  | 0 => .array .int
  | 1 => .array .int
  | 2 => .array .int
  | 3 => .int
  | 4 => .array .int
  | 5 => .boolean
  | 6 => .array .int
  | 7 => .int
  | 8 => .int
  | 9 => .int
  | 10 => .array .int
  | 11 => .int
  | 12 => .int
  | 13 => .int
  | 14 => .boolean
  | 15 => .int
  | 16 => .int
  | 17 => .int
  | _ => .int
abbrev wsX70 : List Cond := u_ws RX7 TX7 19
theorem nmX7 : ∀ a, a < 19 → ∀ b, b < 19 → a ≠ b → (TX7 a).2.1 ≠ (TX7 b).2.1 := by decide +kernel
theorem tyX7_ok : ∀ k, k < 19 → parseFieldDescriptor (TX7 k).2.2.1 = some (tyX7 k) := by decide +kernel
abbrev cX7_init : ByteArray := prog_9_method_1_code
def yX7_init : MethodName := ⟨RX7, "<init>", "()V"⟩
abbrev cX7_in : ByteArray := prog_9_method_3_code
def yX7_in : MethodName := ⟨RX7, "in", "(III)Z"⟩
abbrev cX7_of : ByteArray := prog_9_method_4_code
def yX7_of : MethodName := ⟨RX7, "of", "(II)I"⟩
abbrev cX7_isVersion : ByteArray := prog_9_method_5_code
def yX7_isVersion : MethodName := ⟨RX7, "isVersion", "(I)Z"⟩
abbrev cX7_putAside : ByteArray := prog_9_method_6_code
def yX7_putAside : MethodName := ⟨RX7, "putAside", "()V"⟩
abbrev cX7_putBack : ByteArray := prog_9_method_7_code
def yX7_putBack : MethodName := ⟨RX7, "putBack", "()V"⟩
abbrev cX7_act : ByteArray := prog_9_method_8_code
def yX7_act : MethodName := ⟨RX7, "act", "(I)I"⟩
abbrev cX7_cellsUnlike : ByteArray := prog_9_method_9_code
def yX7_cellsUnlike : MethodName := ⟨RX7, "cellsUnlike", "(II)I"⟩
abbrev cX7_unlikeCells : ByteArray := prog_9_method_10_code
def yX7_unlikeCells : MethodName := ⟨RX7, "unlikeCells", "(II)I"⟩
abbrev cX7_hangs : ByteArray := prog_9_method_11_code
def yX7_hangs : MethodName := ⟨RX7, "hangs", "(I)Z"⟩
abbrev cX7_top : ByteArray := prog_9_method_12_code
def yX7_top : MethodName := ⟨RX7, "top", "(I)I"⟩
abbrev cX7_rootOf : ByteArray := prog_9_method_13_code
def yX7_rootOf : MethodName := ⟨RX7, "rootOf", "(I)I"⟩
abbrev cX7_comesOf : ByteArray := prog_9_method_14_code
def yX7_comesOf : MethodName := ⟨RX7, "comesOf", "(II)Z"⟩
abbrev cX7_layWay : ByteArray := prog_9_method_15_code
def yX7_layWay : MethodName := ⟨RX7, "layWay", "(II)V"⟩
abbrev cX7_cellsBetween : ByteArray := prog_9_method_16_code
def yX7_cellsBetween : MethodName := ⟨RX7, "cellsBetween", "(II)I"⟩
abbrev cX7_versions : ByteArray := prog_9_method_17_code
def yX7_versions : MethodName := ⟨RX7, "versions", "(I)I"⟩
abbrev cX7_madeOf : ByteArray := prog_9_method_18_code
def yX7_madeOf : MethodName := ⟨RX7, "madeOf", "(I)I"⟩
abbrev cX7_size : ByteArray := prog_9_method_19_code
def yX7_size : MethodName := ⟨RX7, "size", "(I)I"⟩
abbrev cX7_room : ByteArray := prog_9_method_20_code
def yX7_room : MethodName := ⟨RX7, "room", "()I"⟩
abbrev cX7_free : ByteArray := prog_9_method_21_code
def yX7_free : MethodName := ⟨RX7, "free", "()I"⟩
abbrev cX7_comes : ByteArray := prog_9_method_22_code
def yX7_comes : MethodName := ⟨RX7, "comes", "(I)I"⟩
abbrev cX7_makes : ByteArray := prog_9_method_23_code
def yX7_makes : MethodName := ⟨RX7, "makes", "(III)I"⟩
abbrev cX7_mixes : ByteArray := prog_9_method_24_code
def yX7_mixes : MethodName := ⟨RX7, "mixes", "(III)I"⟩
abbrev cX7_removes : ByteArray := prog_9_method_25_code
def yX7_removes : MethodName := ⟨RX7, "removes", "(I)I"⟩
abbrev cX7_becomesRoot : ByteArray := prog_9_method_26_code
def yX7_becomesRoot : MethodName := ⟨RX7, "becomesRoot", "(I)V"⟩
abbrev cX7_asks : ByteArray := prog_9_method_27_code
def yX7_asks : MethodName := ⟨RX7, "asks", "(I)I"⟩
abbrev cX7_roots : ByteArray := prog_9_method_28_code
def yX7_roots : MethodName := ⟨RX7, "roots", "(I)I"⟩
abbrev cX7_cuts : ByteArray := prog_9_method_29_code
def yX7_cuts : MethodName := ⟨RX7, "cuts", "(I)I"⟩
abbrev cX7_joins : ByteArray := prog_9_method_30_code
def yX7_joins : MethodName := ⟨RX7, "joins", "(I)I"⟩
abbrev cX7_sets : ByteArray := prog_9_method_31_code
def yX7_sets : MethodName := ⟨RX7, "sets", "(II)I"⟩
abbrev cX7_make : ByteArray := prog_9_method_32_code
def yX7_make : MethodName := ⟨RX7, "make", "(III)I"⟩
abbrev cX7_mix : ByteArray := prog_9_method_33_code
def yX7_mix : MethodName := ⟨RX7, "mix", "(III)I"⟩
abbrev cX7_remove : ByteArray := prog_9_method_34_code
def yX7_remove : MethodName := ⟨RX7, "remove", "(I)I"⟩
abbrev cX7_ask : ByteArray := prog_9_method_35_code
def yX7_ask : MethodName := ⟨RX7, "ask", "(I)I"⟩
abbrev cX7_root : ByteArray := prog_9_method_36_code
def yX7_root : MethodName := ⟨RX7, "root", "(I)I"⟩
abbrev cX7_cut : ByteArray := prog_9_method_37_code
def yX7_cut : MethodName := ⟨RX7, "cut", "(I)I"⟩
abbrev cX7_join : ByteArray := prog_9_method_38_code
def yX7_join : MethodName := ⟨RX7, "join", "(I)I"⟩
abbrev cX7_set : ByteArray := prog_9_method_39_code
def yX7_set : MethodName := ⟨RX7, "set", "(II)I"⟩
abbrev cX7_type : ByteArray := prog_9_method_40_code
def yX7_type : MethodName := ⟨RX7, "type", "(C)I"⟩
abbrev cX7_clearText : ByteArray := prog_9_method_41_code
def yX7_clearText : MethodName := ⟨RX7, "clearText", "()I"⟩
abbrev cX7_sign : ByteArray := prog_9_method_42_code
def yX7_sign : MethodName := ⟨RX7, "sign", "(I)V"⟩
abbrev cX7_isNext : ByteArray := prog_9_method_43_code
def yX7_isNext : MethodName := ⟨RX7, "isNext", "(II)Z"⟩
abbrev cX7_signs : ByteArray := prog_9_method_44_code
def yX7_signs : MethodName := ⟨RX7, "signs", "(III)V"⟩
abbrev cX7_number : ByteArray := prog_9_method_45_code
def yX7_number : MethodName := ⟨RX7, "number", "(I)I"⟩
abbrev cX7_cells : ByteArray := prog_9_method_46_code
def yX7_cells : MethodName := ⟨RX7, "cells", "()I"⟩
abbrev cX7_order : ByteArray := prog_9_method_47_code
def yX7_order : MethodName := ⟨RX7, "order", "()V"⟩
abbrev cX7_does : ByteArray := prog_9_method_48_code
def yX7_does : MethodName := ⟨RX7, "does", "()I"⟩
abbrev cX7_go : ByteArray := prog_9_method_49_code
def yX7_go : MethodName := ⟨RX7, "go", "(Z)I"⟩
abbrev cX7_perform : ByteArray := prog_9_method_50_code
def yX7_perform : MethodName := ⟨RX7, "perform", "()I"⟩
abbrev cX7_stopped : ByteArray := prog_9_method_51_code
def yX7_stopped : MethodName := ⟨RX7, "stopped", "(I)I"⟩
abbrev cX7_undo : ByteArray := prog_9_method_52_code
def yX7_undo : MethodName := ⟨RX7, "undo", "()I"⟩
abbrev cX7_keep : ByteArray := prog_9_method_53_code
def yX7_keep : MethodName := ⟨RX7, "keep", "()I"⟩
abbrev cX7_restore : ByteArray := prog_9_method_54_code
def yX7_restore : MethodName := ⟨RX7, "restore", "()I"⟩
abbrev cX7_cell : ByteArray := prog_9_method_55_code
def yX7_cell : MethodName := ⟨RX7, "cell", "(II)I"⟩
abbrev cX7_version : ByteArray := prog_9_method_56_code
def yX7_version : MethodName := ⟨RX7, "version", "(II)I"⟩
abbrev cX7_way : ByteArray := prog_9_method_57_code
def yX7_way : MethodName := ⟨RX7, "way", "(II)I"⟩
abbrev cX7_unlike : ByteArray := prog_9_method_58_code
def yX7_unlike : MethodName := ⟨RX7, "unlike", "(II)I"⟩
abbrev cX7_isAhead : ByteArray := prog_9_method_59_code
def yX7_isAhead : MethodName := ⟨RX7, "isAhead", "(II)Z"⟩
abbrev cX7_common : ByteArray := prog_9_method_60_code
def yX7_common : MethodName := ⟨RX7, "common", "(II)I"⟩
abbrev cX7_costOf : ByteArray := prog_9_method_61_code
def yX7_costOf : MethodName := ⟨RX7, "costOf", "(I)I"⟩
abbrev cX7_ifRoot : ByteArray := prog_9_method_62_code
def yX7_ifRoot : MethodName := ⟨RX7, "ifRoot", "(I)I"⟩
abbrev cX7_bestRoot : ByteArray := prog_9_method_63_code
def yX7_bestRoot : MethodName := ⟨RX7, "bestRoot", "(I)I"⟩
abbrev cX7_ifCut : ByteArray := prog_9_method_64_code
def yX7_ifCut : MethodName := ⟨RX7, "ifCut", "(I)I"⟩
abbrev cX7_mostSteps : ByteArray := prog_9_method_65_code
def yX7_mostSteps : MethodName := ⟨RX7, "mostSteps", "()I"⟩
abbrev cX7_rows : ByteArray := prog_9_method_66_code
def yX7_rows : MethodName := ⟨RX7, "rows", "()I"⟩
abbrev cX7_count : ByteArray := prog_9_method_67_code
def yX7_count : MethodName := ⟨RX7, "count", "(I)I"⟩
def RJ6 : String := "java/lang/Integer"
def TJ6 : u_T := fun k => match k with
  | _ => ("", "", "", false)
def tyJ6 : Nat → FieldType := fun k => match k with
  | _ => .int
abbrev wsJ60 : List Cond := u_ws RJ6 TJ6 0
theorem nmJ6 : ∀ a, a < 0 → ∀ b, b < 0 → a ≠ b → (TJ6 a).2.1 ≠ (TJ6 b).2.1 := by decide +kernel
theorem tyJ6_ok : ∀ k, k < 0 → parseFieldDescriptor (TJ6 k).2.2.1 = some (tyJ6 k) := by decide +kernel
abbrev cJ6_numberOfTrailingZeros_0f7a4 : ByteArray := prog_10_method_48_code
def yJ6_numberOfTrailingZeros_0f7a4 : MethodName := ⟨RJ6, "numberOfTrailingZeros", "(I)I"⟩
abbrev cJ6_bitCount_0f7a4 : ByteArray := prog_10_method_49_code
def yJ6_bitCount_0f7a4 : MethodName := ⟨RJ6, "bitCount", "(I)I"⟩
def RJ9 : String := "java/lang/Math"
def TJ9 : u_T := fun k => match k with
  | _ => ("", "", "", false)
def tyJ9 : Nat → FieldType := fun k => match k with
  | _ => .int
abbrev wsJ90 : List Cond := u_ws RJ9 TJ9 0
theorem nmJ9 : ∀ a, a < 0 → ∀ b, b < 0 → a ≠ b → (TJ9 a).2.1 ≠ (TJ9 b).2.1 := by decide +kernel
theorem tyJ9_ok : ∀ k, k < 0 → parseFieldDescriptor (TJ9 k).2.2.1 = some (tyJ9 k) := by decide +kernel
abbrev cJ9_max_7cf53 : ByteArray := prog_11_method_65_code
def yJ9_max_7cf53 : MethodName := ⟨RJ9, "max", "(II)I"⟩
abbrev cJ9_min_7cf53 : ByteArray := prog_11_method_69_code
def yJ9_min_7cf53 : MethodName := ⟨RJ9, "min", "(II)I"⟩
def RJ0 : String := "java/lang/String"
def TJ0 : u_T := fun k => match k with
  | _ => ("", "", "", false)
def tyJ0 : Nat → FieldType := fun k => match k with
  | _ => .int
abbrev wsJ00 : List Cond := u_ws RJ0 TJ0 0
theorem nmJ0 : ∀ a, a < 0 → ∀ b, b < 0 → a ≠ b → (TJ0 a).2.1 ≠ (TJ0 b).2.1 := by decide +kernel
theorem tyJ0_ok : ∀ k, k < 0 → parseFieldDescriptor (TJ0 k).2.2.1 = some (tyJ0 k) := by decide +kernel
abbrev cJ0_length_8abf5 : ByteArray := prog_12_method_54_code
def yJ0_length_8abf5 : MethodName := ⟨RJ0, "length", "()I"⟩
abbrev cJ0_charAt_5068e : ByteArray := prog_12_method_56_code
def yJ0_charAt_5068e : MethodName := ⟨RJ0, "charAt", "(I)C"⟩
abbrev cJ0_coder_7d493 : ByteArray := prog_12_method_152_code
def yJ0_coder_7d493 : MethodName := ⟨RJ0, "coder", "()B"⟩
abbrev cJ0_isLatin1_aae02 : ByteArray := prog_12_method_154_code
def yJ0_isLatin1_aae02 : MethodName := ⟨RJ0, "isLatin1", "()Z"⟩
abbrev cJ0_checkIndex_df160 : ByteArray := prog_12_method_155_code
def yJ0_checkIndex_df160 : MethodName := ⟨RJ0, "checkIndex", "(II)V"⟩
def RJ1 : String := "java/lang/StringLatin1"
def TJ1 : u_T := fun k => match k with
  | _ => ("", "", "", false)
def tyJ1 : Nat → FieldType := fun k => match k with
  | _ => .int
abbrev wsJ10 : List Cond := u_ws RJ1 TJ1 0
theorem nmJ1 : ∀ a, a < 0 → ∀ b, b < 0 → a ≠ b → (TJ1 a).2.1 ≠ (TJ1 b).2.1 := by decide +kernel
theorem tyJ1_ok : ∀ k, k < 0 → parseFieldDescriptor (TJ1 k).2.2.1 = some (tyJ1 k) := by decide +kernel
abbrev cJ1_charAt_3b067 : ByteArray := prog_13_method_2_code
def yJ1_charAt_3b067 : MethodName := ⟨RJ1, "charAt", "([BI)C"⟩
def RJ2 : String := "java/lang/StringUTF16"
def TJ2 : u_T := fun k => match k with
  | _ => ("", "", "", false)
def tyJ2 : Nat → FieldType := fun k => match k with
  | _ => .int
abbrev wsJ20 : List Cond := u_ws RJ2 TJ2 0
theorem nmJ2 : ∀ a, a < 0 → ∀ b, b < 0 → a ≠ b → (TJ2 a).2.1 ≠ (TJ2 b).2.1 := by decide +kernel
theorem tyJ2_ok : ∀ k, k < 0 → parseFieldDescriptor (TJ2 k).2.2.1 = some (tyJ2 k) := by decide +kernel
abbrev cJ2_getChar_3b067 : ByteArray := prog_14_method_5_code
def yJ2_getChar_3b067 : MethodName := ⟨RJ2, "getChar", "([BI)C"⟩
abbrev cJ2_length_9d52b : ByteArray := prog_14_method_6_code
def yJ2_length_9d52b : MethodName := ⟨RJ2, "length", "([B)I"⟩
abbrev cJ2_charAt_3b067 : ByteArray := prog_14_method_83_code
def yJ2_charAt_3b067 : MethodName := ⟨RJ2, "charAt", "([BI)C"⟩
abbrev cJ2_checkIndex_2214a : ByteArray := prog_14_method_91_code
def yJ2_checkIndex_2214a : MethodName := ⟨RJ2, "checkIndex", "(I[B)V"⟩
def RJ10 : String := "java/lang/System"
def TJ10 : u_T := fun k => match k with
  | _ => ("", "", "", false)
def tyJ10 : Nat → FieldType := fun k => match k with
  | _ => .int
abbrev wsJ100 : List Cond := u_ws RJ10 TJ10 0
theorem nmJ10 : ∀ a, a < 0 → ∀ b, b < 0 → a ≠ b → (TJ10 a).2.1 ≠ (TJ10 b).2.1 := by decide +kernel
theorem tyJ10_ok : ∀ k, k < 0 → parseFieldDescriptor (TJ10 k).2.2.1 = some (tyJ10 k) := by decide +kernel
def RJ3 : String := "jdk/internal/util/Preconditions"
def TJ3 : u_T := fun k => match k with
  | _ => ("", "", "", false)
def tyJ3 : Nat → FieldType := fun k => match k with
  | _ => .int
abbrev wsJ30 : List Cond := u_ws RJ3 TJ3 0
theorem nmJ3 : ∀ a, a < 0 → ∀ b, b < 0 → a ≠ b → (TJ3 a).2.1 ≠ (TJ3 b).2.1 := by decide +kernel
theorem tyJ3_ok : ∀ k, k < 0 → parseFieldDescriptor (TJ3 k).2.2.1 = some (tyJ3 k) := by decide +kernel
abbrev cJ3_checkIndex_8e157 : ByteArray := prog_16_method_11_code
def yJ3_checkIndex_8e157 : MethodName := ⟨RJ3, "checkIndex", "(IILjava/util/function/BiFunction;)I"⟩
def RL : String := "RootedDeltasLaw"
abbrev cL_law : ByteArray := code
def yL_law : MethodName := ⟨RL, "law", "([I)Z"⟩
theorem dX0_init_0 : decode cX0_init 0 = .ok (.aload_n 0, 1) := by decide +kernel
theorem dX0_init_1 : decode cX0_init 1 = .ok (.invokespecial 3, 3) := by decide +kernel
theorem dX0_init_4 : decode cX0_init 4 = .ok (.aload_n 0, 1) := by decide +kernel
theorem dX0_init_5 : decode cX0_init 5 = .ok (.iconst 4, 1) := by decide +kernel
theorem dX0_init_6 : decode cX0_init 6 = .ok (.anewarray 9, 3) := by decide +kernel
theorem dX0_init_9 : decode cX0_init 9 = .ok (.putfield 11, 3) := by decide +kernel
theorem dX0_init_12 : decode cX0_init 12 = .ok (.iconst 0, 1) := by decide +kernel
theorem dX0_init_13 : decode cX0_init 13 = .ok (.istore_n 1, 1) := by decide +kernel
theorem dX0_init_14 : decode cX0_init 14 = .ok (.iload_n 1, 1) := by decide +kernel
theorem dX0_init_15 : decode cX0_init 15 = .ok (.aload_n 0, 1) := by decide +kernel
theorem dX0_init_16 : decode cX0_init 16 = .ok (.getfield 11, 3) := by decide +kernel
theorem dX0_init_19 : decode cX0_init 19 = .ok (.arraylength, 1) := by decide +kernel
theorem dX0_init_20 : decode cX0_init 20 = .ok (.if_icmp .ge 22, 3) := by decide +kernel
theorem dX0_init_23 : decode cX0_init 23 = .ok (.aload_n 0, 1) := by decide +kernel
theorem dX0_init_24 : decode cX0_init 24 = .ok (.getfield 11, 3) := by decide +kernel
theorem dX0_init_27 : decode cX0_init 27 = .ok (.iload_n 1, 1) := by decide +kernel
theorem dX0_init_28 : decode cX0_init 28 = .ok (.new 9, 3) := by decide +kernel
theorem dX0_init_31 : decode cX0_init 31 = .ok (.dup, 1) := by decide +kernel
theorem dX0_init_32 : decode cX0_init 32 = .ok (.invokespecial 17, 3) := by decide +kernel
theorem dX0_init_35 : decode cX0_init 35 = .ok (.aastore, 1) := by decide +kernel
theorem dX0_init_36 : decode cX0_init 36 = .ok (.iinc 1 1, 3) := by decide +kernel
theorem dX0_init_39 : decode cX0_init 39 = .ok (.goto (-25), 3) := by decide +kernel
theorem dX0_init_42 : decode cX0_init 42 = .ok (.return_, 1) := by decide +kernel
theorem dX0_record_0 : decode cX0_record 0 = .ok (.aload_n 0, 1) := by decide +kernel
theorem dX0_record_1 : decode cX0_record 1 = .ok (.getfield 18, 3) := by decide +kernel
theorem dX0_record_4 : decode cX0_record 4 = .ok (.iconst 4, 1) := by decide +kernel
theorem dX0_record_5 : decode cX0_record 5 = .ok (.if_icmp .lt 7, 3) := by decide +kernel
theorem dX0_record_8 : decode cX0_record 8 = .ok (.aload_n 0, 1) := by decide +kernel
theorem dX0_record_9 : decode cX0_record 9 = .ok (.invokevirtual 22, 3) := by decide +kernel
theorem dX0_record_12 : decode cX0_record 12 = .ok (.aload_n 0, 1) := by decide +kernel
theorem dX0_record_13 : decode cX0_record 13 = .ok (.aload_n 0, 1) := by decide +kernel
theorem dX0_record_14 : decode cX0_record 14 = .ok (.getfield 18, 3) := by decide +kernel
theorem dX0_record_17 : decode cX0_record 17 = .ok (.invokevirtual 25, 3) := by decide +kernel
theorem dX0_record_20 : decode cX0_record 20 = .ok (.astore_n 2, 1) := by decide +kernel
theorem dX0_record_21 : decode cX0_record 21 = .ok (.aload_n 2, 1) := by decide +kernel
theorem dX0_record_22 : decode cX0_record 22 = .ok (.ifnull 18, 3) := by decide +kernel
theorem dX0_record_25 : decode cX0_record 25 = .ok (.aload_n 2, 1) := by decide +kernel
theorem dX0_record_26 : decode cX0_record 26 = .ok (.aload_n 1, 1) := by decide +kernel
theorem dX0_record_27 : decode cX0_record 27 = .ok (.invokevirtual 29, 3) := by decide +kernel
theorem dX0_record_30 : decode cX0_record 30 = .ok (.aload_n 0, 1) := by decide +kernel
theorem dX0_record_31 : decode cX0_record 31 = .ok (.dup, 1) := by decide +kernel
theorem dX0_record_32 : decode cX0_record 32 = .ok (.getfield 18, 3) := by decide +kernel
theorem dX0_record_35 : decode cX0_record 35 = .ok (.iconst 1, 1) := by decide +kernel
theorem dX0_record_36 : decode cX0_record 36 = .ok (.iadd, 1) := by decide +kernel
theorem dX0_record_37 : decode cX0_record 37 = .ok (.putfield 18, 3) := by decide +kernel
theorem dX0_record_40 : decode cX0_record 40 = .ok (.return_, 1) := by decide +kernel
theorem dX0_takeLatest_0 : decode cX0_takeLatest 0 = .ok (.aload_n 0, 1) := by decide +kernel
theorem dX0_takeLatest_1 : decode cX0_takeLatest 1 = .ok (.aload_n 0, 1) := by decide +kernel
theorem dX0_takeLatest_2 : decode cX0_takeLatest 2 = .ok (.getfield 18, 3) := by decide +kernel
theorem dX0_takeLatest_5 : decode cX0_takeLatest 5 = .ok (.iconst 1, 1) := by decide +kernel
theorem dX0_takeLatest_6 : decode cX0_takeLatest 6 = .ok (.isub, 1) := by decide +kernel
theorem dX0_takeLatest_7 : decode cX0_takeLatest 7 = .ok (.invokevirtual 25, 3) := by decide +kernel
theorem dX0_takeLatest_10 : decode cX0_takeLatest 10 = .ok (.astore_n 2, 1) := by decide +kernel
theorem dX0_takeLatest_11 : decode cX0_takeLatest 11 = .ok (.aload_n 2, 1) := by decide +kernel
theorem dX0_takeLatest_12 : decode cX0_takeLatest 12 = .ok (.ifnonnull 5, 3) := by decide +kernel
theorem dX0_takeLatest_15 : decode cX0_takeLatest 15 = .ok (.iconst 0, 1) := by decide +kernel
theorem dX0_takeLatest_16 : decode cX0_takeLatest 16 = .ok (.ireturn, 1) := by decide +kernel
theorem dX0_takeLatest_17 : decode cX0_takeLatest 17 = .ok (.aload_n 1, 1) := by decide +kernel
theorem dX0_takeLatest_18 : decode cX0_takeLatest 18 = .ok (.aload_n 2, 1) := by decide +kernel
theorem dX0_takeLatest_19 : decode cX0_takeLatest 19 = .ok (.invokevirtual 29, 3) := by decide +kernel
theorem dX0_takeLatest_22 : decode cX0_takeLatest 22 = .ok (.aload_n 0, 1) := by decide +kernel
theorem dX0_takeLatest_23 : decode cX0_takeLatest 23 = .ok (.dup, 1) := by decide +kernel
theorem dX0_takeLatest_24 : decode cX0_takeLatest 24 = .ok (.getfield 18, 3) := by decide +kernel
theorem dX0_takeLatest_27 : decode cX0_takeLatest 27 = .ok (.iconst 1, 1) := by decide +kernel
theorem dX0_takeLatest_28 : decode cX0_takeLatest 28 = .ok (.isub, 1) := by decide +kernel
theorem dX0_takeLatest_29 : decode cX0_takeLatest 29 = .ok (.putfield 18, 3) := by decide +kernel
theorem dX0_takeLatest_32 : decode cX0_takeLatest 32 = .ok (.iconst 1, 1) := by decide +kernel
theorem dX0_takeLatest_33 : decode cX0_takeLatest 33 = .ok (.ireturn, 1) := by decide +kernel
theorem dX0_stateAt_0 : decode cX0_stateAt 0 = .ok (.iload_n 1, 1) := by decide +kernel
theorem dX0_stateAt_1 : decode cX0_stateAt 1 = .ok (.ifCond .lt 21, 3) := by decide +kernel
theorem dX0_stateAt_4 : decode cX0_stateAt 4 = .ok (.iload_n 1, 1) := by decide +kernel
theorem dX0_stateAt_5 : decode cX0_stateAt 5 = .ok (.aload_n 0, 1) := by decide +kernel
theorem dX0_stateAt_6 : decode cX0_stateAt 6 = .ok (.getfield 11, 3) := by decide +kernel
theorem dX0_stateAt_9 : decode cX0_stateAt 9 = .ok (.arraylength, 1) := by decide +kernel
theorem dX0_stateAt_10 : decode cX0_stateAt 10 = .ok (.if_icmp .ge 12, 3) := by decide +kernel
theorem dX0_stateAt_13 : decode cX0_stateAt 13 = .ok (.aload_n 0, 1) := by decide +kernel
theorem dX0_stateAt_14 : decode cX0_stateAt 14 = .ok (.getfield 11, 3) := by decide +kernel
theorem dX0_stateAt_17 : decode cX0_stateAt 17 = .ok (.iload_n 1, 1) := by decide +kernel
theorem dX0_stateAt_18 : decode cX0_stateAt 18 = .ok (.aaload, 1) := by decide +kernel
theorem dX0_stateAt_19 : decode cX0_stateAt 19 = .ok (.goto 4, 3) := by decide +kernel
theorem dX0_stateAt_22 : decode cX0_stateAt 22 = .ok (.aconst_null, 1) := by decide +kernel
theorem dX0_stateAt_23 : decode cX0_stateAt 23 = .ok (.areturn, 1) := by decide +kernel
theorem dX0_dropOldest_0 : decode cX0_dropOldest 0 = .ok (.aload_n 0, 1) := by decide +kernel
theorem dX0_dropOldest_1 : decode cX0_dropOldest 1 = .ok (.iconst 0, 1) := by decide +kernel
theorem dX0_dropOldest_2 : decode cX0_dropOldest 2 = .ok (.invokevirtual 25, 3) := by decide +kernel
theorem dX0_dropOldest_5 : decode cX0_dropOldest 5 = .ok (.astore_n 1, 1) := by decide +kernel
theorem dX0_dropOldest_6 : decode cX0_dropOldest 6 = .ok (.iconst 1, 1) := by decide +kernel
theorem dX0_dropOldest_7 : decode cX0_dropOldest 7 = .ok (.istore_n 2, 1) := by decide +kernel
theorem dX0_dropOldest_8 : decode cX0_dropOldest 8 = .ok (.iload_n 2, 1) := by decide +kernel
theorem dX0_dropOldest_9 : decode cX0_dropOldest 9 = .ok (.aload_n 0, 1) := by decide +kernel
theorem dX0_dropOldest_10 : decode cX0_dropOldest 10 = .ok (.getfield 11, 3) := by decide +kernel
theorem dX0_dropOldest_13 : decode cX0_dropOldest 13 = .ok (.arraylength, 1) := by decide +kernel
theorem dX0_dropOldest_14 : decode cX0_dropOldest 14 = .ok (.if_icmp .ge 23, 3) := by decide +kernel
theorem dX0_dropOldest_17 : decode cX0_dropOldest 17 = .ok (.aload_n 0, 1) := by decide +kernel
theorem dX0_dropOldest_18 : decode cX0_dropOldest 18 = .ok (.getfield 11, 3) := by decide +kernel
theorem dX0_dropOldest_21 : decode cX0_dropOldest 21 = .ok (.iload_n 2, 1) := by decide +kernel
theorem dX0_dropOldest_22 : decode cX0_dropOldest 22 = .ok (.iconst 1, 1) := by decide +kernel
theorem dX0_dropOldest_23 : decode cX0_dropOldest 23 = .ok (.isub, 1) := by decide +kernel
theorem dX0_dropOldest_24 : decode cX0_dropOldest 24 = .ok (.aload_n 0, 1) := by decide +kernel
theorem dX0_dropOldest_25 : decode cX0_dropOldest 25 = .ok (.getfield 11, 3) := by decide +kernel
theorem dX0_dropOldest_28 : decode cX0_dropOldest 28 = .ok (.iload_n 2, 1) := by decide +kernel
theorem dX0_dropOldest_29 : decode cX0_dropOldest 29 = .ok (.aaload, 1) := by decide +kernel
theorem dX0_dropOldest_30 : decode cX0_dropOldest 30 = .ok (.aastore, 1) := by decide +kernel
theorem dX0_dropOldest_31 : decode cX0_dropOldest 31 = .ok (.iinc 2 1, 3) := by decide +kernel
theorem dX0_dropOldest_34 : decode cX0_dropOldest 34 = .ok (.goto (-26), 3) := by decide +kernel
theorem dX0_dropOldest_37 : decode cX0_dropOldest 37 = .ok (.aload_n 0, 1) := by decide +kernel
theorem dX0_dropOldest_38 : decode cX0_dropOldest 38 = .ok (.getfield 11, 3) := by decide +kernel
theorem dX0_dropOldest_41 : decode cX0_dropOldest 41 = .ok (.arraylength, 1) := by decide +kernel
theorem dX0_dropOldest_42 : decode cX0_dropOldest 42 = .ok (.ifCond .le 27, 3) := by decide +kernel
theorem dX0_dropOldest_45 : decode cX0_dropOldest 45 = .ok (.aload_n 0, 1) := by decide +kernel
theorem dX0_dropOldest_46 : decode cX0_dropOldest 46 = .ok (.getfield 11, 3) := by decide +kernel
theorem dX0_dropOldest_49 : decode cX0_dropOldest 49 = .ok (.aload_n 0, 1) := by decide +kernel
theorem dX0_dropOldest_50 : decode cX0_dropOldest 50 = .ok (.getfield 11, 3) := by decide +kernel
theorem dX0_dropOldest_53 : decode cX0_dropOldest 53 = .ok (.arraylength, 1) := by decide +kernel
theorem dX0_dropOldest_54 : decode cX0_dropOldest 54 = .ok (.iconst 1, 1) := by decide +kernel
theorem dX0_dropOldest_55 : decode cX0_dropOldest 55 = .ok (.isub, 1) := by decide +kernel
theorem dX0_dropOldest_56 : decode cX0_dropOldest 56 = .ok (.aload_n 1, 1) := by decide +kernel
theorem dX0_dropOldest_57 : decode cX0_dropOldest 57 = .ok (.aastore, 1) := by decide +kernel
theorem dX0_dropOldest_58 : decode cX0_dropOldest 58 = .ok (.aload_n 0, 1) := by decide +kernel
theorem dX0_dropOldest_59 : decode cX0_dropOldest 59 = .ok (.aload_n 0, 1) := by decide +kernel
theorem dX0_dropOldest_60 : decode cX0_dropOldest 60 = .ok (.getfield 11, 3) := by decide +kernel
theorem dX0_dropOldest_63 : decode cX0_dropOldest 63 = .ok (.arraylength, 1) := by decide +kernel
theorem dX0_dropOldest_64 : decode cX0_dropOldest 64 = .ok (.iconst 1, 1) := by decide +kernel
theorem dX0_dropOldest_65 : decode cX0_dropOldest 65 = .ok (.isub, 1) := by decide +kernel
theorem dX0_dropOldest_66 : decode cX0_dropOldest 66 = .ok (.putfield 18, 3) := by decide +kernel
theorem dX0_dropOldest_69 : decode cX0_dropOldest 69 = .ok (.return_, 1) := by decide +kernel
theorem dX1_init_0 : decode cX1_init 0 = .ok (.aload_n 0, 1) := by decide +kernel
theorem dX1_init_1 : decode cX1_init 1 = .ok (.invokespecial 3, 3) := by decide +kernel
theorem dX1_init_4 : decode cX1_init 4 = .ok (.aload_n 0, 1) := by decide +kernel
theorem dX1_init_5 : decode cX1_init 5 = .ok (.bipush 80, 2) := by decide +kernel
theorem dX1_init_7 : decode cX1_init 7 = .ok (.newarray .char, 2) := by decide +kernel
theorem dX1_init_9 : decode cX1_init 9 = .ok (.putfield 9, 3) := by decide +kernel
theorem dX1_init_12 : decode cX1_init 12 = .ok (.aload_n 0, 1) := by decide +kernel
theorem dX1_init_13 : decode cX1_init 13 = .ok (.bipush 16, 2) := by decide +kernel
theorem dX1_init_15 : decode cX1_init 15 = .ok (.newarray .int, 2) := by decide +kernel
theorem dX1_init_17 : decode cX1_init 17 = .ok (.putfield 15, 3) := by decide +kernel
theorem dX1_init_20 : decode cX1_init 20 = .ok (.aload_n 0, 1) := by decide +kernel
theorem dX1_init_21 : decode cX1_init 21 = .ok (.bipush 16, 2) := by decide +kernel
theorem dX1_init_23 : decode cX1_init 23 = .ok (.newarray .int, 2) := by decide +kernel
theorem dX1_init_25 : decode cX1_init 25 = .ok (.putfield 19, 3) := by decide +kernel
theorem dX1_init_28 : decode cX1_init 28 = .ok (.aload_n 0, 1) := by decide +kernel
theorem dX1_init_29 : decode cX1_init 29 = .ok (.bipush 16, 2) := by decide +kernel
theorem dX1_init_31 : decode cX1_init 31 = .ok (.newarray .int, 2) := by decide +kernel
theorem dX1_init_33 : decode cX1_init 33 = .ok (.putfield 22, 3) := by decide +kernel
theorem dX1_init_36 : decode cX1_init 36 = .ok (.aload_n 0, 1) := by decide +kernel
theorem dX1_init_37 : decode cX1_init 37 = .ok (.bipush 16, 2) := by decide +kernel
theorem dX1_init_39 : decode cX1_init 39 = .ok (.newarray .int, 2) := by decide +kernel
theorem dX1_init_41 : decode cX1_init 41 = .ok (.putfield 25, 3) := by decide +kernel
theorem dX1_init_44 : decode cX1_init 44 = .ok (.return_, 1) := by decide +kernel
theorem dX1_add_0 : decode cX1_add 0 = .ok (.aload_n 0, 1) := by decide +kernel
theorem dX1_add_1 : decode cX1_add 1 = .ok (.getfield 28, 3) := by decide +kernel
theorem dX1_add_4 : decode cX1_add 4 = .ok (.ifCond .lt 15, 3) := by decide +kernel
theorem dX1_add_7 : decode cX1_add 7 = .ok (.aload_n 0, 1) := by decide +kernel
theorem dX1_add_8 : decode cX1_add 8 = .ok (.getfield 28, 3) := by decide +kernel
theorem dX1_add_11 : decode cX1_add 11 = .ok (.aload_n 0, 1) := by decide +kernel
theorem dX1_add_12 : decode cX1_add 12 = .ok (.getfield 9, 3) := by decide +kernel
theorem dX1_add_15 : decode cX1_add 15 = .ok (.arraylength, 1) := by decide +kernel
theorem dX1_add_16 : decode cX1_add 16 = .ok (.if_icmp .lt 5, 3) := by decide +kernel
theorem dX1_add_19 : decode cX1_add 19 = .ok (.iconst 0, 1) := by decide +kernel
theorem dX1_add_20 : decode cX1_add 20 = .ok (.ireturn, 1) := by decide +kernel
theorem dX1_add_21 : decode cX1_add 21 = .ok (.aload_n 0, 1) := by decide +kernel
theorem dX1_add_22 : decode cX1_add 22 = .ok (.getfield 9, 3) := by decide +kernel
theorem dX1_add_25 : decode cX1_add 25 = .ok (.aload_n 0, 1) := by decide +kernel
theorem dX1_add_26 : decode cX1_add 26 = .ok (.getfield 28, 3) := by decide +kernel
theorem dX1_add_29 : decode cX1_add 29 = .ok (.iload_n 1, 1) := by decide +kernel
theorem dX1_add_30 : decode cX1_add 30 = .ok (.castore, 1) := by decide +kernel
theorem dX1_add_31 : decode cX1_add 31 = .ok (.aload_n 0, 1) := by decide +kernel
theorem dX1_add_32 : decode cX1_add 32 = .ok (.dup, 1) := by decide +kernel
theorem dX1_add_33 : decode cX1_add 33 = .ok (.getfield 28, 3) := by decide +kernel
theorem dX1_add_36 : decode cX1_add 36 = .ok (.iconst 1, 1) := by decide +kernel
theorem dX1_add_37 : decode cX1_add 37 = .ok (.iadd, 1) := by decide +kernel
theorem dX1_add_38 : decode cX1_add 38 = .ok (.putfield 28, 3) := by decide +kernel
theorem dX1_add_41 : decode cX1_add 41 = .ok (.iconst 1, 1) := by decide +kernel
theorem dX1_add_42 : decode cX1_add 42 = .ok (.ireturn, 1) := by decide +kernel
theorem dX1_clear_0 : decode cX1_clear 0 = .ok (.aload_n 0, 1) := by decide +kernel
theorem dX1_clear_1 : decode cX1_clear 1 = .ok (.getfield 28, 3) := by decide +kernel
theorem dX1_clear_4 : decode cX1_clear 4 = .ok (.istore_n 1, 1) := by decide +kernel
theorem dX1_clear_5 : decode cX1_clear 5 = .ok (.aload_n 0, 1) := by decide +kernel
theorem dX1_clear_6 : decode cX1_clear 6 = .ok (.iconst 0, 1) := by decide +kernel
theorem dX1_clear_7 : decode cX1_clear 7 = .ok (.putfield 28, 3) := by decide +kernel
theorem dX1_clear_10 : decode cX1_clear 10 = .ok (.iload_n 1, 1) := by decide +kernel
theorem dX1_clear_11 : decode cX1_clear 11 = .ok (.ireturn, 1) := by decide +kernel
theorem dX1_wordOf_0 : decode cX1_wordOf 0 = .ok (.aload_n 0, 1) := by decide +kernel
theorem dX1_wordOf_1 : decode cX1_wordOf 1 = .ok (.getfield 15, 3) := by decide +kernel
theorem dX1_wordOf_4 : decode cX1_wordOf 4 = .ok (.iload_n 1, 1) := by decide +kernel
theorem dX1_wordOf_5 : decode cX1_wordOf 5 = .ok (.invokestatic 32, 3) := by decide +kernel
theorem dX1_wordOf_8 : decode cX1_wordOf 8 = .ok (.ireturn, 1) := by decide +kernel
theorem dX1_firstOf_0 : decode cX1_firstOf 0 = .ok (.aload_n 0, 1) := by decide +kernel
theorem dX1_firstOf_1 : decode cX1_firstOf 1 = .ok (.getfield 19, 3) := by decide +kernel
theorem dX1_firstOf_4 : decode cX1_firstOf 4 = .ok (.iload_n 1, 1) := by decide +kernel
theorem dX1_firstOf_5 : decode cX1_firstOf 5 = .ok (.invokestatic 32, 3) := by decide +kernel
theorem dX1_firstOf_8 : decode cX1_firstOf 8 = .ok (.ireturn, 1) := by decide +kernel
theorem dX1_secondOf_0 : decode cX1_secondOf 0 = .ok (.aload_n 0, 1) := by decide +kernel
theorem dX1_secondOf_1 : decode cX1_secondOf 1 = .ok (.getfield 22, 3) := by decide +kernel
theorem dX1_secondOf_4 : decode cX1_secondOf 4 = .ok (.iload_n 1, 1) := by decide +kernel
theorem dX1_secondOf_5 : decode cX1_secondOf 5 = .ok (.invokestatic 32, 3) := by decide +kernel
theorem dX1_secondOf_8 : decode cX1_secondOf 8 = .ok (.ireturn, 1) := by decide +kernel
theorem dX1_thirdOf_0 : decode cX1_thirdOf 0 = .ok (.aload_n 0, 1) := by decide +kernel
theorem dX1_thirdOf_1 : decode cX1_thirdOf 1 = .ok (.getfield 25, 3) := by decide +kernel
theorem dX1_thirdOf_4 : decode cX1_thirdOf 4 = .ok (.iload_n 1, 1) := by decide +kernel
theorem dX1_thirdOf_5 : decode cX1_thirdOf 5 = .ok (.invokestatic 32, 3) := by decide +kernel
theorem dX1_thirdOf_8 : decode cX1_thirdOf 8 = .ok (.ireturn, 1) := by decide +kernel
theorem dX1_read_0 : decode cX1_read 0 = .ok (.aload_n 0, 1) := by decide +kernel
theorem dX1_read_1 : decode cX1_read 1 = .ok (.iconst 0, 1) := by decide +kernel
theorem dX1_read_2 : decode cX1_read 2 = .ok (.putfield 38, 3) := by decide +kernel
theorem dX1_read_5 : decode cX1_read 5 = .ok (.aload_n 0, 1) := by decide +kernel
theorem dX1_read_6 : decode cX1_read 6 = .ok (.iconst 0, 1) := by decide +kernel
theorem dX1_read_7 : decode cX1_read 7 = .ok (.putfield 41, 3) := by decide +kernel
theorem dX1_read_10 : decode cX1_read 10 = .ok (.iconst 0, 1) := by decide +kernel
theorem dX1_read_11 : decode cX1_read 11 = .ok (.istore_n 1, 1) := by decide +kernel
theorem dX1_read_12 : decode cX1_read 12 = .ok (.iload_n 1, 1) := by decide +kernel
theorem dX1_read_13 : decode cX1_read 13 = .ok (.bipush 16, 2) := by decide +kernel
theorem dX1_read_15 : decode cX1_read 15 = .ok (.if_icmp .ge 52, 3) := by decide +kernel
theorem dX1_read_18 : decode cX1_read 18 = .ok (.aload_n 0, 1) := by decide +kernel
theorem dX1_read_19 : decode cX1_read 19 = .ok (.invokevirtual 44, 3) := by decide +kernel
theorem dX1_read_22 : decode cX1_read 22 = .ok (.ifCond .ne 5, 3) := by decide +kernel
theorem dX1_read_25 : decode cX1_read 25 = .ok (.iconst 0, 1) := by decide +kernel
theorem dX1_read_26 : decode cX1_read 26 = .ok (.ireturn, 1) := by decide +kernel
theorem dX1_read_27 : decode cX1_read 27 = .ok (.aload_n 0, 1) := by decide +kernel
theorem dX1_read_28 : decode cX1_read 28 = .ok (.dup, 1) := by decide +kernel
theorem dX1_read_29 : decode cX1_read 29 = .ok (.getfield 41, 3) := by decide +kernel
theorem dX1_read_32 : decode cX1_read 32 = .ok (.iconst 1, 1) := by decide +kernel
theorem dX1_read_33 : decode cX1_read 33 = .ok (.iadd, 1) := by decide +kernel
theorem dX1_read_34 : decode cX1_read 34 = .ok (.putfield 41, 3) := by decide +kernel
theorem dX1_read_37 : decode cX1_read 37 = .ok (.aload_n 0, 1) := by decide +kernel
theorem dX1_read_38 : decode cX1_read 38 = .ok (.getfield 38, 3) := by decide +kernel
theorem dX1_read_41 : decode cX1_read 41 = .ok (.aload_n 0, 1) := by decide +kernel
theorem dX1_read_42 : decode cX1_read 42 = .ok (.getfield 28, 3) := by decide +kernel
theorem dX1_read_45 : decode cX1_read 45 = .ok (.if_icmp .lt 5, 3) := by decide +kernel
theorem dX1_read_48 : decode cX1_read 48 = .ok (.iconst 1, 1) := by decide +kernel
theorem dX1_read_49 : decode cX1_read 49 = .ok (.ireturn, 1) := by decide +kernel
theorem dX1_read_50 : decode cX1_read 50 = .ok (.aload_n 0, 1) := by decide +kernel
theorem dX1_read_51 : decode cX1_read 51 = .ok (.bipush 59, 2) := by decide +kernel
theorem dX1_read_53 : decode cX1_read 53 = .ok (.invokevirtual 48, 3) := by decide +kernel
theorem dX1_read_56 : decode cX1_read 56 = .ok (.ifCond .ne 5, 3) := by decide +kernel
theorem dX1_read_59 : decode cX1_read 59 = .ok (.iconst 0, 1) := by decide +kernel
theorem dX1_read_60 : decode cX1_read 60 = .ok (.ireturn, 1) := by decide +kernel
theorem dX1_read_61 : decode cX1_read 61 = .ok (.iinc 1 1, 3) := by decide +kernel
theorem dX1_read_64 : decode cX1_read 64 = .ok (.goto (-52), 3) := by decide +kernel
theorem dX1_read_67 : decode cX1_read 67 = .ok (.iconst 0, 1) := by decide +kernel
theorem dX1_read_68 : decode cX1_read 68 = .ok (.ireturn, 1) := by decide +kernel
theorem dX1_readOrder_0 : decode cX1_readOrder 0 = .ok (.aload_n 0, 1) := by decide +kernel
theorem dX1_readOrder_1 : decode cX1_readOrder 1 = .ok (.invokevirtual 52, 3) := by decide +kernel
theorem dX1_readOrder_4 : decode cX1_readOrder 4 = .ok (.istore_n 1, 1) := by decide +kernel
theorem dX1_readOrder_5 : decode cX1_readOrder 5 = .ok (.aload_n 0, 1) := by decide +kernel
theorem dX1_readOrder_6 : decode cX1_readOrder 6 = .ok (.getfield 15, 3) := by decide +kernel
theorem dX1_readOrder_9 : decode cX1_readOrder 9 = .ok (.aload_n 0, 1) := by decide +kernel
theorem dX1_readOrder_10 : decode cX1_readOrder 10 = .ok (.getfield 41, 3) := by decide +kernel
theorem dX1_readOrder_13 : decode cX1_readOrder 13 = .ok (.iload_n 1, 1) := by decide +kernel
theorem dX1_readOrder_14 : decode cX1_readOrder 14 = .ok (.invokestatic 56, 3) := by decide +kernel
theorem dX1_readOrder_17 : decode cX1_readOrder 17 = .ok (.iload_n 1, 1) := by decide +kernel
theorem dX1_readOrder_18 : decode cX1_readOrder 18 = .ok (.tableswitch 112 (-1) 1 #[26, 28, 73], 26) := by decide +kernel
theorem dX1_readOrder_44 : decode cX1_readOrder 44 = .ok (.iconst 0, 1) := by decide +kernel
theorem dX1_readOrder_45 : decode cX1_readOrder 45 = .ok (.ireturn, 1) := by decide +kernel
theorem dX1_readOrder_46 : decode cX1_readOrder 46 = .ok (.aload_n 0, 1) := by decide +kernel
theorem dX1_readOrder_47 : decode cX1_readOrder 47 = .ok (.aload_n 0, 1) := by decide +kernel
theorem dX1_readOrder_48 : decode cX1_readOrder 48 = .ok (.getfield 19, 3) := by decide +kernel
theorem dX1_readOrder_51 : decode cX1_readOrder 51 = .ok (.bipush 23, 2) := by decide +kernel
theorem dX1_readOrder_53 : decode cX1_readOrder 53 = .ok (.invokevirtual 60, 3) := by decide +kernel
theorem dX1_readOrder_56 : decode cX1_readOrder 56 = .ok (.ifCond .eq 33, 3) := by decide +kernel
theorem dX1_readOrder_59 : decode cX1_readOrder 59 = .ok (.aload_n 0, 1) := by decide +kernel
theorem dX1_readOrder_60 : decode cX1_readOrder 60 = .ok (.aload_n 0, 1) := by decide +kernel
theorem dX1_readOrder_61 : decode cX1_readOrder 61 = .ok (.getfield 22, 3) := by decide +kernel
theorem dX1_readOrder_64 : decode cX1_readOrder 64 = .ok (.bipush 7, 2) := by decide +kernel
theorem dX1_readOrder_66 : decode cX1_readOrder 66 = .ok (.invokevirtual 60, 3) := by decide +kernel
theorem dX1_readOrder_69 : decode cX1_readOrder 69 = .ok (.ifCond .eq 20, 3) := by decide +kernel
theorem dX1_readOrder_72 : decode cX1_readOrder 72 = .ok (.aload_n 0, 1) := by decide +kernel
theorem dX1_readOrder_73 : decode cX1_readOrder 73 = .ok (.aload_n 0, 1) := by decide +kernel
theorem dX1_readOrder_74 : decode cX1_readOrder 74 = .ok (.getfield 25, 3) := by decide +kernel
theorem dX1_readOrder_77 : decode cX1_readOrder 77 = .ok (.bipush 9, 2) := by decide +kernel
theorem dX1_readOrder_79 : decode cX1_readOrder 79 = .ok (.invokevirtual 60, 3) := by decide +kernel
theorem dX1_readOrder_82 : decode cX1_readOrder 82 = .ok (.ifCond .eq 7, 3) := by decide +kernel
theorem dX1_readOrder_85 : decode cX1_readOrder 85 = .ok (.iconst 1, 1) := by decide +kernel
theorem dX1_readOrder_86 : decode cX1_readOrder 86 = .ok (.goto 4, 3) := by decide +kernel
theorem dX1_readOrder_89 : decode cX1_readOrder 89 = .ok (.iconst 0, 1) := by decide +kernel
theorem dX1_readOrder_90 : decode cX1_readOrder 90 = .ok (.ireturn, 1) := by decide +kernel
theorem dX1_readOrder_91 : decode cX1_readOrder 91 = .ok (.aload_n 0, 1) := by decide +kernel
theorem dX1_readOrder_92 : decode cX1_readOrder 92 = .ok (.aload_n 0, 1) := by decide +kernel
theorem dX1_readOrder_93 : decode cX1_readOrder 93 = .ok (.getfield 19, 3) := by decide +kernel
theorem dX1_readOrder_96 : decode cX1_readOrder 96 = .ok (.bipush 23, 2) := by decide +kernel
theorem dX1_readOrder_98 : decode cX1_readOrder 98 = .ok (.invokevirtual 60, 3) := by decide +kernel
theorem dX1_readOrder_101 : decode cX1_readOrder 101 = .ok (.ifCond .eq 27, 3) := by decide +kernel
theorem dX1_readOrder_104 : decode cX1_readOrder 104 = .ok (.aload_n 0, 1) := by decide +kernel
theorem dX1_readOrder_105 : decode cX1_readOrder 105 = .ok (.aload_n 0, 1) := by decide +kernel
theorem dX1_readOrder_106 : decode cX1_readOrder 106 = .ok (.getfield 22, 3) := by decide +kernel
theorem dX1_readOrder_109 : decode cX1_readOrder 109 = .ok (.bipush 23, 2) := by decide +kernel
theorem dX1_readOrder_111 : decode cX1_readOrder 111 = .ok (.invokevirtual 60, 3) := by decide +kernel
theorem dX1_readOrder_114 : decode cX1_readOrder 114 = .ok (.ifCond .eq 14, 3) := by decide +kernel
theorem dX1_readOrder_117 : decode cX1_readOrder 117 = .ok (.aload_n 0, 1) := by decide +kernel
theorem dX1_readOrder_118 : decode cX1_readOrder 118 = .ok (.invokevirtual 64, 3) := by decide +kernel
theorem dX1_readOrder_121 : decode cX1_readOrder 121 = .ok (.ifCond .eq 7, 3) := by decide +kernel
theorem dX1_readOrder_124 : decode cX1_readOrder 124 = .ok (.iconst 1, 1) := by decide +kernel
theorem dX1_readOrder_125 : decode cX1_readOrder 125 = .ok (.goto 4, 3) := by decide +kernel
theorem dX1_readOrder_128 : decode cX1_readOrder 128 = .ok (.iconst 0, 1) := by decide +kernel
theorem dX1_readOrder_129 : decode cX1_readOrder 129 = .ok (.ireturn, 1) := by decide +kernel
theorem dX1_readOrder_130 : decode cX1_readOrder 130 = .ok (.aload_n 0, 1) := by decide +kernel
theorem dX1_readOrder_131 : decode cX1_readOrder 131 = .ok (.aload_n 0, 1) := by decide +kernel
theorem dX1_readOrder_132 : decode cX1_readOrder 132 = .ok (.getfield 19, 3) := by decide +kernel
theorem dX1_readOrder_135 : decode cX1_readOrder 135 = .ok (.bipush 23, 2) := by decide +kernel
theorem dX1_readOrder_137 : decode cX1_readOrder 137 = .ok (.invokevirtual 60, 3) := by decide +kernel
theorem dX1_readOrder_140 : decode cX1_readOrder 140 = .ok (.ireturn, 1) := by decide +kernel
theorem dX1_readWord_0 : decode cX1_readWord 0 = .ok (.iconst 0, 1) := by decide +kernel
theorem dX1_readWord_1 : decode cX1_readWord 1 = .ok (.istore_n 1, 1) := by decide +kernel
theorem dX1_readWord_2 : decode cX1_readWord 2 = .ok (.iconst 0, 1) := by decide +kernel
theorem dX1_readWord_3 : decode cX1_readWord 3 = .ok (.istore_n 2, 1) := by decide +kernel
theorem dX1_readWord_4 : decode cX1_readWord 4 = .ok (.iload_n 2, 1) := by decide +kernel
theorem dX1_readWord_5 : decode cX1_readWord 5 = .ok (.iconst 4, 1) := by decide +kernel
theorem dX1_readWord_6 : decode cX1_readWord 6 = .ok (.if_icmp .gt 50, 3) := by decide +kernel
theorem dX1_readWord_9 : decode cX1_readWord 9 = .ok (.iload_n 2, 1) := by decide +kernel
theorem dX1_readWord_10 : decode cX1_readWord 10 = .ok (.invokestatic 67, 3) := by decide +kernel
theorem dX1_readWord_13 : decode cX1_readWord 13 = .ok (.astore_n 3, 1) := by decide +kernel
theorem dX1_readWord_14 : decode cX1_readWord 14 = .ok (.aload_n 0, 1) := by decide +kernel
theorem dX1_readWord_15 : decode cX1_readWord 15 = .ok (.aload_n 3, 1) := by decide +kernel
theorem dX1_readWord_16 : decode cX1_readWord 16 = .ok (.invokevirtual 71, 3) := by decide +kernel
theorem dX1_readWord_19 : decode cX1_readWord 19 = .ok (.istore 4, 2) := by decide +kernel
theorem dX1_readWord_21 : decode cX1_readWord 21 = .ok (.iload 4, 2) := by decide +kernel
theorem dX1_readWord_23 : decode cX1_readWord 23 = .ok (.aload_n 3, 1) := by decide +kernel
theorem dX1_readWord_24 : decode cX1_readWord 24 = .ok (.invokevirtual 75, 3) := by decide +kernel
theorem dX1_readWord_27 : decode cX1_readWord 27 = .ok (.if_icmp .ne 16, 3) := by decide +kernel
theorem dX1_readWord_30 : decode cX1_readWord 30 = .ok (.aload_n 0, 1) := by decide +kernel
theorem dX1_readWord_31 : decode cX1_readWord 31 = .ok (.dup, 1) := by decide +kernel
theorem dX1_readWord_32 : decode cX1_readWord 32 = .ok (.getfield 38, 3) := by decide +kernel
theorem dX1_readWord_35 : decode cX1_readWord 35 = .ok (.iload 4, 2) := by decide +kernel
theorem dX1_readWord_37 : decode cX1_readWord 37 = .ok (.iadd, 1) := by decide +kernel
theorem dX1_readWord_38 : decode cX1_readWord 38 = .ok (.putfield 38, 3) := by decide +kernel
theorem dX1_readWord_41 : decode cX1_readWord 41 = .ok (.iload_n 2, 1) := by decide +kernel
theorem dX1_readWord_42 : decode cX1_readWord 42 = .ok (.ireturn, 1) := by decide +kernel
theorem dX1_readWord_43 : decode cX1_readWord 43 = .ok (.iload_n 1, 1) := by decide +kernel
theorem dX1_readWord_44 : decode cX1_readWord 44 = .ok (.iload 4, 2) := by decide +kernel
theorem dX1_readWord_46 : decode cX1_readWord 46 = .ok (.invokestatic 79, 3) := by decide +kernel
theorem dX1_readWord_49 : decode cX1_readWord 49 = .ok (.istore_n 1, 1) := by decide +kernel
theorem dX1_readWord_50 : decode cX1_readWord 50 = .ok (.iinc 2 1, 3) := by decide +kernel
theorem dX1_readWord_53 : decode cX1_readWord 53 = .ok (.goto (-49), 3) := by decide +kernel
theorem dX1_readWord_56 : decode cX1_readWord 56 = .ok (.aload_n 0, 1) := by decide +kernel
theorem dX1_readWord_57 : decode cX1_readWord 57 = .ok (.dup, 1) := by decide +kernel
theorem dX1_readWord_58 : decode cX1_readWord 58 = .ok (.getfield 38, 3) := by decide +kernel
theorem dX1_readWord_61 : decode cX1_readWord 61 = .ok (.iload_n 1, 1) := by decide +kernel
theorem dX1_readWord_62 : decode cX1_readWord 62 = .ok (.iadd, 1) := by decide +kernel
theorem dX1_readWord_63 : decode cX1_readWord 63 = .ok (.putfield 38, 3) := by decide +kernel
theorem dX1_readWord_66 : decode cX1_readWord 66 = .ok (.iconst (-1), 1) := by decide +kernel
theorem dX1_readWord_67 : decode cX1_readWord 67 = .ok (.ireturn, 1) := by decide +kernel
theorem dX1_alikeFromHere_0 : decode cX1_alikeFromHere 0 = .ok (.iconst 0, 1) := by decide +kernel
theorem dX1_alikeFromHere_1 : decode cX1_alikeFromHere 1 = .ok (.istore_n 2, 1) := by decide +kernel
theorem dX1_alikeFromHere_2 : decode cX1_alikeFromHere 2 = .ok (.iload_n 2, 1) := by decide +kernel
theorem dX1_alikeFromHere_3 : decode cX1_alikeFromHere 3 = .ok (.aload_n 1, 1) := by decide +kernel
theorem dX1_alikeFromHere_4 : decode cX1_alikeFromHere 4 = .ok (.invokevirtual 75, 3) := by decide +kernel
theorem dX1_alikeFromHere_7 : decode cX1_alikeFromHere 7 = .ok (.if_icmp .ge 27, 3) := by decide +kernel
theorem dX1_alikeFromHere_10 : decode cX1_alikeFromHere 10 = .ok (.aload_n 0, 1) := by decide +kernel
theorem dX1_alikeFromHere_11 : decode cX1_alikeFromHere 11 = .ok (.aload_n 0, 1) := by decide +kernel
theorem dX1_alikeFromHere_12 : decode cX1_alikeFromHere 12 = .ok (.getfield 38, 3) := by decide +kernel
theorem dX1_alikeFromHere_15 : decode cX1_alikeFromHere 15 = .ok (.iload_n 2, 1) := by decide +kernel
theorem dX1_alikeFromHere_16 : decode cX1_alikeFromHere 16 = .ok (.iadd, 1) := by decide +kernel
theorem dX1_alikeFromHere_17 : decode cX1_alikeFromHere 17 = .ok (.invokevirtual 85, 3) := by decide +kernel
theorem dX1_alikeFromHere_20 : decode cX1_alikeFromHere 20 = .ok (.aload_n 1, 1) := by decide +kernel
theorem dX1_alikeFromHere_21 : decode cX1_alikeFromHere 21 = .ok (.iload_n 2, 1) := by decide +kernel
theorem dX1_alikeFromHere_22 : decode cX1_alikeFromHere 22 = .ok (.invokevirtual 89, 3) := by decide +kernel
theorem dX1_alikeFromHere_25 : decode cX1_alikeFromHere 25 = .ok (.if_icmp .ne 9, 3) := by decide +kernel
theorem dX1_alikeFromHere_28 : decode cX1_alikeFromHere 28 = .ok (.iinc 2 1, 3) := by decide +kernel
theorem dX1_alikeFromHere_31 : decode cX1_alikeFromHere 31 = .ok (.goto (-29), 3) := by decide +kernel
theorem dX1_alikeFromHere_34 : decode cX1_alikeFromHere 34 = .ok (.iload_n 2, 1) := by decide +kernel
theorem dX1_alikeFromHere_35 : decode cX1_alikeFromHere 35 = .ok (.ireturn, 1) := by decide +kernel
theorem dX1_lettersOf_0 : decode cX1_lettersOf 0 = .ok (.iload_n 0, 1) := by decide +kernel
theorem dX1_lettersOf_1 : decode cX1_lettersOf 1 = .ok (.tableswitch 43 0 3 #[31, 34, 37, 40], 31) := by decide +kernel
theorem dX1_lettersOf_32 : decode cX1_lettersOf 32 = .ok (.ldc 93, 2) := by decide +kernel
theorem dX1_lettersOf_34 : decode cX1_lettersOf 34 = .ok (.areturn, 1) := by decide +kernel
theorem dX1_lettersOf_35 : decode cX1_lettersOf 35 = .ok (.ldc 95, 2) := by decide +kernel
theorem dX1_lettersOf_37 : decode cX1_lettersOf 37 = .ok (.areturn, 1) := by decide +kernel
theorem dX1_lettersOf_38 : decode cX1_lettersOf 38 = .ok (.ldc 97, 2) := by decide +kernel
theorem dX1_lettersOf_40 : decode cX1_lettersOf 40 = .ok (.areturn, 1) := by decide +kernel
theorem dX1_lettersOf_41 : decode cX1_lettersOf 41 = .ok (.ldc 99, 2) := by decide +kernel
theorem dX1_lettersOf_43 : decode cX1_lettersOf 43 = .ok (.areturn, 1) := by decide +kernel
theorem dX1_lettersOf_44 : decode cX1_lettersOf 44 = .ok (.ldc 101, 2) := by decide +kernel
theorem dX1_lettersOf_46 : decode cX1_lettersOf 46 = .ok (.areturn, 1) := by decide +kernel
theorem dX1_readNumber_0 : decode cX1_readNumber 0 = .ok (.aload_n 0, 1) := by decide +kernel
theorem dX1_readNumber_1 : decode cX1_readNumber 1 = .ok (.bipush 32, 2) := by decide +kernel
theorem dX1_readNumber_3 : decode cX1_readNumber 3 = .ok (.invokevirtual 48, 3) := by decide +kernel
theorem dX1_readNumber_6 : decode cX1_readNumber 6 = .ok (.ifCond .ne 5, 3) := by decide +kernel
theorem dX1_readNumber_9 : decode cX1_readNumber 9 = .ok (.iconst 0, 1) := by decide +kernel
theorem dX1_readNumber_10 : decode cX1_readNumber 10 = .ok (.ireturn, 1) := by decide +kernel
theorem dX1_readNumber_11 : decode cX1_readNumber 11 = .ok (.aload_n 0, 1) := by decide +kernel
theorem dX1_readNumber_12 : decode cX1_readNumber 12 = .ok (.aload_n 0, 1) := by decide +kernel
theorem dX1_readNumber_13 : decode cX1_readNumber 13 = .ok (.getfield 38, 3) := by decide +kernel
theorem dX1_readNumber_16 : decode cX1_readNumber 16 = .ok (.invokevirtual 103, 3) := by decide +kernel
theorem dX1_readNumber_19 : decode cX1_readNumber 19 = .ok (.istore_n 3, 1) := by decide +kernel
theorem dX1_readNumber_20 : decode cX1_readNumber 20 = .ok (.iload_n 3, 1) := by decide +kernel
theorem dX1_readNumber_21 : decode cX1_readNumber 21 = .ok (.ifCond .lt 8, 3) := by decide +kernel
theorem dX1_readNumber_24 : decode cX1_readNumber 24 = .ok (.iload_n 3, 1) := by decide +kernel
theorem dX1_readNumber_25 : decode cX1_readNumber 25 = .ok (.iload_n 2, 1) := by decide +kernel
theorem dX1_readNumber_26 : decode cX1_readNumber 26 = .ok (.if_icmp .le 5, 3) := by decide +kernel
theorem dX1_readNumber_29 : decode cX1_readNumber 29 = .ok (.iconst 0, 1) := by decide +kernel
theorem dX1_readNumber_30 : decode cX1_readNumber 30 = .ok (.ireturn, 1) := by decide +kernel
theorem dX1_readNumber_31 : decode cX1_readNumber 31 = .ok (.aload_n 0, 1) := by decide +kernel
theorem dX1_readNumber_32 : decode cX1_readNumber 32 = .ok (.dup, 1) := by decide +kernel
theorem dX1_readNumber_33 : decode cX1_readNumber 33 = .ok (.getfield 38, 3) := by decide +kernel
theorem dX1_readNumber_36 : decode cX1_readNumber 36 = .ok (.iconst 1, 1) := by decide +kernel
theorem dX1_readNumber_37 : decode cX1_readNumber 37 = .ok (.iadd, 1) := by decide +kernel
theorem dX1_readNumber_38 : decode cX1_readNumber 38 = .ok (.putfield 38, 3) := by decide +kernel
theorem dX1_readNumber_41 : decode cX1_readNumber 41 = .ok (.iload_n 3, 1) := by decide +kernel
theorem dX1_readNumber_42 : decode cX1_readNumber 42 = .ok (.ifCond .le 10, 3) := by decide +kernel
theorem dX1_readNumber_45 : decode cX1_readNumber 45 = .ok (.aload_n 0, 1) := by decide +kernel
theorem dX1_readNumber_46 : decode cX1_readNumber 46 = .ok (.iload_n 3, 1) := by decide +kernel
theorem dX1_readNumber_47 : decode cX1_readNumber 47 = .ok (.iload_n 2, 1) := by decide +kernel
theorem dX1_readNumber_48 : decode cX1_readNumber 48 = .ok (.invokevirtual 106, 3) := by decide +kernel
theorem dX1_readNumber_51 : decode cX1_readNumber 51 = .ok (.istore_n 3, 1) := by decide +kernel
theorem dX1_readNumber_52 : decode cX1_readNumber 52 = .ok (.aload_n 1, 1) := by decide +kernel
theorem dX1_readNumber_53 : decode cX1_readNumber 53 = .ok (.aload_n 0, 1) := by decide +kernel
theorem dX1_readNumber_54 : decode cX1_readNumber 54 = .ok (.getfield 41, 3) := by decide +kernel
theorem dX1_readNumber_57 : decode cX1_readNumber 57 = .ok (.iload_n 3, 1) := by decide +kernel
theorem dX1_readNumber_58 : decode cX1_readNumber 58 = .ok (.invokestatic 56, 3) := by decide +kernel
theorem dX1_readNumber_61 : decode cX1_readNumber 61 = .ok (.iconst 1, 1) := by decide +kernel
theorem dX1_readNumber_62 : decode cX1_readNumber 62 = .ok (.ireturn, 1) := by decide +kernel
theorem dX1_readMoreDigits_0 : decode cX1_readMoreDigits 0 = .ok (.iload_n 1, 1) := by decide +kernel
theorem dX1_readMoreDigits_1 : decode cX1_readMoreDigits 1 = .ok (.istore_n 3, 1) := by decide +kernel
theorem dX1_readMoreDigits_2 : decode cX1_readMoreDigits 2 = .ok (.aload_n 0, 1) := by decide +kernel
theorem dX1_readMoreDigits_3 : decode cX1_readMoreDigits 3 = .ok (.getfield 38, 3) := by decide +kernel
theorem dX1_readMoreDigits_6 : decode cX1_readMoreDigits 6 = .ok (.aload_n 0, 1) := by decide +kernel
theorem dX1_readMoreDigits_7 : decode cX1_readMoreDigits 7 = .ok (.getfield 28, 3) := by decide +kernel
theorem dX1_readMoreDigits_10 : decode cX1_readMoreDigits 10 = .ok (.if_icmp .ge 52, 3) := by decide +kernel
theorem dX1_readMoreDigits_13 : decode cX1_readMoreDigits 13 = .ok (.aload_n 0, 1) := by decide +kernel
theorem dX1_readMoreDigits_14 : decode cX1_readMoreDigits 14 = .ok (.aload_n 0, 1) := by decide +kernel
theorem dX1_readMoreDigits_15 : decode cX1_readMoreDigits 15 = .ok (.getfield 38, 3) := by decide +kernel
theorem dX1_readMoreDigits_18 : decode cX1_readMoreDigits 18 = .ok (.invokevirtual 103, 3) := by decide +kernel
theorem dX1_readMoreDigits_21 : decode cX1_readMoreDigits 21 = .ok (.istore 4, 2) := by decide +kernel
theorem dX1_readMoreDigits_23 : decode cX1_readMoreDigits 23 = .ok (.iload 4, 2) := by decide +kernel
theorem dX1_readMoreDigits_25 : decode cX1_readMoreDigits 25 = .ok (.ifCond .lt 14, 3) := by decide +kernel
theorem dX1_readMoreDigits_28 : decode cX1_readMoreDigits 28 = .ok (.iload_n 3, 1) := by decide +kernel
theorem dX1_readMoreDigits_29 : decode cX1_readMoreDigits 29 = .ok (.bipush 10, 2) := by decide +kernel
theorem dX1_readMoreDigits_31 : decode cX1_readMoreDigits 31 = .ok (.imul, 1) := by decide +kernel
theorem dX1_readMoreDigits_32 : decode cX1_readMoreDigits 32 = .ok (.iload 4, 2) := by decide +kernel
theorem dX1_readMoreDigits_34 : decode cX1_readMoreDigits 34 = .ok (.iadd, 1) := by decide +kernel
theorem dX1_readMoreDigits_35 : decode cX1_readMoreDigits 35 = .ok (.iload_n 2, 1) := by decide +kernel
theorem dX1_readMoreDigits_36 : decode cX1_readMoreDigits 36 = .ok (.if_icmp .le 5, 3) := by decide +kernel
theorem dX1_readMoreDigits_39 : decode cX1_readMoreDigits 39 = .ok (.iload_n 3, 1) := by decide +kernel
theorem dX1_readMoreDigits_40 : decode cX1_readMoreDigits 40 = .ok (.ireturn, 1) := by decide +kernel
theorem dX1_readMoreDigits_41 : decode cX1_readMoreDigits 41 = .ok (.iload_n 3, 1) := by decide +kernel
theorem dX1_readMoreDigits_42 : decode cX1_readMoreDigits 42 = .ok (.bipush 10, 2) := by decide +kernel
theorem dX1_readMoreDigits_44 : decode cX1_readMoreDigits 44 = .ok (.imul, 1) := by decide +kernel
theorem dX1_readMoreDigits_45 : decode cX1_readMoreDigits 45 = .ok (.iload 4, 2) := by decide +kernel
theorem dX1_readMoreDigits_47 : decode cX1_readMoreDigits 47 = .ok (.iadd, 1) := by decide +kernel
theorem dX1_readMoreDigits_48 : decode cX1_readMoreDigits 48 = .ok (.istore_n 3, 1) := by decide +kernel
theorem dX1_readMoreDigits_49 : decode cX1_readMoreDigits 49 = .ok (.aload_n 0, 1) := by decide +kernel
theorem dX1_readMoreDigits_50 : decode cX1_readMoreDigits 50 = .ok (.dup, 1) := by decide +kernel
theorem dX1_readMoreDigits_51 : decode cX1_readMoreDigits 51 = .ok (.getfield 38, 3) := by decide +kernel
theorem dX1_readMoreDigits_54 : decode cX1_readMoreDigits 54 = .ok (.iconst 1, 1) := by decide +kernel
theorem dX1_readMoreDigits_55 : decode cX1_readMoreDigits 55 = .ok (.iadd, 1) := by decide +kernel
theorem dX1_readMoreDigits_56 : decode cX1_readMoreDigits 56 = .ok (.putfield 38, 3) := by decide +kernel
theorem dX1_readMoreDigits_59 : decode cX1_readMoreDigits 59 = .ok (.goto (-57), 3) := by decide +kernel
theorem dX1_readMoreDigits_62 : decode cX1_readMoreDigits 62 = .ok (.iload_n 3, 1) := by decide +kernel
theorem dX1_readMoreDigits_63 : decode cX1_readMoreDigits 63 = .ok (.ireturn, 1) := by decide +kernel
theorem dX1_readCells_0 : decode cX1_readCells 0 = .ok (.aload_n 0, 1) := by decide +kernel
theorem dX1_readCells_1 : decode cX1_readCells 1 = .ok (.bipush 32, 2) := by decide +kernel
theorem dX1_readCells_3 : decode cX1_readCells 3 = .ok (.invokevirtual 48, 3) := by decide +kernel
theorem dX1_readCells_6 : decode cX1_readCells 6 = .ok (.ifCond .ne 5, 3) := by decide +kernel
theorem dX1_readCells_9 : decode cX1_readCells 9 = .ok (.iconst 0, 1) := by decide +kernel
theorem dX1_readCells_10 : decode cX1_readCells 10 = .ok (.ireturn, 1) := by decide +kernel
theorem dX1_readCells_11 : decode cX1_readCells 11 = .ok (.iconst 0, 1) := by decide +kernel
theorem dX1_readCells_12 : decode cX1_readCells 12 = .ok (.istore_n 1, 1) := by decide +kernel
theorem dX1_readCells_13 : decode cX1_readCells 13 = .ok (.iconst 0, 1) := by decide +kernel
theorem dX1_readCells_14 : decode cX1_readCells 14 = .ok (.istore_n 2, 1) := by decide +kernel
theorem dX1_readCells_15 : decode cX1_readCells 15 = .ok (.aload_n 0, 1) := by decide +kernel
theorem dX1_readCells_16 : decode cX1_readCells 16 = .ok (.getfield 38, 3) := by decide +kernel
theorem dX1_readCells_19 : decode cX1_readCells 19 = .ok (.aload_n 0, 1) := by decide +kernel
theorem dX1_readCells_20 : decode cX1_readCells 20 = .ok (.getfield 28, 3) := by decide +kernel
theorem dX1_readCells_23 : decode cX1_readCells 23 = .ok (.if_icmp .ge 50, 3) := by decide +kernel
theorem dX1_readCells_26 : decode cX1_readCells 26 = .ok (.aload_n 0, 1) := by decide +kernel
theorem dX1_readCells_27 : decode cX1_readCells 27 = .ok (.aload_n 0, 1) := by decide +kernel
theorem dX1_readCells_28 : decode cX1_readCells 28 = .ok (.getfield 38, 3) := by decide +kernel
theorem dX1_readCells_31 : decode cX1_readCells 31 = .ok (.invokevirtual 103, 3) := by decide +kernel
theorem dX1_readCells_34 : decode cX1_readCells 34 = .ok (.istore_n 3, 1) := by decide +kernel
theorem dX1_readCells_35 : decode cX1_readCells 35 = .ok (.iload_n 3, 1) := by decide +kernel
theorem dX1_readCells_36 : decode cX1_readCells 36 = .ok (.iload_n 2, 1) := by decide +kernel
theorem dX1_readCells_37 : decode cX1_readCells 37 = .ok (.if_icmp .lt 36, 3) := by decide +kernel
theorem dX1_readCells_40 : decode cX1_readCells 40 = .ok (.iload_n 3, 1) := by decide +kernel
theorem dX1_readCells_41 : decode cX1_readCells 41 = .ok (.bipush 8, 2) := by decide +kernel
theorem dX1_readCells_43 : decode cX1_readCells 43 = .ok (.if_icmp .lt 6, 3) := by decide +kernel
theorem dX1_readCells_46 : decode cX1_readCells 46 = .ok (.goto 27, 3) := by decide +kernel
theorem dX1_readCells_49 : decode cX1_readCells 49 = .ok (.iload_n 1, 1) := by decide +kernel
theorem dX1_readCells_50 : decode cX1_readCells 50 = .ok (.iload_n 3, 1) := by decide +kernel
theorem dX1_readCells_51 : decode cX1_readCells 51 = .ok (.invokestatic 109, 3) := by decide +kernel
theorem dX1_readCells_54 : decode cX1_readCells 54 = .ok (.ior, 1) := by decide +kernel
theorem dX1_readCells_55 : decode cX1_readCells 55 = .ok (.istore_n 1, 1) := by decide +kernel
theorem dX1_readCells_56 : decode cX1_readCells 56 = .ok (.iload_n 3, 1) := by decide +kernel
theorem dX1_readCells_57 : decode cX1_readCells 57 = .ok (.iconst 1, 1) := by decide +kernel
theorem dX1_readCells_58 : decode cX1_readCells 58 = .ok (.iadd, 1) := by decide +kernel
theorem dX1_readCells_59 : decode cX1_readCells 59 = .ok (.istore_n 2, 1) := by decide +kernel
theorem dX1_readCells_60 : decode cX1_readCells 60 = .ok (.aload_n 0, 1) := by decide +kernel
theorem dX1_readCells_61 : decode cX1_readCells 61 = .ok (.dup, 1) := by decide +kernel
theorem dX1_readCells_62 : decode cX1_readCells 62 = .ok (.getfield 38, 3) := by decide +kernel
theorem dX1_readCells_65 : decode cX1_readCells 65 = .ok (.iconst 1, 1) := by decide +kernel
theorem dX1_readCells_66 : decode cX1_readCells 66 = .ok (.iadd, 1) := by decide +kernel
theorem dX1_readCells_67 : decode cX1_readCells 67 = .ok (.putfield 38, 3) := by decide +kernel
theorem dX1_readCells_70 : decode cX1_readCells 70 = .ok (.goto (-55), 3) := by decide +kernel
theorem dX1_readCells_73 : decode cX1_readCells 73 = .ok (.aload_n 0, 1) := by decide +kernel
theorem dX1_readCells_74 : decode cX1_readCells 74 = .ok (.getfield 25, 3) := by decide +kernel
theorem dX1_readCells_77 : decode cX1_readCells 77 = .ok (.aload_n 0, 1) := by decide +kernel
theorem dX1_readCells_78 : decode cX1_readCells 78 = .ok (.getfield 41, 3) := by decide +kernel
theorem dX1_readCells_81 : decode cX1_readCells 81 = .ok (.iload_n 1, 1) := by decide +kernel
theorem dX1_readCells_82 : decode cX1_readCells 82 = .ok (.invokestatic 56, 3) := by decide +kernel
theorem dX1_readCells_85 : decode cX1_readCells 85 = .ok (.iload_n 1, 1) := by decide +kernel
theorem dX1_readCells_86 : decode cX1_readCells 86 = .ok (.ifCond .eq 7, 3) := by decide +kernel
theorem dX1_readCells_89 : decode cX1_readCells 89 = .ok (.iconst 1, 1) := by decide +kernel
theorem dX1_readCells_90 : decode cX1_readCells 90 = .ok (.goto 4, 3) := by decide +kernel
theorem dX1_readCells_93 : decode cX1_readCells 93 = .ok (.iconst 0, 1) := by decide +kernel
theorem dX1_readCells_94 : decode cX1_readCells 94 = .ok (.ireturn, 1) := by decide +kernel
theorem dX1_readSign_0 : decode cX1_readSign 0 = .ok (.aload_n 0, 1) := by decide +kernel
theorem dX1_readSign_1 : decode cX1_readSign 1 = .ok (.aload_n 0, 1) := by decide +kernel
theorem dX1_readSign_2 : decode cX1_readSign 2 = .ok (.getfield 38, 3) := by decide +kernel
theorem dX1_readSign_5 : decode cX1_readSign 5 = .ok (.invokevirtual 85, 3) := by decide +kernel
theorem dX1_readSign_8 : decode cX1_readSign 8 = .ok (.iload_n 1, 1) := by decide +kernel
theorem dX1_readSign_9 : decode cX1_readSign 9 = .ok (.if_icmp .eq 5, 3) := by decide +kernel
theorem dX1_readSign_12 : decode cX1_readSign 12 = .ok (.iconst 0, 1) := by decide +kernel
theorem dX1_readSign_13 : decode cX1_readSign 13 = .ok (.ireturn, 1) := by decide +kernel
theorem dX1_readSign_14 : decode cX1_readSign 14 = .ok (.aload_n 0, 1) := by decide +kernel
theorem dX1_readSign_15 : decode cX1_readSign 15 = .ok (.dup, 1) := by decide +kernel
theorem dX1_readSign_16 : decode cX1_readSign 16 = .ok (.getfield 38, 3) := by decide +kernel
theorem dX1_readSign_19 : decode cX1_readSign 19 = .ok (.iconst 1, 1) := by decide +kernel
theorem dX1_readSign_20 : decode cX1_readSign 20 = .ok (.iadd, 1) := by decide +kernel
theorem dX1_readSign_21 : decode cX1_readSign 21 = .ok (.putfield 38, 3) := by decide +kernel
theorem dX1_readSign_24 : decode cX1_readSign 24 = .ok (.iconst 1, 1) := by decide +kernel
theorem dX1_readSign_25 : decode cX1_readSign 25 = .ok (.ireturn, 1) := by decide +kernel
theorem dX1_signAt_0 : decode cX1_signAt 0 = .ok (.iload_n 1, 1) := by decide +kernel
theorem dX1_signAt_1 : decode cX1_signAt 1 = .ok (.ifCond .lt 29, 3) := by decide +kernel
theorem dX1_signAt_4 : decode cX1_signAt 4 = .ok (.iload_n 1, 1) := by decide +kernel
theorem dX1_signAt_5 : decode cX1_signAt 5 = .ok (.aload_n 0, 1) := by decide +kernel
theorem dX1_signAt_6 : decode cX1_signAt 6 = .ok (.getfield 28, 3) := by decide +kernel
theorem dX1_signAt_9 : decode cX1_signAt 9 = .ok (.if_icmp .ge 21, 3) := by decide +kernel
theorem dX1_signAt_12 : decode cX1_signAt 12 = .ok (.iload_n 1, 1) := by decide +kernel
theorem dX1_signAt_13 : decode cX1_signAt 13 = .ok (.aload_n 0, 1) := by decide +kernel
theorem dX1_signAt_14 : decode cX1_signAt 14 = .ok (.getfield 9, 3) := by decide +kernel
theorem dX1_signAt_17 : decode cX1_signAt 17 = .ok (.arraylength, 1) := by decide +kernel
theorem dX1_signAt_18 : decode cX1_signAt 18 = .ok (.if_icmp .ge 12, 3) := by decide +kernel
theorem dX1_signAt_21 : decode cX1_signAt 21 = .ok (.aload_n 0, 1) := by decide +kernel
theorem dX1_signAt_22 : decode cX1_signAt 22 = .ok (.getfield 9, 3) := by decide +kernel
theorem dX1_signAt_25 : decode cX1_signAt 25 = .ok (.iload_n 1, 1) := by decide +kernel
theorem dX1_signAt_26 : decode cX1_signAt 26 = .ok (.caload, 1) := by decide +kernel
theorem dX1_signAt_27 : decode cX1_signAt 27 = .ok (.goto 4, 3) := by decide +kernel
theorem dX1_signAt_30 : decode cX1_signAt 30 = .ok (.iconst (-1), 1) := by decide +kernel
theorem dX1_signAt_31 : decode cX1_signAt 31 = .ok (.ireturn, 1) := by decide +kernel
theorem dX1_digitAt_0 : decode cX1_digitAt 0 = .ok (.aload_n 0, 1) := by decide +kernel
theorem dX1_digitAt_1 : decode cX1_digitAt 1 = .ok (.iload_n 1, 1) := by decide +kernel
theorem dX1_digitAt_2 : decode cX1_digitAt 2 = .ok (.invokevirtual 85, 3) := by decide +kernel
theorem dX1_digitAt_5 : decode cX1_digitAt 5 = .ok (.istore_n 2, 1) := by decide +kernel
theorem dX1_digitAt_6 : decode cX1_digitAt 6 = .ok (.iload_n 2, 1) := by decide +kernel
theorem dX1_digitAt_7 : decode cX1_digitAt 7 = .ok (.bipush 48, 2) := by decide +kernel
theorem dX1_digitAt_9 : decode cX1_digitAt 9 = .ok (.if_icmp .lt 16, 3) := by decide +kernel
theorem dX1_digitAt_12 : decode cX1_digitAt 12 = .ok (.iload_n 2, 1) := by decide +kernel
theorem dX1_digitAt_13 : decode cX1_digitAt 13 = .ok (.bipush 57, 2) := by decide +kernel
theorem dX1_digitAt_15 : decode cX1_digitAt 15 = .ok (.if_icmp .gt 10, 3) := by decide +kernel
theorem dX1_digitAt_18 : decode cX1_digitAt 18 = .ok (.iload_n 2, 1) := by decide +kernel
theorem dX1_digitAt_19 : decode cX1_digitAt 19 = .ok (.bipush 48, 2) := by decide +kernel
theorem dX1_digitAt_21 : decode cX1_digitAt 21 = .ok (.isub, 1) := by decide +kernel
theorem dX1_digitAt_22 : decode cX1_digitAt 22 = .ok (.goto 4, 3) := by decide +kernel
theorem dX1_digitAt_25 : decode cX1_digitAt 25 = .ok (.iconst (-1), 1) := by decide +kernel
theorem dX1_digitAt_26 : decode cX1_digitAt 26 = .ok (.ireturn, 1) := by decide +kernel
theorem dX2_init_0 : decode cX2_init 0 = .ok (.aload_n 0, 1) := by decide +kernel
theorem dX2_init_1 : decode cX2_init 1 = .ok (.invokespecial 3, 3) := by decide +kernel
theorem dX2_init_4 : decode cX2_init 4 = .ok (.aload_n 0, 1) := by decide +kernel
theorem dX2_init_5 : decode cX2_init 5 = .ok (.bipush 24, 2) := by decide +kernel
theorem dX2_init_7 : decode cX2_init 7 = .ok (.newarray .int, 2) := by decide +kernel
theorem dX2_init_9 : decode cX2_init 9 = .ok (.putfield 9, 3) := by decide +kernel
theorem dX2_init_12 : decode cX2_init 12 = .ok (.aload_n 0, 1) := by decide +kernel
theorem dX2_init_13 : decode cX2_init 13 = .ok (.bipush 24, 2) := by decide +kernel
theorem dX2_init_15 : decode cX2_init 15 = .ok (.newarray .int, 2) := by decide +kernel
theorem dX2_init_17 : decode cX2_init 17 = .ok (.putfield 15, 3) := by decide +kernel
theorem dX2_init_20 : decode cX2_init 20 = .ok (.aload_n 0, 1) := by decide +kernel
theorem dX2_init_21 : decode cX2_init 21 = .ok (.bipush 24, 2) := by decide +kernel
theorem dX2_init_23 : decode cX2_init 23 = .ok (.newarray .int, 2) := by decide +kernel
theorem dX2_init_25 : decode cX2_init 25 = .ok (.putfield 18, 3) := by decide +kernel
theorem dX2_init_28 : decode cX2_init 28 = .ok (.return_, 1) := by decide +kernel
theorem dX2_spread_0 : decode cX2_spread 0 = .ok (.aload_n 0, 1) := by decide +kernel
theorem dX2_spread_1 : decode cX2_spread 1 = .ok (.iload_n 2, 1) := by decide +kernel
theorem dX2_spread_2 : decode cX2_spread 2 = .ok (.invokestatic 21, 3) := by decide +kernel
theorem dX2_spread_5 : decode cX2_spread 5 = .ok (.putfield 27, 3) := by decide +kernel
theorem dX2_spread_8 : decode cX2_spread 8 = .ok (.aload_n 0, 1) := by decide +kernel
theorem dX2_spread_9 : decode cX2_spread 9 = .ok (.getfield 9, 3) := by decide +kernel
theorem dX2_spread_12 : decode cX2_spread 12 = .ok (.iload_n 2, 1) := by decide +kernel
theorem dX2_spread_13 : decode cX2_spread 13 = .ok (.iconst 0, 1) := by decide +kernel
theorem dX2_spread_14 : decode cX2_spread 14 = .ok (.invokestatic 31, 3) := by decide +kernel
theorem dX2_spread_17 : decode cX2_spread 17 = .ok (.aload_n 0, 1) := by decide +kernel
theorem dX2_spread_18 : decode cX2_spread 18 = .ok (.getfield 15, 3) := by decide +kernel
theorem dX2_spread_21 : decode cX2_spread 21 = .ok (.iload_n 2, 1) := by decide +kernel
theorem dX2_spread_22 : decode cX2_spread 22 = .ok (.iconst 0, 1) := by decide +kernel
theorem dX2_spread_23 : decode cX2_spread 23 = .ok (.invokestatic 31, 3) := by decide +kernel
theorem dX2_spread_26 : decode cX2_spread 26 = .ok (.aload_n 0, 1) := by decide +kernel
theorem dX2_spread_27 : decode cX2_spread 27 = .ok (.getfield 18, 3) := by decide +kernel
theorem dX2_spread_30 : decode cX2_spread 30 = .ok (.iload_n 2, 1) := by decide +kernel
theorem dX2_spread_31 : decode cX2_spread 31 = .ok (.iload_n 2, 1) := by decide +kernel
theorem dX2_spread_32 : decode cX2_spread 32 = .ok (.invokestatic 31, 3) := by decide +kernel
theorem dX2_spread_35 : decode cX2_spread 35 = .ok (.iconst 0, 1) := by decide +kernel
theorem dX2_spread_36 : decode cX2_spread 36 = .ok (.istore_n 3, 1) := by decide +kernel
theorem dX2_spread_37 : decode cX2_spread 37 = .ok (.iconst 0, 1) := by decide +kernel
theorem dX2_spread_38 : decode cX2_spread 38 = .ok (.istore 4, 2) := by decide +kernel
theorem dX2_spread_40 : decode cX2_spread 40 = .ok (.iload 4, 2) := by decide +kernel
theorem dX2_spread_42 : decode cX2_spread 42 = .ok (.bipush 24, 2) := by decide +kernel
theorem dX2_spread_44 : decode cX2_spread 44 = .ok (.if_icmp .ge 54, 3) := by decide +kernel
theorem dX2_spread_47 : decode cX2_spread 47 = .ok (.aload_n 0, 1) := by decide +kernel
theorem dX2_spread_48 : decode cX2_spread 48 = .ok (.getfield 27, 3) := by decide +kernel
theorem dX2_spread_51 : decode cX2_spread 51 = .ok (.iload_n 3, 1) := by decide +kernel
theorem dX2_spread_52 : decode cX2_spread 52 = .ok (.if_icmp .eq 46, 3) := by decide +kernel
theorem dX2_spread_55 : decode cX2_spread 55 = .ok (.aload_n 0, 1) := by decide +kernel
theorem dX2_spread_56 : decode cX2_spread 56 = .ok (.getfield 27, 3) := by decide +kernel
theorem dX2_spread_59 : decode cX2_spread 59 = .ok (.istore_n 3, 1) := by decide +kernel
theorem dX2_spread_60 : decode cX2_spread 60 = .ok (.iconst 1, 1) := by decide +kernel
theorem dX2_spread_61 : decode cX2_spread 61 = .ok (.istore 5, 2) := by decide +kernel
theorem dX2_spread_63 : decode cX2_spread 63 = .ok (.iload 5, 2) := by decide +kernel
theorem dX2_spread_65 : decode cX2_spread 65 = .ok (.bipush 24, 2) := by decide +kernel
theorem dX2_spread_67 : decode cX2_spread 67 = .ok (.if_icmp .ge 25, 3) := by decide +kernel
theorem dX2_spread_70 : decode cX2_spread 70 = .ok (.aload_n 1, 1) := by decide +kernel
theorem dX2_spread_71 : decode cX2_spread 71 = .ok (.iload 5, 2) := by decide +kernel
theorem dX2_spread_73 : decode cX2_spread 73 = .ok (.invokevirtual 37, 3) := by decide +kernel
theorem dX2_spread_76 : decode cX2_spread 76 = .ok (.ifCond .eq 10, 3) := by decide +kernel
theorem dX2_spread_79 : decode cX2_spread 79 = .ok (.aload_n 0, 1) := by decide +kernel
theorem dX2_spread_80 : decode cX2_spread 80 = .ok (.aload_n 1, 1) := by decide +kernel
theorem dX2_spread_81 : decode cX2_spread 81 = .ok (.iload 5, 2) := by decide +kernel
theorem dX2_spread_83 : decode cX2_spread 83 = .ok (.invokevirtual 43, 3) := by decide +kernel
theorem dX2_spread_86 : decode cX2_spread 86 = .ok (.iinc 5 1, 3) := by decide +kernel
theorem dX2_spread_89 : decode cX2_spread 89 = .ok (.goto (-26), 3) := by decide +kernel
theorem dX2_spread_92 : decode cX2_spread 92 = .ok (.iinc 4 1, 3) := by decide +kernel
theorem dX2_spread_95 : decode cX2_spread 95 = .ok (.goto (-55), 3) := by decide +kernel
theorem dX2_spread_98 : decode cX2_spread 98 = .ok (.return_, 1) := by decide +kernel
theorem dX2_spreadAlong_0 : decode cX2_spreadAlong 0 = .ok (.aload_n 1, 1) := by decide +kernel
theorem dX2_spreadAlong_1 : decode cX2_spreadAlong 1 = .ok (.iload_n 2, 1) := by decide +kernel
theorem dX2_spreadAlong_2 : decode cX2_spreadAlong 2 = .ok (.invokevirtual 47, 3) := by decide +kernel
theorem dX2_spreadAlong_5 : decode cX2_spreadAlong 5 = .ok (.istore_n 3, 1) := by decide +kernel
theorem dX2_spreadAlong_6 : decode cX2_spreadAlong 6 = .ok (.aload_n 0, 1) := by decide +kernel
theorem dX2_spreadAlong_7 : decode cX2_spreadAlong 7 = .ok (.getfield 27, 3) := by decide +kernel
theorem dX2_spreadAlong_10 : decode cX2_spreadAlong 10 = .ok (.iload_n 2, 1) := by decide +kernel
theorem dX2_spreadAlong_11 : decode cX2_spreadAlong 11 = .ok (.invokestatic 50, 3) := by decide +kernel
theorem dX2_spreadAlong_14 : decode cX2_spreadAlong 14 = .ok (.istore 4, 2) := by decide +kernel
theorem dX2_spreadAlong_16 : decode cX2_spreadAlong 16 = .ok (.iload 4, 2) := by decide +kernel
theorem dX2_spreadAlong_18 : decode cX2_spreadAlong 18 = .ok (.aload_n 0, 1) := by decide +kernel
theorem dX2_spreadAlong_19 : decode cX2_spreadAlong 19 = .ok (.getfield 27, 3) := by decide +kernel
theorem dX2_spreadAlong_22 : decode cX2_spreadAlong 22 = .ok (.iload_n 3, 1) := by decide +kernel
theorem dX2_spreadAlong_23 : decode cX2_spreadAlong 23 = .ok (.invokestatic 50, 3) := by decide +kernel
theorem dX2_spreadAlong_26 : decode cX2_spreadAlong 26 = .ok (.if_icmp .ne 4, 3) := by decide +kernel
theorem dX2_spreadAlong_29 : decode cX2_spreadAlong 29 = .ok (.return_, 1) := by decide +kernel
theorem dX2_spreadAlong_30 : decode cX2_spreadAlong 30 = .ok (.iload 4, 2) := by decide +kernel
theorem dX2_spreadAlong_32 : decode cX2_spreadAlong 32 = .ok (.ifCond .eq 7, 3) := by decide +kernel
theorem dX2_spreadAlong_35 : decode cX2_spreadAlong 35 = .ok (.iload_n 2, 1) := by decide +kernel
theorem dX2_spreadAlong_36 : decode cX2_spreadAlong 36 = .ok (.goto 4, 3) := by decide +kernel
theorem dX2_spreadAlong_39 : decode cX2_spreadAlong 39 = .ok (.iload_n 3, 1) := by decide +kernel
theorem dX2_spreadAlong_40 : decode cX2_spreadAlong 40 = .ok (.istore 5, 2) := by decide +kernel
theorem dX2_spreadAlong_42 : decode cX2_spreadAlong 42 = .ok (.iload 4, 2) := by decide +kernel
theorem dX2_spreadAlong_44 : decode cX2_spreadAlong 44 = .ok (.ifCond .eq 7, 3) := by decide +kernel
theorem dX2_spreadAlong_47 : decode cX2_spreadAlong 47 = .ok (.iload_n 3, 1) := by decide +kernel
theorem dX2_spreadAlong_48 : decode cX2_spreadAlong 48 = .ok (.goto 4, 3) := by decide +kernel
theorem dX2_spreadAlong_51 : decode cX2_spreadAlong 51 = .ok (.iload_n 2, 1) := by decide +kernel
theorem dX2_spreadAlong_52 : decode cX2_spreadAlong 52 = .ok (.istore 6, 2) := by decide +kernel
theorem dX2_spreadAlong_54 : decode cX2_spreadAlong 54 = .ok (.aload_n 0, 1) := by decide +kernel
theorem dX2_spreadAlong_55 : decode cX2_spreadAlong 55 = .ok (.dup, 1) := by decide +kernel
theorem dX2_spreadAlong_56 : decode cX2_spreadAlong 56 = .ok (.getfield 27, 3) := by decide +kernel
theorem dX2_spreadAlong_59 : decode cX2_spreadAlong 59 = .ok (.iload 6, 2) := by decide +kernel
theorem dX2_spreadAlong_61 : decode cX2_spreadAlong 61 = .ok (.invokestatic 21, 3) := by decide +kernel
theorem dX2_spreadAlong_64 : decode cX2_spreadAlong 64 = .ok (.ior, 1) := by decide +kernel
theorem dX2_spreadAlong_65 : decode cX2_spreadAlong 65 = .ok (.putfield 27, 3) := by decide +kernel
theorem dX2_spreadAlong_68 : decode cX2_spreadAlong 68 = .ok (.aload_n 0, 1) := by decide +kernel
theorem dX2_spreadAlong_69 : decode cX2_spreadAlong 69 = .ok (.getfield 9, 3) := by decide +kernel
theorem dX2_spreadAlong_72 : decode cX2_spreadAlong 72 = .ok (.iload 6, 2) := by decide +kernel
theorem dX2_spreadAlong_74 : decode cX2_spreadAlong 74 = .ok (.aload_n 0, 1) := by decide +kernel
theorem dX2_spreadAlong_75 : decode cX2_spreadAlong 75 = .ok (.iload 5, 2) := by decide +kernel
theorem dX2_spreadAlong_77 : decode cX2_spreadAlong 77 = .ok (.invokevirtual 54, 3) := by decide +kernel
theorem dX2_spreadAlong_80 : decode cX2_spreadAlong 80 = .ok (.iconst 1, 1) := by decide +kernel
theorem dX2_spreadAlong_81 : decode cX2_spreadAlong 81 = .ok (.iadd, 1) := by decide +kernel
theorem dX2_spreadAlong_82 : decode cX2_spreadAlong 82 = .ok (.invokestatic 31, 3) := by decide +kernel
theorem dX2_spreadAlong_85 : decode cX2_spreadAlong 85 = .ok (.aload_n 0, 1) := by decide +kernel
theorem dX2_spreadAlong_86 : decode cX2_spreadAlong 86 = .ok (.getfield 15, 3) := by decide +kernel
theorem dX2_spreadAlong_89 : decode cX2_spreadAlong 89 = .ok (.iload 6, 2) := by decide +kernel
theorem dX2_spreadAlong_91 : decode cX2_spreadAlong 91 = .ok (.aload_n 0, 1) := by decide +kernel
theorem dX2_spreadAlong_92 : decode cX2_spreadAlong 92 = .ok (.iload 5, 2) := by decide +kernel
theorem dX2_spreadAlong_94 : decode cX2_spreadAlong 94 = .ok (.invokevirtual 57, 3) := by decide +kernel
theorem dX2_spreadAlong_97 : decode cX2_spreadAlong 97 = .ok (.aload_n 1, 1) := by decide +kernel
theorem dX2_spreadAlong_98 : decode cX2_spreadAlong 98 = .ok (.iload_n 2, 1) := by decide +kernel
theorem dX2_spreadAlong_99 : decode cX2_spreadAlong 99 = .ok (.invokevirtual 60, 3) := by decide +kernel
theorem dX2_spreadAlong_102 : decode cX2_spreadAlong 102 = .ok (.invokestatic 63, 3) := by decide +kernel
theorem dX2_spreadAlong_105 : decode cX2_spreadAlong 105 = .ok (.iadd, 1) := by decide +kernel
theorem dX2_spreadAlong_106 : decode cX2_spreadAlong 106 = .ok (.invokestatic 31, 3) := by decide +kernel
theorem dX2_spreadAlong_109 : decode cX2_spreadAlong 109 = .ok (.aload_n 0, 1) := by decide +kernel
theorem dX2_spreadAlong_110 : decode cX2_spreadAlong 110 = .ok (.getfield 18, 3) := by decide +kernel
theorem dX2_spreadAlong_113 : decode cX2_spreadAlong 113 = .ok (.iload 6, 2) := by decide +kernel
theorem dX2_spreadAlong_115 : decode cX2_spreadAlong 115 = .ok (.iload 5, 2) := by decide +kernel
theorem dX2_spreadAlong_117 : decode cX2_spreadAlong 117 = .ok (.invokestatic 31, 3) := by decide +kernel
theorem dX2_spreadAlong_120 : decode cX2_spreadAlong 120 = .ok (.return_, 1) := by decide +kernel
theorem dX2_rootReached_0 : decode cX2_rootReached 0 = .ok (.aload_n 0, 1) := by decide +kernel
theorem dX2_rootReached_1 : decode cX2_rootReached 1 = .ok (.getfield 27, 3) := by decide +kernel
theorem dX2_rootReached_4 : decode cX2_rootReached 4 = .ok (.aload_n 1, 1) := by decide +kernel
theorem dX2_rootReached_5 : decode cX2_rootReached 5 = .ok (.getfield 68, 3) := by decide +kernel
theorem dX2_rootReached_8 : decode cX2_rootReached 8 = .ok (.iand, 1) := by decide +kernel
theorem dX2_rootReached_9 : decode cX2_rootReached 9 = .ok (.invokestatic 71, 3) := by decide +kernel
theorem dX2_rootReached_12 : decode cX2_rootReached 12 = .ok (.ireturn, 1) := by decide +kernel
theorem dX2_stepsTo_0 : decode cX2_stepsTo 0 = .ok (.aload_n 0, 1) := by decide +kernel
theorem dX2_stepsTo_1 : decode cX2_stepsTo 1 = .ok (.getfield 9, 3) := by decide +kernel
theorem dX2_stepsTo_4 : decode cX2_stepsTo 4 = .ok (.iload_n 1, 1) := by decide +kernel
theorem dX2_stepsTo_5 : decode cX2_stepsTo 5 = .ok (.invokestatic 74, 3) := by decide +kernel
theorem dX2_stepsTo_8 : decode cX2_stepsTo 8 = .ok (.ireturn, 1) := by decide +kernel
theorem dX2_cellsTo_0 : decode cX2_cellsTo 0 = .ok (.aload_n 0, 1) := by decide +kernel
theorem dX2_cellsTo_1 : decode cX2_cellsTo 1 = .ok (.getfield 15, 3) := by decide +kernel
theorem dX2_cellsTo_4 : decode cX2_cellsTo 4 = .ok (.iload_n 1, 1) := by decide +kernel
theorem dX2_cellsTo_5 : decode cX2_cellsTo 5 = .ok (.invokestatic 74, 3) := by decide +kernel
theorem dX2_cellsTo_8 : decode cX2_cellsTo 8 = .ok (.ireturn, 1) := by decide +kernel
theorem dX2_towardsStart_0 : decode cX2_towardsStart 0 = .ok (.iload_n 1, 1) := by decide +kernel
theorem dX2_towardsStart_1 : decode cX2_towardsStart 1 = .ok (.istore_n 3, 1) := by decide +kernel
theorem dX2_towardsStart_2 : decode cX2_towardsStart 2 = .ok (.iconst 0, 1) := by decide +kernel
theorem dX2_towardsStart_3 : decode cX2_towardsStart 3 = .ok (.istore 4, 2) := by decide +kernel
theorem dX2_towardsStart_5 : decode cX2_towardsStart 5 = .ok (.iload 4, 2) := by decide +kernel
theorem dX2_towardsStart_7 : decode cX2_towardsStart 7 = .ok (.iload_n 2, 1) := by decide +kernel
theorem dX2_towardsStart_8 : decode cX2_towardsStart 8 = .ok (.if_icmp .ge 25, 3) := by decide +kernel
theorem dX2_towardsStart_11 : decode cX2_towardsStart 11 = .ok (.iload 4, 2) := by decide +kernel
theorem dX2_towardsStart_13 : decode cX2_towardsStart 13 = .ok (.bipush 24, 2) := by decide +kernel
theorem dX2_towardsStart_15 : decode cX2_towardsStart 15 = .ok (.if_icmp .ge 18, 3) := by decide +kernel
theorem dX2_towardsStart_18 : decode cX2_towardsStart 18 = .ok (.aload_n 0, 1) := by decide +kernel
theorem dX2_towardsStart_19 : decode cX2_towardsStart 19 = .ok (.getfield 18, 3) := by decide +kernel
theorem dX2_towardsStart_22 : decode cX2_towardsStart 22 = .ok (.iload_n 3, 1) := by decide +kernel
theorem dX2_towardsStart_23 : decode cX2_towardsStart 23 = .ok (.invokestatic 74, 3) := by decide +kernel
theorem dX2_towardsStart_26 : decode cX2_towardsStart 26 = .ok (.istore_n 3, 1) := by decide +kernel
theorem dX2_towardsStart_27 : decode cX2_towardsStart 27 = .ok (.iinc 4 1, 3) := by decide +kernel
theorem dX2_towardsStart_30 : decode cX2_towardsStart 30 = .ok (.goto (-25), 3) := by decide +kernel
theorem dX2_towardsStart_33 : decode cX2_towardsStart 33 = .ok (.iload_n 3, 1) := by decide +kernel
theorem dX2_towardsStart_34 : decode cX2_towardsStart 34 = .ok (.ireturn, 1) := by decide +kernel
theorem dX2_farthest_0 : decode cX2_farthest 0 = .ok (.iconst 0, 1) := by decide +kernel
theorem dX2_farthest_1 : decode cX2_farthest 1 = .ok (.istore_n 1, 1) := by decide +kernel
theorem dX2_farthest_2 : decode cX2_farthest 2 = .ok (.iconst 0, 1) := by decide +kernel
theorem dX2_farthest_3 : decode cX2_farthest 3 = .ok (.istore_n 2, 1) := by decide +kernel
theorem dX2_farthest_4 : decode cX2_farthest 4 = .ok (.iload_n 2, 1) := by decide +kernel
theorem dX2_farthest_5 : decode cX2_farthest 5 = .ok (.bipush 24, 2) := by decide +kernel
theorem dX2_farthest_7 : decode cX2_farthest 7 = .ok (.if_icmp .ge 30, 3) := by decide +kernel
theorem dX2_farthest_10 : decode cX2_farthest 10 = .ok (.aload_n 0, 1) := by decide +kernel
theorem dX2_farthest_11 : decode cX2_farthest 11 = .ok (.getfield 27, 3) := by decide +kernel
theorem dX2_farthest_14 : decode cX2_farthest 14 = .ok (.iload_n 2, 1) := by decide +kernel
theorem dX2_farthest_15 : decode cX2_farthest 15 = .ok (.invokestatic 50, 3) := by decide +kernel
theorem dX2_farthest_18 : decode cX2_farthest 18 = .ok (.ifCond .eq 13, 3) := by decide +kernel
theorem dX2_farthest_21 : decode cX2_farthest 21 = .ok (.iload_n 1, 1) := by decide +kernel
theorem dX2_farthest_22 : decode cX2_farthest 22 = .ok (.aload_n 0, 1) := by decide +kernel
theorem dX2_farthest_23 : decode cX2_farthest 23 = .ok (.iload_n 2, 1) := by decide +kernel
theorem dX2_farthest_24 : decode cX2_farthest 24 = .ok (.invokevirtual 54, 3) := by decide +kernel
theorem dX2_farthest_27 : decode cX2_farthest 27 = .ok (.invokestatic 78, 3) := by decide +kernel
theorem dX2_farthest_30 : decode cX2_farthest 30 = .ok (.istore_n 1, 1) := by decide +kernel
theorem dX2_farthest_31 : decode cX2_farthest 31 = .ok (.iinc 2 1, 3) := by decide +kernel
theorem dX2_farthest_34 : decode cX2_farthest 34 = .ok (.goto (-30), 3) := by decide +kernel
theorem dX2_farthest_37 : decode cX2_farthest 37 = .ok (.iload_n 1, 1) := by decide +kernel
theorem dX2_farthest_38 : decode cX2_farthest 38 = .ok (.ireturn, 1) := by decide +kernel
theorem dX3_at_0 : decode cX3_at 0 = .ok (.iload_n 1, 1) := by decide +kernel
theorem dX3_at_1 : decode cX3_at 1 = .ok (.ifCond .lt 15, 3) := by decide +kernel
theorem dX3_at_4 : decode cX3_at 4 = .ok (.iload_n 1, 1) := by decide +kernel
theorem dX3_at_5 : decode cX3_at 5 = .ok (.aload_n 0, 1) := by decide +kernel
theorem dX3_at_6 : decode cX3_at 6 = .ok (.arraylength, 1) := by decide +kernel
theorem dX3_at_7 : decode cX3_at 7 = .ok (.if_icmp .ge 9, 3) := by decide +kernel
theorem dX3_at_10 : decode cX3_at 10 = .ok (.aload_n 0, 1) := by decide +kernel
theorem dX3_at_11 : decode cX3_at 11 = .ok (.iload_n 1, 1) := by decide +kernel
theorem dX3_at_12 : decode cX3_at 12 = .ok (.iaload, 1) := by decide +kernel
theorem dX3_at_13 : decode cX3_at 13 = .ok (.goto 4, 3) := by decide +kernel
theorem dX3_at_16 : decode cX3_at 16 = .ok (.iconst 0, 1) := by decide +kernel
theorem dX3_at_17 : decode cX3_at 17 = .ok (.ireturn, 1) := by decide +kernel
theorem dX3_put_0 : decode cX3_put 0 = .ok (.iload_n 1, 1) := by decide +kernel
theorem dX3_put_1 : decode cX3_put 1 = .ok (.ifCond .lt 13, 3) := by decide +kernel
theorem dX3_put_4 : decode cX3_put 4 = .ok (.iload_n 1, 1) := by decide +kernel
theorem dX3_put_5 : decode cX3_put 5 = .ok (.aload_n 0, 1) := by decide +kernel
theorem dX3_put_6 : decode cX3_put 6 = .ok (.arraylength, 1) := by decide +kernel
theorem dX3_put_7 : decode cX3_put 7 = .ok (.if_icmp .ge 7, 3) := by decide +kernel
theorem dX3_put_10 : decode cX3_put 10 = .ok (.aload_n 0, 1) := by decide +kernel
theorem dX3_put_11 : decode cX3_put 11 = .ok (.iload_n 1, 1) := by decide +kernel
theorem dX3_put_12 : decode cX3_put 12 = .ok (.iload_n 2, 1) := by decide +kernel
theorem dX3_put_13 : decode cX3_put 13 = .ok (.iastore, 1) := by decide +kernel
theorem dX3_put_14 : decode cX3_put 14 = .ok (.return_, 1) := by decide +kernel
theorem dX3_copy_0 : decode cX3_copy 0 = .ok (.aload_n 0, 1) := by decide +kernel
theorem dX3_copy_1 : decode cX3_copy 1 = .ok (.iconst 0, 1) := by decide +kernel
theorem dX3_copy_2 : decode cX3_copy 2 = .ok (.aload_n 1, 1) := by decide +kernel
theorem dX3_copy_3 : decode cX3_copy 3 = .ok (.iconst 0, 1) := by decide +kernel
theorem dX3_copy_4 : decode cX3_copy 4 = .ok (.aload_n 0, 1) := by decide +kernel
theorem dX3_copy_5 : decode cX3_copy 5 = .ok (.arraylength, 1) := by decide +kernel
theorem dX3_copy_6 : decode cX3_copy 6 = .ok (.aload_n 1, 1) := by decide +kernel
theorem dX3_copy_7 : decode cX3_copy 7 = .ok (.arraylength, 1) := by decide +kernel
theorem dX3_copy_8 : decode cX3_copy 8 = .ok (.invokestatic 7, 3) := by decide +kernel
theorem dX3_copy_11 : decode cX3_copy 11 = .ok (.invokestatic 13, 3) := by decide +kernel
theorem dX3_copy_14 : decode cX3_copy 14 = .ok (.return_, 1) := by decide +kernel
theorem dX4_of_0 : decode cX4_of 0 = .ok (.iconst 1, 1) := by decide +kernel
theorem dX4_of_1 : decode cX4_of 1 = .ok (.iload_n 0, 1) := by decide +kernel
theorem dX4_of_2 : decode cX4_of 2 = .ok (.ishl, 1) := by decide +kernel
theorem dX4_of_3 : decode cX4_of 3 = .ok (.ireturn, 1) := by decide +kernel
theorem dX4_isIn_0 : decode cX4_isIn 0 = .ok (.iload_n 1, 1) := by decide +kernel
theorem dX4_isIn_1 : decode cX4_isIn 1 = .ok (.ifCond .lt 21, 3) := by decide +kernel
theorem dX4_isIn_4 : decode cX4_isIn 4 = .ok (.iload_n 1, 1) := by decide +kernel
theorem dX4_isIn_5 : decode cX4_isIn 5 = .ok (.bipush 24, 2) := by decide +kernel
theorem dX4_isIn_7 : decode cX4_isIn 7 = .ok (.if_icmp .ge 15, 3) := by decide +kernel
theorem dX4_isIn_10 : decode cX4_isIn 10 = .ok (.iload_n 0, 1) := by decide +kernel
theorem dX4_isIn_11 : decode cX4_isIn 11 = .ok (.iload_n 1, 1) := by decide +kernel
theorem dX4_isIn_12 : decode cX4_isIn 12 = .ok (.iushr, 1) := by decide +kernel
theorem dX4_isIn_13 : decode cX4_isIn 13 = .ok (.iconst 1, 1) := by decide +kernel
theorem dX4_isIn_14 : decode cX4_isIn 14 = .ok (.iand, 1) := by decide +kernel
theorem dX4_isIn_15 : decode cX4_isIn 15 = .ok (.ifCond .eq 7, 3) := by decide +kernel
theorem dX4_isIn_18 : decode cX4_isIn 18 = .ok (.iconst 1, 1) := by decide +kernel
theorem dX4_isIn_19 : decode cX4_isIn 19 = .ok (.goto 4, 3) := by decide +kernel
theorem dX4_isIn_22 : decode cX4_isIn 22 = .ok (.iconst 0, 1) := by decide +kernel
theorem dX4_isIn_23 : decode cX4_isIn 23 = .ok (.ireturn, 1) := by decide +kernel
theorem dX5_init_0 : decode cX5_init 0 = .ok (.aload_n 0, 1) := by decide +kernel
theorem dX5_init_1 : decode cX5_init 1 = .ok (.invokespecial 3, 3) := by decide +kernel
theorem dX5_init_4 : decode cX5_init 4 = .ok (.aload_n 0, 1) := by decide +kernel
theorem dX5_init_5 : decode cX5_init 5 = .ok (.iconst 1, 1) := by decide +kernel
theorem dX5_init_6 : decode cX5_init 6 = .ok (.putfield 9, 3) := by decide +kernel
theorem dX5_init_9 : decode cX5_init 9 = .ok (.aload_n 0, 1) := by decide +kernel
theorem dX5_init_10 : decode cX5_init 10 = .ok (.iconst 1, 1) := by decide +kernel
theorem dX5_init_11 : decode cX5_init 11 = .ok (.putfield 15, 3) := by decide +kernel
theorem dX5_init_14 : decode cX5_init 14 = .ok (.aload_n 0, 1) := by decide +kernel
theorem dX5_init_15 : decode cX5_init 15 = .ok (.bipush 24, 2) := by decide +kernel
theorem dX5_init_17 : decode cX5_init 17 = .ok (.newarray .int, 2) := by decide +kernel
theorem dX5_init_19 : decode cX5_init 19 = .ok (.putfield 18, 3) := by decide +kernel
theorem dX5_init_22 : decode cX5_init 22 = .ok (.aload_n 0, 1) := by decide +kernel
theorem dX5_init_23 : decode cX5_init 23 = .ok (.bipush 24, 2) := by decide +kernel
theorem dX5_init_25 : decode cX5_init 25 = .ok (.newarray .int, 2) := by decide +kernel
theorem dX5_init_27 : decode cX5_init 27 = .ok (.putfield 22, 3) := by decide +kernel
theorem dX5_init_30 : decode cX5_init 30 = .ok (.aload_n 0, 1) := by decide +kernel
theorem dX5_init_31 : decode cX5_init 31 = .ok (.bipush 24, 2) := by decide +kernel
theorem dX5_init_33 : decode cX5_init 33 = .ok (.newarray .int, 2) := by decide +kernel
theorem dX5_init_35 : decode cX5_init 35 = .ok (.putfield 25, 3) := by decide +kernel
theorem dX5_init_38 : decode cX5_init 38 = .ok (.aload_n 0, 1) := by decide +kernel
theorem dX5_init_39 : decode cX5_init 39 = .ok (.sipush 192, 3) := by decide +kernel
theorem dX5_init_42 : decode cX5_init 42 = .ok (.newarray .int, 2) := by decide +kernel
theorem dX5_init_44 : decode cX5_init 44 = .ok (.putfield 28, 3) := by decide +kernel
theorem dX5_init_47 : decode cX5_init 47 = .ok (.aload_n 0, 1) := by decide +kernel
theorem dX5_init_48 : decode cX5_init 48 = .ok (.iconst 1, 1) := by decide +kernel
theorem dX5_init_49 : decode cX5_init 49 = .ok (.putfield 31, 3) := by decide +kernel
theorem dX5_init_52 : decode cX5_init 52 = .ok (.aload_n 0, 1) := by decide +kernel
theorem dX5_init_53 : decode cX5_init 53 = .ok (.bipush 6, 2) := by decide +kernel
theorem dX5_init_55 : decode cX5_init 55 = .ok (.putfield 34, 3) := by decide +kernel
theorem dX5_init_58 : decode cX5_init 58 = .ok (.return_, 1) := by decide +kernel
theorem dX5_copyFrom_0 : decode cX5_copyFrom 0 = .ok (.aload_n 0, 1) := by decide +kernel
theorem dX5_copyFrom_1 : decode cX5_copyFrom 1 = .ok (.aload_n 1, 1) := by decide +kernel
theorem dX5_copyFrom_2 : decode cX5_copyFrom 2 = .ok (.getfield 9, 3) := by decide +kernel
theorem dX5_copyFrom_5 : decode cX5_copyFrom 5 = .ok (.putfield 9, 3) := by decide +kernel
theorem dX5_copyFrom_8 : decode cX5_copyFrom 8 = .ok (.aload_n 0, 1) := by decide +kernel
theorem dX5_copyFrom_9 : decode cX5_copyFrom 9 = .ok (.aload_n 1, 1) := by decide +kernel
theorem dX5_copyFrom_10 : decode cX5_copyFrom 10 = .ok (.getfield 37, 3) := by decide +kernel
theorem dX5_copyFrom_13 : decode cX5_copyFrom 13 = .ok (.putfield 37, 3) := by decide +kernel
theorem dX5_copyFrom_16 : decode cX5_copyFrom 16 = .ok (.aload_n 0, 1) := by decide +kernel
theorem dX5_copyFrom_17 : decode cX5_copyFrom 17 = .ok (.aload_n 1, 1) := by decide +kernel
theorem dX5_copyFrom_18 : decode cX5_copyFrom 18 = .ok (.getfield 15, 3) := by decide +kernel
theorem dX5_copyFrom_21 : decode cX5_copyFrom 21 = .ok (.putfield 15, 3) := by decide +kernel
theorem dX5_copyFrom_24 : decode cX5_copyFrom 24 = .ok (.aload_n 1, 1) := by decide +kernel
theorem dX5_copyFrom_25 : decode cX5_copyFrom 25 = .ok (.getfield 18, 3) := by decide +kernel
theorem dX5_copyFrom_28 : decode cX5_copyFrom 28 = .ok (.aload_n 0, 1) := by decide +kernel
theorem dX5_copyFrom_29 : decode cX5_copyFrom 29 = .ok (.getfield 18, 3) := by decide +kernel
theorem dX5_copyFrom_32 : decode cX5_copyFrom 32 = .ok (.invokestatic 40, 3) := by decide +kernel
theorem dX5_copyFrom_35 : decode cX5_copyFrom 35 = .ok (.aload_n 1, 1) := by decide +kernel
theorem dX5_copyFrom_36 : decode cX5_copyFrom 36 = .ok (.getfield 22, 3) := by decide +kernel
theorem dX5_copyFrom_39 : decode cX5_copyFrom 39 = .ok (.aload_n 0, 1) := by decide +kernel
theorem dX5_copyFrom_40 : decode cX5_copyFrom 40 = .ok (.getfield 22, 3) := by decide +kernel
theorem dX5_copyFrom_43 : decode cX5_copyFrom 43 = .ok (.invokestatic 40, 3) := by decide +kernel
theorem dX5_copyFrom_46 : decode cX5_copyFrom 46 = .ok (.aload_n 1, 1) := by decide +kernel
theorem dX5_copyFrom_47 : decode cX5_copyFrom 47 = .ok (.getfield 25, 3) := by decide +kernel
theorem dX5_copyFrom_50 : decode cX5_copyFrom 50 = .ok (.aload_n 0, 1) := by decide +kernel
theorem dX5_copyFrom_51 : decode cX5_copyFrom 51 = .ok (.getfield 25, 3) := by decide +kernel
theorem dX5_copyFrom_54 : decode cX5_copyFrom 54 = .ok (.invokestatic 40, 3) := by decide +kernel
theorem dX5_copyFrom_57 : decode cX5_copyFrom 57 = .ok (.aload_n 1, 1) := by decide +kernel
theorem dX5_copyFrom_58 : decode cX5_copyFrom 58 = .ok (.getfield 28, 3) := by decide +kernel
theorem dX5_copyFrom_61 : decode cX5_copyFrom 61 = .ok (.aload_n 0, 1) := by decide +kernel
theorem dX5_copyFrom_62 : decode cX5_copyFrom 62 = .ok (.getfield 28, 3) := by decide +kernel
theorem dX5_copyFrom_65 : decode cX5_copyFrom 65 = .ok (.invokestatic 40, 3) := by decide +kernel
theorem dX5_copyFrom_68 : decode cX5_copyFrom 68 = .ok (.aload_n 0, 1) := by decide +kernel
theorem dX5_copyFrom_69 : decode cX5_copyFrom 69 = .ok (.aload_n 1, 1) := by decide +kernel
theorem dX5_copyFrom_70 : decode cX5_copyFrom 70 = .ok (.getfield 31, 3) := by decide +kernel
theorem dX5_copyFrom_73 : decode cX5_copyFrom 73 = .ok (.putfield 31, 3) := by decide +kernel
theorem dX5_copyFrom_76 : decode cX5_copyFrom 76 = .ok (.aload_n 0, 1) := by decide +kernel
theorem dX5_copyFrom_77 : decode cX5_copyFrom 77 = .ok (.aload_n 1, 1) := by decide +kernel
theorem dX5_copyFrom_78 : decode cX5_copyFrom 78 = .ok (.getfield 34, 3) := by decide +kernel
theorem dX5_copyFrom_81 : decode cX5_copyFrom 81 = .ok (.putfield 34, 3) := by decide +kernel
theorem dX5_copyFrom_84 : decode cX5_copyFrom 84 = .ok (.aload_n 0, 1) := by decide +kernel
theorem dX5_copyFrom_85 : decode cX5_copyFrom 85 = .ok (.aload_n 1, 1) := by decide +kernel
theorem dX5_copyFrom_86 : decode cX5_copyFrom 86 = .ok (.getfield 46, 3) := by decide +kernel
theorem dX5_copyFrom_89 : decode cX5_copyFrom 89 = .ok (.putfield 46, 3) := by decide +kernel
theorem dX5_copyFrom_92 : decode cX5_copyFrom 92 = .ok (.aload_n 0, 1) := by decide +kernel
theorem dX5_copyFrom_93 : decode cX5_copyFrom 93 = .ok (.aload_n 1, 1) := by decide +kernel
theorem dX5_copyFrom_94 : decode cX5_copyFrom 94 = .ok (.getfield 49, 3) := by decide +kernel
theorem dX5_copyFrom_97 : decode cX5_copyFrom 97 = .ok (.putfield 49, 3) := by decide +kernel
theorem dX5_copyFrom_100 : decode cX5_copyFrom 100 = .ok (.aload_n 0, 1) := by decide +kernel
theorem dX5_copyFrom_101 : decode cX5_copyFrom 101 = .ok (.aload_n 1, 1) := by decide +kernel
theorem dX5_copyFrom_102 : decode cX5_copyFrom 102 = .ok (.getfield 52, 3) := by decide +kernel
theorem dX5_copyFrom_105 : decode cX5_copyFrom 105 = .ok (.putfield 52, 3) := by decide +kernel
theorem dX5_copyFrom_108 : decode cX5_copyFrom 108 = .ok (.aload_n 0, 1) := by decide +kernel
theorem dX5_copyFrom_109 : decode cX5_copyFrom 109 = .ok (.aload_n 1, 1) := by decide +kernel
theorem dX5_copyFrom_110 : decode cX5_copyFrom 110 = .ok (.getfield 55, 3) := by decide +kernel
theorem dX5_copyFrom_113 : decode cX5_copyFrom 113 = .ok (.putfield 55, 3) := by decide +kernel
theorem dX5_copyFrom_116 : decode cX5_copyFrom 116 = .ok (.return_, 1) := by decide +kernel
theorem dX5_has_0 : decode cX5_has 0 = .ok (.aload_n 0, 1) := by decide +kernel
theorem dX5_has_1 : decode cX5_has 1 = .ok (.getfield 9, 3) := by decide +kernel
theorem dX5_has_4 : decode cX5_has 4 = .ok (.iload_n 1, 1) := by decide +kernel
theorem dX5_has_5 : decode cX5_has 5 = .ok (.invokestatic 58, 3) := by decide +kernel
theorem dX5_has_8 : decode cX5_has 8 = .ok (.ireturn, 1) := by decide +kernel
theorem dX5_isKept_0 : decode cX5_isKept 0 = .ok (.aload_n 0, 1) := by decide +kernel
theorem dX5_isKept_1 : decode cX5_isKept 1 = .ok (.getfield 37, 3) := by decide +kernel
theorem dX5_isKept_4 : decode cX5_isKept 4 = .ok (.iload_n 1, 1) := by decide +kernel
theorem dX5_isKept_5 : decode cX5_isKept 5 = .ok (.invokestatic 58, 3) := by decide +kernel
theorem dX5_isKept_8 : decode cX5_isKept 8 = .ok (.ireturn, 1) := by decide +kernel
theorem dX5_isRoot_0 : decode cX5_isRoot 0 = .ok (.aload_n 0, 1) := by decide +kernel
theorem dX5_isRoot_1 : decode cX5_isRoot 1 = .ok (.getfield 15, 3) := by decide +kernel
theorem dX5_isRoot_4 : decode cX5_isRoot 4 = .ok (.iload_n 1, 1) := by decide +kernel
theorem dX5_isRoot_5 : decode cX5_isRoot 5 = .ok (.invokestatic 58, 3) := by decide +kernel
theorem dX5_isRoot_8 : decode cX5_isRoot 8 = .ok (.ireturn, 1) := by decide +kernel
theorem dX5_sourceOf_0 : decode cX5_sourceOf 0 = .ok (.aload_n 0, 1) := by decide +kernel
theorem dX5_sourceOf_1 : decode cX5_sourceOf 1 = .ok (.getfield 18, 3) := by decide +kernel
theorem dX5_sourceOf_4 : decode cX5_sourceOf 4 = .ok (.iload_n 1, 1) := by decide +kernel
theorem dX5_sourceOf_5 : decode cX5_sourceOf 5 = .ok (.invokestatic 64, 3) := by decide +kernel
theorem dX5_sourceOf_8 : decode cX5_sourceOf 8 = .ok (.ireturn, 1) := by decide +kernel
theorem dX5_differenceOf_0 : decode cX5_differenceOf 0 = .ok (.aload_n 0, 1) := by decide +kernel
theorem dX5_differenceOf_1 : decode cX5_differenceOf 1 = .ok (.getfield 22, 3) := by decide +kernel
theorem dX5_differenceOf_4 : decode cX5_differenceOf 4 = .ok (.iload_n 1, 1) := by decide +kernel
theorem dX5_differenceOf_5 : decode cX5_differenceOf 5 = .ok (.invokestatic 64, 3) := by decide +kernel
theorem dX5_differenceOf_8 : decode cX5_differenceOf 8 = .ok (.ireturn, 1) := by decide +kernel
theorem dX5_askedFor_0 : decode cX5_askedFor 0 = .ok (.aload_n 0, 1) := by decide +kernel
theorem dX5_askedFor_1 : decode cX5_askedFor 1 = .ok (.getfield 25, 3) := by decide +kernel
theorem dX5_askedFor_4 : decode cX5_askedFor 4 = .ok (.iload_n 1, 1) := by decide +kernel
theorem dX5_askedFor_5 : decode cX5_askedFor 5 = .ok (.invokestatic 64, 3) := by decide +kernel
theorem dX5_askedFor_8 : decode cX5_askedFor 8 = .ok (.ireturn, 1) := by decide +kernel
theorem dX5_numberIn_0 : decode cX5_numberIn 0 = .ok (.aload_n 0, 1) := by decide +kernel
theorem dX5_numberIn_1 : decode cX5_numberIn 1 = .ok (.getfield 28, 3) := by decide +kernel
theorem dX5_numberIn_4 : decode cX5_numberIn 4 = .ok (.iload_n 1, 1) := by decide +kernel
theorem dX5_numberIn_5 : decode cX5_numberIn 5 = .ok (.bipush 8, 2) := by decide +kernel
theorem dX5_numberIn_7 : decode cX5_numberIn 7 = .ok (.imul, 1) := by decide +kernel
theorem dX5_numberIn_8 : decode cX5_numberIn 8 = .ok (.iload_n 2, 1) := by decide +kernel
theorem dX5_numberIn_9 : decode cX5_numberIn 9 = .ok (.iadd, 1) := by decide +kernel
theorem dX5_numberIn_10 : decode cX5_numberIn 10 = .ok (.invokestatic 64, 3) := by decide +kernel
theorem dX5_numberIn_13 : decode cX5_numberIn 13 = .ok (.ireturn, 1) := by decide +kernel
theorem dX5_putNumber_0 : decode cX5_putNumber 0 = .ok (.aload_n 0, 1) := by decide +kernel
theorem dX5_putNumber_1 : decode cX5_putNumber 1 = .ok (.getfield 28, 3) := by decide +kernel
theorem dX5_putNumber_4 : decode cX5_putNumber 4 = .ok (.iload_n 1, 1) := by decide +kernel
theorem dX5_putNumber_5 : decode cX5_putNumber 5 = .ok (.bipush 8, 2) := by decide +kernel
theorem dX5_putNumber_7 : decode cX5_putNumber 7 = .ok (.imul, 1) := by decide +kernel
theorem dX5_putNumber_8 : decode cX5_putNumber 8 = .ok (.iload_n 2, 1) := by decide +kernel
theorem dX5_putNumber_9 : decode cX5_putNumber 9 = .ok (.iadd, 1) := by decide +kernel
theorem dX5_putNumber_10 : decode cX5_putNumber 10 = .ok (.iload_n 3, 1) := by decide +kernel
theorem dX5_putNumber_11 : decode cX5_putNumber 11 = .ok (.invokestatic 68, 3) := by decide +kernel
theorem dX5_putNumber_14 : decode cX5_putNumber 14 = .ok (.return_, 1) := by decide +kernel
theorem dX5_copyCells_0 : decode cX5_copyCells 0 = .ok (.iconst 0, 1) := by decide +kernel
theorem dX5_copyCells_1 : decode cX5_copyCells 1 = .ok (.istore 4, 2) := by decide +kernel
theorem dX5_copyCells_3 : decode cX5_copyCells 3 = .ok (.iload 4, 2) := by decide +kernel
theorem dX5_copyCells_5 : decode cX5_copyCells 5 = .ok (.bipush 8, 2) := by decide +kernel
theorem dX5_copyCells_7 : decode cX5_copyCells 7 = .ok (.if_icmp .ge 32, 3) := by decide +kernel
theorem dX5_copyCells_10 : decode cX5_copyCells 10 = .ok (.iload_n 3, 1) := by decide +kernel
theorem dX5_copyCells_11 : decode cX5_copyCells 11 = .ok (.iload 4, 2) := by decide +kernel
theorem dX5_copyCells_13 : decode cX5_copyCells 13 = .ok (.invokestatic 58, 3) := by decide +kernel
theorem dX5_copyCells_16 : decode cX5_copyCells 16 = .ok (.ifCond .eq 17, 3) := by decide +kernel
theorem dX5_copyCells_19 : decode cX5_copyCells 19 = .ok (.aload_n 0, 1) := by decide +kernel
theorem dX5_copyCells_20 : decode cX5_copyCells 20 = .ok (.iload_n 2, 1) := by decide +kernel
theorem dX5_copyCells_21 : decode cX5_copyCells 21 = .ok (.iload 4, 2) := by decide +kernel
theorem dX5_copyCells_23 : decode cX5_copyCells 23 = .ok (.aload_n 0, 1) := by decide +kernel
theorem dX5_copyCells_24 : decode cX5_copyCells 24 = .ok (.iload_n 1, 1) := by decide +kernel
theorem dX5_copyCells_25 : decode cX5_copyCells 25 = .ok (.iload 4, 2) := by decide +kernel
theorem dX5_copyCells_27 : decode cX5_copyCells 27 = .ok (.invokevirtual 72, 3) := by decide +kernel
theorem dX5_copyCells_30 : decode cX5_copyCells 30 = .ok (.invokevirtual 76, 3) := by decide +kernel
theorem dX5_copyCells_33 : decode cX5_copyCells 33 = .ok (.iinc 4 1, 3) := by decide +kernel
theorem dX5_copyCells_36 : decode cX5_copyCells 36 = .ok (.goto (-33), 3) := by decide +kernel
theorem dX5_copyCells_39 : decode cX5_copyCells 39 = .ok (.return_, 1) := by decide +kernel
theorem dX5_unlikeCells_0 : decode cX5_unlikeCells 0 = .ok (.iconst 0, 1) := by decide +kernel
theorem dX5_unlikeCells_1 : decode cX5_unlikeCells 1 = .ok (.istore_n 3, 1) := by decide +kernel
theorem dX5_unlikeCells_2 : decode cX5_unlikeCells 2 = .ok (.iconst 0, 1) := by decide +kernel
theorem dX5_unlikeCells_3 : decode cX5_unlikeCells 3 = .ok (.istore 4, 2) := by decide +kernel
theorem dX5_unlikeCells_5 : decode cX5_unlikeCells 5 = .ok (.iload 4, 2) := by decide +kernel
theorem dX5_unlikeCells_7 : decode cX5_unlikeCells 7 = .ok (.bipush 8, 2) := by decide +kernel
theorem dX5_unlikeCells_9 : decode cX5_unlikeCells 9 = .ok (.if_icmp .ge 34, 3) := by decide +kernel
theorem dX5_unlikeCells_12 : decode cX5_unlikeCells 12 = .ok (.aload_n 0, 1) := by decide +kernel
theorem dX5_unlikeCells_13 : decode cX5_unlikeCells 13 = .ok (.iload_n 1, 1) := by decide +kernel
theorem dX5_unlikeCells_14 : decode cX5_unlikeCells 14 = .ok (.iload 4, 2) := by decide +kernel
theorem dX5_unlikeCells_16 : decode cX5_unlikeCells 16 = .ok (.invokevirtual 72, 3) := by decide +kernel
theorem dX5_unlikeCells_19 : decode cX5_unlikeCells 19 = .ok (.aload_n 0, 1) := by decide +kernel
theorem dX5_unlikeCells_20 : decode cX5_unlikeCells 20 = .ok (.iload_n 2, 1) := by decide +kernel
theorem dX5_unlikeCells_21 : decode cX5_unlikeCells 21 = .ok (.iload 4, 2) := by decide +kernel
theorem dX5_unlikeCells_23 : decode cX5_unlikeCells 23 = .ok (.invokevirtual 72, 3) := by decide +kernel
theorem dX5_unlikeCells_26 : decode cX5_unlikeCells 26 = .ok (.if_icmp .eq 11, 3) := by decide +kernel
theorem dX5_unlikeCells_29 : decode cX5_unlikeCells 29 = .ok (.iload_n 3, 1) := by decide +kernel
theorem dX5_unlikeCells_30 : decode cX5_unlikeCells 30 = .ok (.iload 4, 2) := by decide +kernel
theorem dX5_unlikeCells_32 : decode cX5_unlikeCells 32 = .ok (.invokestatic 80, 3) := by decide +kernel
theorem dX5_unlikeCells_35 : decode cX5_unlikeCells 35 = .ok (.ior, 1) := by decide +kernel
theorem dX5_unlikeCells_36 : decode cX5_unlikeCells 36 = .ok (.istore_n 3, 1) := by decide +kernel
theorem dX5_unlikeCells_37 : decode cX5_unlikeCells 37 = .ok (.iinc 4 1, 3) := by decide +kernel
theorem dX5_unlikeCells_40 : decode cX5_unlikeCells 40 = .ok (.goto (-35), 3) := by decide +kernel
theorem dX5_unlikeCells_43 : decode cX5_unlikeCells 43 = .ok (.iload_n 3, 1) := by decide +kernel
theorem dX5_unlikeCells_44 : decode cX5_unlikeCells 44 = .ok (.ireturn, 1) := by decide +kernel
theorem dX5_hang_0 : decode cX5_hang 0 = .ok (.aload_n 0, 1) := by decide +kernel
theorem dX5_hang_1 : decode cX5_hang 1 = .ok (.dup, 1) := by decide +kernel
theorem dX5_hang_2 : decode cX5_hang 2 = .ok (.getfield 9, 3) := by decide +kernel
theorem dX5_hang_5 : decode cX5_hang 5 = .ok (.iload_n 1, 1) := by decide +kernel
theorem dX5_hang_6 : decode cX5_hang 6 = .ok (.invokestatic 80, 3) := by decide +kernel
theorem dX5_hang_9 : decode cX5_hang 9 = .ok (.ior, 1) := by decide +kernel
theorem dX5_hang_10 : decode cX5_hang 10 = .ok (.putfield 9, 3) := by decide +kernel
theorem dX5_hang_13 : decode cX5_hang 13 = .ok (.aload_n 0, 1) := by decide +kernel
theorem dX5_hang_14 : decode cX5_hang 14 = .ok (.getfield 18, 3) := by decide +kernel
theorem dX5_hang_17 : decode cX5_hang 17 = .ok (.iload_n 1, 1) := by decide +kernel
theorem dX5_hang_18 : decode cX5_hang 18 = .ok (.iload_n 2, 1) := by decide +kernel
theorem dX5_hang_19 : decode cX5_hang 19 = .ok (.invokestatic 68, 3) := by decide +kernel
theorem dX5_hang_22 : decode cX5_hang 22 = .ok (.aload_n 0, 1) := by decide +kernel
theorem dX5_hang_23 : decode cX5_hang 23 = .ok (.getfield 22, 3) := by decide +kernel
theorem dX5_hang_26 : decode cX5_hang 26 = .ok (.iload_n 1, 1) := by decide +kernel
theorem dX5_hang_27 : decode cX5_hang 27 = .ok (.aload_n 0, 1) := by decide +kernel
theorem dX5_hang_28 : decode cX5_hang 28 = .ok (.iload_n 1, 1) := by decide +kernel
theorem dX5_hang_29 : decode cX5_hang 29 = .ok (.iload_n 2, 1) := by decide +kernel
theorem dX5_hang_30 : decode cX5_hang 30 = .ok (.invokevirtual 84, 3) := by decide +kernel
theorem dX5_hang_33 : decode cX5_hang 33 = .ok (.invokestatic 68, 3) := by decide +kernel
theorem dX5_hang_36 : decode cX5_hang 36 = .ok (.aload_n 0, 1) := by decide +kernel
theorem dX5_hang_37 : decode cX5_hang 37 = .ok (.getfield 25, 3) := by decide +kernel
theorem dX5_hang_40 : decode cX5_hang 40 = .ok (.iload_n 1, 1) := by decide +kernel
theorem dX5_hang_41 : decode cX5_hang 41 = .ok (.iconst 0, 1) := by decide +kernel
theorem dX5_hang_42 : decode cX5_hang 42 = .ok (.invokestatic 68, 3) := by decide +kernel
theorem dX5_hang_45 : decode cX5_hang 45 = .ok (.aload_n 0, 1) := by decide +kernel
theorem dX5_hang_46 : decode cX5_hang 46 = .ok (.iload_n 1, 1) := by decide +kernel
theorem dX5_hang_47 : decode cX5_hang 47 = .ok (.invokevirtual 87, 3) := by decide +kernel
theorem dX5_hang_50 : decode cX5_hang 50 = .ok (.return_, 1) := by decide +kernel
theorem dX5_drop_0 : decode cX5_drop 0 = .ok (.aload_n 0, 1) := by decide +kernel
theorem dX5_drop_1 : decode cX5_drop 1 = .ok (.dup, 1) := by decide +kernel
theorem dX5_drop_2 : decode cX5_drop 2 = .ok (.getfield 9, 3) := by decide +kernel
theorem dX5_drop_5 : decode cX5_drop 5 = .ok (.iload_n 1, 1) := by decide +kernel
theorem dX5_drop_6 : decode cX5_drop 6 = .ok (.invokestatic 80, 3) := by decide +kernel
theorem dX5_drop_9 : decode cX5_drop 9 = .ok (.iconst (-1), 1) := by decide +kernel
theorem dX5_drop_10 : decode cX5_drop 10 = .ok (.ixor, 1) := by decide +kernel
theorem dX5_drop_11 : decode cX5_drop 11 = .ok (.iand, 1) := by decide +kernel
theorem dX5_drop_12 : decode cX5_drop 12 = .ok (.putfield 9, 3) := by decide +kernel
theorem dX5_drop_15 : decode cX5_drop 15 = .ok (.aload_n 0, 1) := by decide +kernel
theorem dX5_drop_16 : decode cX5_drop 16 = .ok (.iload_n 1, 1) := by decide +kernel
theorem dX5_drop_17 : decode cX5_drop 17 = .ok (.invokevirtual 91, 3) := by decide +kernel
theorem dX5_drop_20 : decode cX5_drop 20 = .ok (.aload_n 0, 1) := by decide +kernel
theorem dX5_drop_21 : decode cX5_drop 21 = .ok (.iload_n 1, 1) := by decide +kernel
theorem dX5_drop_22 : decode cX5_drop 22 = .ok (.invokevirtual 94, 3) := by decide +kernel
theorem dX5_drop_25 : decode cX5_drop 25 = .ok (.return_, 1) := by decide +kernel
theorem dX5_keepDifference_0 : decode cX5_keepDifference 0 = .ok (.aload_n 0, 1) := by decide +kernel
theorem dX5_keepDifference_1 : decode cX5_keepDifference 1 = .ok (.dup, 1) := by decide +kernel
theorem dX5_keepDifference_2 : decode cX5_keepDifference 2 = .ok (.getfield 37, 3) := by decide +kernel
theorem dX5_keepDifference_5 : decode cX5_keepDifference 5 = .ok (.iload_n 1, 1) := by decide +kernel
theorem dX5_keepDifference_6 : decode cX5_keepDifference 6 = .ok (.invokestatic 80, 3) := by decide +kernel
theorem dX5_keepDifference_9 : decode cX5_keepDifference 9 = .ok (.ior, 1) := by decide +kernel
theorem dX5_keepDifference_10 : decode cX5_keepDifference 10 = .ok (.putfield 37, 3) := by decide +kernel
theorem dX5_keepDifference_13 : decode cX5_keepDifference 13 = .ok (.return_, 1) := by decide +kernel
theorem dX5_cutDifference_0 : decode cX5_cutDifference 0 = .ok (.aload_n 0, 1) := by decide +kernel
theorem dX5_cutDifference_1 : decode cX5_cutDifference 1 = .ok (.dup, 1) := by decide +kernel
theorem dX5_cutDifference_2 : decode cX5_cutDifference 2 = .ok (.getfield 37, 3) := by decide +kernel
theorem dX5_cutDifference_5 : decode cX5_cutDifference 5 = .ok (.iload_n 1, 1) := by decide +kernel
theorem dX5_cutDifference_6 : decode cX5_cutDifference 6 = .ok (.invokestatic 80, 3) := by decide +kernel
theorem dX5_cutDifference_9 : decode cX5_cutDifference 9 = .ok (.iconst (-1), 1) := by decide +kernel
theorem dX5_cutDifference_10 : decode cX5_cutDifference 10 = .ok (.ixor, 1) := by decide +kernel
theorem dX5_cutDifference_11 : decode cX5_cutDifference 11 = .ok (.iand, 1) := by decide +kernel
theorem dX5_cutDifference_12 : decode cX5_cutDifference 12 = .ok (.putfield 37, 3) := by decide +kernel
theorem dX5_cutDifference_15 : decode cX5_cutDifference 15 = .ok (.return_, 1) := by decide +kernel
theorem dX5_cutBetween_0 : decode cX5_cutBetween 0 = .ok (.iload_n 1, 1) := by decide +kernel
theorem dX5_cutBetween_1 : decode cX5_cutBetween 1 = .ok (.ifCond .eq 16, 3) := by decide +kernel
theorem dX5_cutBetween_4 : decode cX5_cutBetween 4 = .ok (.aload_n 0, 1) := by decide +kernel
theorem dX5_cutBetween_5 : decode cX5_cutBetween 5 = .ok (.iload_n 1, 1) := by decide +kernel
theorem dX5_cutBetween_6 : decode cX5_cutBetween 6 = .ok (.invokevirtual 97, 3) := by decide +kernel
theorem dX5_cutBetween_9 : decode cX5_cutBetween 9 = .ok (.iload_n 2, 1) := by decide +kernel
theorem dX5_cutBetween_10 : decode cX5_cutBetween 10 = .ok (.if_icmp .ne 7, 3) := by decide +kernel
theorem dX5_cutBetween_13 : decode cX5_cutBetween 13 = .ok (.iconst 1, 1) := by decide +kernel
theorem dX5_cutBetween_14 : decode cX5_cutBetween 14 = .ok (.goto 4, 3) := by decide +kernel
theorem dX5_cutBetween_17 : decode cX5_cutBetween 17 = .ok (.iconst 0, 1) := by decide +kernel
theorem dX5_cutBetween_18 : decode cX5_cutBetween 18 = .ok (.istore_n 3, 1) := by decide +kernel
theorem dX5_cutBetween_19 : decode cX5_cutBetween 19 = .ok (.aload_n 0, 1) := by decide +kernel
theorem dX5_cutBetween_20 : decode cX5_cutBetween 20 = .ok (.iload_n 3, 1) := by decide +kernel
theorem dX5_cutBetween_21 : decode cX5_cutBetween 21 = .ok (.ifCond .eq 7, 3) := by decide +kernel
theorem dX5_cutBetween_24 : decode cX5_cutBetween 24 = .ok (.iload_n 1, 1) := by decide +kernel
theorem dX5_cutBetween_25 : decode cX5_cutBetween 25 = .ok (.goto 4, 3) := by decide +kernel
theorem dX5_cutBetween_28 : decode cX5_cutBetween 28 = .ok (.iload_n 2, 1) := by decide +kernel
theorem dX5_cutBetween_29 : decode cX5_cutBetween 29 = .ok (.invokevirtual 91, 3) := by decide +kernel
theorem dX5_cutBetween_32 : decode cX5_cutBetween 32 = .ok (.return_, 1) := by decide +kernel
theorem dX5_addRoot_0 : decode cX5_addRoot 0 = .ok (.aload_n 0, 1) := by decide +kernel
theorem dX5_addRoot_1 : decode cX5_addRoot 1 = .ok (.dup, 1) := by decide +kernel
theorem dX5_addRoot_2 : decode cX5_addRoot 2 = .ok (.getfield 15, 3) := by decide +kernel
theorem dX5_addRoot_5 : decode cX5_addRoot 5 = .ok (.iload_n 1, 1) := by decide +kernel
theorem dX5_addRoot_6 : decode cX5_addRoot 6 = .ok (.invokestatic 80, 3) := by decide +kernel
theorem dX5_addRoot_9 : decode cX5_addRoot 9 = .ok (.ior, 1) := by decide +kernel
theorem dX5_addRoot_10 : decode cX5_addRoot 10 = .ok (.putfield 15, 3) := by decide +kernel
theorem dX5_addRoot_13 : decode cX5_addRoot 13 = .ok (.return_, 1) := by decide +kernel
theorem dX5_dropRoot_0 : decode cX5_dropRoot 0 = .ok (.aload_n 0, 1) := by decide +kernel
theorem dX5_dropRoot_1 : decode cX5_dropRoot 1 = .ok (.dup, 1) := by decide +kernel
theorem dX5_dropRoot_2 : decode cX5_dropRoot 2 = .ok (.getfield 15, 3) := by decide +kernel
theorem dX5_dropRoot_5 : decode cX5_dropRoot 5 = .ok (.iload_n 1, 1) := by decide +kernel
theorem dX5_dropRoot_6 : decode cX5_dropRoot 6 = .ok (.invokestatic 80, 3) := by decide +kernel
theorem dX5_dropRoot_9 : decode cX5_dropRoot 9 = .ok (.iconst (-1), 1) := by decide +kernel
theorem dX5_dropRoot_10 : decode cX5_dropRoot 10 = .ok (.ixor, 1) := by decide +kernel
theorem dX5_dropRoot_11 : decode cX5_dropRoot 11 = .ok (.iand, 1) := by decide +kernel
theorem dX5_dropRoot_12 : decode cX5_dropRoot 12 = .ok (.putfield 15, 3) := by decide +kernel
theorem dX5_dropRoot_15 : decode cX5_dropRoot 15 = .ok (.return_, 1) := by decide +kernel
theorem dX5_moveRoot_0 : decode cX5_moveRoot 0 = .ok (.aload_n 0, 1) := by decide +kernel
theorem dX5_moveRoot_1 : decode cX5_moveRoot 1 = .ok (.iload_n 1, 1) := by decide +kernel
theorem dX5_moveRoot_2 : decode cX5_moveRoot 2 = .ok (.invokevirtual 94, 3) := by decide +kernel
theorem dX5_moveRoot_5 : decode cX5_moveRoot 5 = .ok (.aload_n 0, 1) := by decide +kernel
theorem dX5_moveRoot_6 : decode cX5_moveRoot 6 = .ok (.iload_n 2, 1) := by decide +kernel
theorem dX5_moveRoot_7 : decode cX5_moveRoot 7 = .ok (.invokevirtual 100, 3) := by decide +kernel
theorem dX5_moveRoot_10 : decode cX5_moveRoot 10 = .ok (.return_, 1) := by decide +kernel
theorem dX5_noteAsking_0 : decode cX5_noteAsking 0 = .ok (.aload_n 0, 1) := by decide +kernel
theorem dX5_noteAsking_1 : decode cX5_noteAsking 1 = .ok (.getfield 25, 3) := by decide +kernel
theorem dX5_noteAsking_4 : decode cX5_noteAsking 4 = .ok (.iload_n 1, 1) := by decide +kernel
theorem dX5_noteAsking_5 : decode cX5_noteAsking 5 = .ok (.aload_n 0, 1) := by decide +kernel
theorem dX5_noteAsking_6 : decode cX5_noteAsking 6 = .ok (.iload_n 1, 1) := by decide +kernel
theorem dX5_noteAsking_7 : decode cX5_noteAsking 7 = .ok (.invokevirtual 103, 3) := by decide +kernel
theorem dX5_noteAsking_10 : decode cX5_noteAsking 10 = .ok (.iconst 1, 1) := by decide +kernel
theorem dX5_noteAsking_11 : decode cX5_noteAsking 11 = .ok (.iadd, 1) := by decide +kernel
theorem dX5_noteAsking_12 : decode cX5_noteAsking 12 = .ok (.invokestatic 68, 3) := by decide +kernel
theorem dX5_noteAsking_15 : decode cX5_noteAsking 15 = .ok (.aload_n 0, 1) := by decide +kernel
theorem dX5_noteAsking_16 : decode cX5_noteAsking 16 = .ok (.dup, 1) := by decide +kernel
theorem dX5_noteAsking_17 : decode cX5_noteAsking 17 = .ok (.getfield 46, 3) := by decide +kernel
theorem dX5_noteAsking_20 : decode cX5_noteAsking 20 = .ok (.iconst 1, 1) := by decide +kernel
theorem dX5_noteAsking_21 : decode cX5_noteAsking 21 = .ok (.iadd, 1) := by decide +kernel
theorem dX5_noteAsking_22 : decode cX5_noteAsking 22 = .ok (.putfield 46, 3) := by decide +kernel
theorem dX5_noteAsking_25 : decode cX5_noteAsking 25 = .ok (.aload_n 0, 1) := by decide +kernel
theorem dX5_noteAsking_26 : decode cX5_noteAsking 26 = .ok (.dup, 1) := by decide +kernel
theorem dX5_noteAsking_27 : decode cX5_noteAsking 27 = .ok (.getfield 49, 3) := by decide +kernel
theorem dX5_noteAsking_30 : decode cX5_noteAsking 30 = .ok (.iload_n 2, 1) := by decide +kernel
theorem dX5_noteAsking_31 : decode cX5_noteAsking 31 = .ok (.iadd, 1) := by decide +kernel
theorem dX5_noteAsking_32 : decode cX5_noteAsking 32 = .ok (.putfield 49, 3) := by decide +kernel
theorem dX5_noteAsking_35 : decode cX5_noteAsking 35 = .ok (.return_, 1) := by decide +kernel
theorem dX5_lowestFree_0 : decode cX5_lowestFree 0 = .ok (.iconst 0, 1) := by decide +kernel
theorem dX5_lowestFree_1 : decode cX5_lowestFree 1 = .ok (.istore_n 1, 1) := by decide +kernel
theorem dX5_lowestFree_2 : decode cX5_lowestFree 2 = .ok (.iload_n 1, 1) := by decide +kernel
theorem dX5_lowestFree_3 : decode cX5_lowestFree 3 = .ok (.bipush 24, 2) := by decide +kernel
theorem dX5_lowestFree_5 : decode cX5_lowestFree 5 = .ok (.if_icmp .ge 17, 3) := by decide +kernel
theorem dX5_lowestFree_8 : decode cX5_lowestFree 8 = .ok (.aload_n 0, 1) := by decide +kernel
theorem dX5_lowestFree_9 : decode cX5_lowestFree 9 = .ok (.iload_n 1, 1) := by decide +kernel
theorem dX5_lowestFree_10 : decode cX5_lowestFree 10 = .ok (.invokevirtual 106, 3) := by decide +kernel
theorem dX5_lowestFree_13 : decode cX5_lowestFree 13 = .ok (.ifCond .eq 9, 3) := by decide +kernel
theorem dX5_lowestFree_16 : decode cX5_lowestFree 16 = .ok (.iinc 1 1, 3) := by decide +kernel
theorem dX5_lowestFree_19 : decode cX5_lowestFree 19 = .ok (.goto (-17), 3) := by decide +kernel
theorem dX5_lowestFree_22 : decode cX5_lowestFree 22 = .ok (.iload_n 1, 1) := by decide +kernel
theorem dX5_lowestFree_23 : decode cX5_lowestFree 23 = .ok (.ireturn, 1) := by decide +kernel
theorem dX5_howMany_0 : decode cX5_howMany 0 = .ok (.aload_n 0, 1) := by decide +kernel
theorem dX5_howMany_1 : decode cX5_howMany 1 = .ok (.getfield 9, 3) := by decide +kernel
theorem dX5_howMany_4 : decode cX5_howMany 4 = .ok (.invokestatic 110, 3) := by decide +kernel
theorem dX5_howMany_7 : decode cX5_howMany 7 = .ok (.ireturn, 1) := by decide +kernel
theorem dX5_trees_0 : decode cX5_trees 0 = .ok (.aload_n 0, 1) := by decide +kernel
theorem dX5_trees_1 : decode cX5_trees 1 = .ok (.getfield 15, 3) := by decide +kernel
theorem dX5_trees_4 : decode cX5_trees 4 = .ok (.invokestatic 110, 3) := by decide +kernel
theorem dX5_trees_7 : decode cX5_trees 7 = .ok (.ireturn, 1) := by decide +kernel
theorem dX5_cuts_0 : decode cX5_cuts 0 = .ok (.aload_n 0, 1) := by decide +kernel
theorem dX5_cuts_1 : decode cX5_cuts 1 = .ok (.getfield 9, 3) := by decide +kernel
theorem dX5_cuts_4 : decode cX5_cuts 4 = .ok (.aload_n 0, 1) := by decide +kernel
theorem dX5_cuts_5 : decode cX5_cuts 5 = .ok (.getfield 37, 3) := by decide +kernel
theorem dX5_cuts_8 : decode cX5_cuts 8 = .ok (.iconst (-1), 1) := by decide +kernel
theorem dX5_cuts_9 : decode cX5_cuts 9 = .ok (.ixor, 1) := by decide +kernel
theorem dX5_cuts_10 : decode cX5_cuts 10 = .ok (.iand, 1) := by decide +kernel
theorem dX5_cuts_11 : decode cX5_cuts 11 = .ok (.iconst 0, 1) := by decide +kernel
theorem dX5_cuts_12 : decode cX5_cuts 12 = .ok (.invokestatic 80, 3) := by decide +kernel
theorem dX5_cuts_15 : decode cX5_cuts 15 = .ok (.iconst (-1), 1) := by decide +kernel
theorem dX5_cuts_16 : decode cX5_cuts 16 = .ok (.ixor, 1) := by decide +kernel
theorem dX5_cuts_17 : decode cX5_cuts 17 = .ok (.iand, 1) := by decide +kernel
theorem dX5_cuts_18 : decode cX5_cuts 18 = .ok (.invokestatic 110, 3) := by decide +kernel
theorem dX5_cuts_21 : decode cX5_cuts 21 = .ok (.ireturn, 1) := by decide +kernel
theorem dX5_madeOf_0 : decode cX5_madeOf 0 = .ok (.iconst 0, 1) := by decide +kernel
theorem dX5_madeOf_1 : decode cX5_madeOf 1 = .ok (.istore_n 2, 1) := by decide +kernel
theorem dX5_madeOf_2 : decode cX5_madeOf 2 = .ok (.iconst 1, 1) := by decide +kernel
theorem dX5_madeOf_3 : decode cX5_madeOf 3 = .ok (.istore_n 3, 1) := by decide +kernel
theorem dX5_madeOf_4 : decode cX5_madeOf 4 = .ok (.iload_n 3, 1) := by decide +kernel
theorem dX5_madeOf_5 : decode cX5_madeOf 5 = .ok (.bipush 24, 2) := by decide +kernel
theorem dX5_madeOf_7 : decode cX5_madeOf 7 = .ok (.if_icmp .ge 29, 3) := by decide +kernel
theorem dX5_madeOf_10 : decode cX5_madeOf 10 = .ok (.aload_n 0, 1) := by decide +kernel
theorem dX5_madeOf_11 : decode cX5_madeOf 11 = .ok (.iload_n 3, 1) := by decide +kernel
theorem dX5_madeOf_12 : decode cX5_madeOf 12 = .ok (.invokevirtual 106, 3) := by decide +kernel
theorem dX5_madeOf_15 : decode cX5_madeOf 15 = .ok (.ifCond .eq 15, 3) := by decide +kernel
theorem dX5_madeOf_18 : decode cX5_madeOf 18 = .ok (.aload_n 0, 1) := by decide +kernel
theorem dX5_madeOf_19 : decode cX5_madeOf 19 = .ok (.iload_n 3, 1) := by decide +kernel
theorem dX5_madeOf_20 : decode cX5_madeOf 20 = .ok (.invokevirtual 97, 3) := by decide +kernel
theorem dX5_madeOf_23 : decode cX5_madeOf 23 = .ok (.iload_n 1, 1) := by decide +kernel
theorem dX5_madeOf_24 : decode cX5_madeOf 24 = .ok (.if_icmp .ne 6, 3) := by decide +kernel
theorem dX5_madeOf_27 : decode cX5_madeOf 27 = .ok (.iinc 2 1, 3) := by decide +kernel
theorem dX5_madeOf_30 : decode cX5_madeOf 30 = .ok (.iinc 3 1, 3) := by decide +kernel
theorem dX5_madeOf_33 : decode cX5_madeOf 33 = .ok (.goto (-29), 3) := by decide +kernel
theorem dX5_madeOf_36 : decode cX5_madeOf 36 = .ok (.iload_n 2, 1) := by decide +kernel
theorem dX5_madeOf_37 : decode cX5_madeOf 37 = .ok (.ireturn, 1) := by decide +kernel
theorem dX5_ancestors_0 : decode cX5_ancestors 0 = .ok (.iload_n 1, 1) := by decide +kernel
theorem dX5_ancestors_1 : decode cX5_ancestors 1 = .ok (.invokestatic 80, 3) := by decide +kernel
theorem dX5_ancestors_4 : decode cX5_ancestors 4 = .ok (.iconst 0, 1) := by decide +kernel
theorem dX5_ancestors_5 : decode cX5_ancestors 5 = .ok (.invokestatic 80, 3) := by decide +kernel
theorem dX5_ancestors_8 : decode cX5_ancestors 8 = .ok (.ior, 1) := by decide +kernel
theorem dX5_ancestors_9 : decode cX5_ancestors 9 = .ok (.istore_n 2, 1) := by decide +kernel
theorem dX5_ancestors_10 : decode cX5_ancestors 10 = .ok (.iload_n 1, 1) := by decide +kernel
theorem dX5_ancestors_11 : decode cX5_ancestors 11 = .ok (.istore_n 3, 1) := by decide +kernel
theorem dX5_ancestors_12 : decode cX5_ancestors 12 = .ok (.iconst 0, 1) := by decide +kernel
theorem dX5_ancestors_13 : decode cX5_ancestors 13 = .ok (.istore 4, 2) := by decide +kernel
theorem dX5_ancestors_15 : decode cX5_ancestors 15 = .ok (.iload 4, 2) := by decide +kernel
theorem dX5_ancestors_17 : decode cX5_ancestors 17 = .ok (.bipush 24, 2) := by decide +kernel
theorem dX5_ancestors_19 : decode cX5_ancestors 19 = .ok (.if_icmp .ge 26, 3) := by decide +kernel
theorem dX5_ancestors_22 : decode cX5_ancestors 22 = .ok (.iload_n 3, 1) := by decide +kernel
theorem dX5_ancestors_23 : decode cX5_ancestors 23 = .ok (.ifCond .eq 22, 3) := by decide +kernel
theorem dX5_ancestors_26 : decode cX5_ancestors 26 = .ok (.aload_n 0, 1) := by decide +kernel
theorem dX5_ancestors_27 : decode cX5_ancestors 27 = .ok (.iload_n 3, 1) := by decide +kernel
theorem dX5_ancestors_28 : decode cX5_ancestors 28 = .ok (.invokevirtual 97, 3) := by decide +kernel
theorem dX5_ancestors_31 : decode cX5_ancestors 31 = .ok (.istore_n 3, 1) := by decide +kernel
theorem dX5_ancestors_32 : decode cX5_ancestors 32 = .ok (.iload_n 2, 1) := by decide +kernel
theorem dX5_ancestors_33 : decode cX5_ancestors 33 = .ok (.iload_n 3, 1) := by decide +kernel
theorem dX5_ancestors_34 : decode cX5_ancestors 34 = .ok (.invokestatic 80, 3) := by decide +kernel
theorem dX5_ancestors_37 : decode cX5_ancestors 37 = .ok (.ior, 1) := by decide +kernel
theorem dX5_ancestors_38 : decode cX5_ancestors 38 = .ok (.istore_n 2, 1) := by decide +kernel
theorem dX5_ancestors_39 : decode cX5_ancestors 39 = .ok (.iinc 4 1, 3) := by decide +kernel
theorem dX5_ancestors_42 : decode cX5_ancestors 42 = .ok (.goto (-27), 3) := by decide +kernel
theorem dX5_ancestors_45 : decode cX5_ancestors 45 = .ok (.iload_n 2, 1) := by decide +kernel
theorem dX5_ancestors_46 : decode cX5_ancestors 46 = .ok (.ireturn, 1) := by decide +kernel
theorem dX5_roomOf_0 : decode cX5_roomOf 0 = .ok (.iconst 1, 1) := by decide +kernel
theorem dX5_roomOf_1 : decode cX5_roomOf 1 = .ok (.iconst 2, 1) := by decide +kernel
theorem dX5_roomOf_2 : decode cX5_roomOf 2 = .ok (.aload_n 0, 1) := by decide +kernel
theorem dX5_roomOf_3 : decode cX5_roomOf 3 = .ok (.iload_n 1, 1) := by decide +kernel
theorem dX5_roomOf_4 : decode cX5_roomOf 4 = .ok (.invokevirtual 115, 3) := by decide +kernel
theorem dX5_roomOf_7 : decode cX5_roomOf 7 = .ok (.invokestatic 110, 3) := by decide +kernel
theorem dX5_roomOf_10 : decode cX5_roomOf 10 = .ok (.imul, 1) := by decide +kernel
theorem dX5_roomOf_11 : decode cX5_roomOf 11 = .ok (.iadd, 1) := by decide +kernel
theorem dX5_roomOf_12 : decode cX5_roomOf 12 = .ok (.ireturn, 1) := by decide +kernel
theorem dX5_room_0 : decode cX5_room 0 = .ok (.bipush 8, 2) := by decide +kernel
theorem dX5_room_2 : decode cX5_room 2 = .ok (.aload_n 0, 1) := by decide +kernel
theorem dX5_room_3 : decode cX5_room 3 = .ok (.invokevirtual 118, 3) := by decide +kernel
theorem dX5_room_6 : decode cX5_room 6 = .ok (.imul, 1) := by decide +kernel
theorem dX5_room_7 : decode cX5_room 7 = .ok (.istore_n 1, 1) := by decide +kernel
theorem dX5_room_8 : decode cX5_room 8 = .ok (.iconst 1, 1) := by decide +kernel
theorem dX5_room_9 : decode cX5_room 9 = .ok (.istore_n 2, 1) := by decide +kernel
theorem dX5_room_10 : decode cX5_room 10 = .ok (.iload_n 2, 1) := by decide +kernel
theorem dX5_room_11 : decode cX5_room 11 = .ok (.bipush 24, 2) := by decide +kernel
theorem dX5_room_13 : decode cX5_room 13 = .ok (.if_icmp .ge 25, 3) := by decide +kernel
theorem dX5_room_16 : decode cX5_room 16 = .ok (.aload_n 0, 1) := by decide +kernel
theorem dX5_room_17 : decode cX5_room 17 = .ok (.iload_n 2, 1) := by decide +kernel
theorem dX5_room_18 : decode cX5_room 18 = .ok (.invokevirtual 122, 3) := by decide +kernel
theorem dX5_room_21 : decode cX5_room 21 = .ok (.ifCond .eq 11, 3) := by decide +kernel
theorem dX5_room_24 : decode cX5_room 24 = .ok (.iload_n 1, 1) := by decide +kernel
theorem dX5_room_25 : decode cX5_room 25 = .ok (.aload_n 0, 1) := by decide +kernel
theorem dX5_room_26 : decode cX5_room 26 = .ok (.iload_n 2, 1) := by decide +kernel
theorem dX5_room_27 : decode cX5_room 27 = .ok (.invokevirtual 125, 3) := by decide +kernel
theorem dX5_room_30 : decode cX5_room 30 = .ok (.iadd, 1) := by decide +kernel
theorem dX5_room_31 : decode cX5_room 31 = .ok (.istore_n 1, 1) := by decide +kernel
theorem dX5_room_32 : decode cX5_room 32 = .ok (.iinc 2 1, 3) := by decide +kernel
theorem dX5_room_35 : decode cX5_room 35 = .ok (.goto (-25), 3) := by decide +kernel
theorem dX5_room_38 : decode cX5_room 38 = .ok (.iload_n 1, 1) := by decide +kernel
theorem dX5_room_39 : decode cX5_room 39 = .ok (.ireturn, 1) := by decide +kernel
theorem dX5_neverAsked_0 : decode cX5_neverAsked 0 = .ok (.iconst 0, 1) := by decide +kernel
theorem dX5_neverAsked_1 : decode cX5_neverAsked 1 = .ok (.istore_n 1, 1) := by decide +kernel
theorem dX5_neverAsked_2 : decode cX5_neverAsked 2 = .ok (.iconst 0, 1) := by decide +kernel
theorem dX5_neverAsked_3 : decode cX5_neverAsked 3 = .ok (.istore_n 2, 1) := by decide +kernel
theorem dX5_neverAsked_4 : decode cX5_neverAsked 4 = .ok (.iload_n 2, 1) := by decide +kernel
theorem dX5_neverAsked_5 : decode cX5_neverAsked 5 = .ok (.bipush 24, 2) := by decide +kernel
theorem dX5_neverAsked_7 : decode cX5_neverAsked 7 = .ok (.if_icmp .ge 28, 3) := by decide +kernel
theorem dX5_neverAsked_10 : decode cX5_neverAsked 10 = .ok (.aload_n 0, 1) := by decide +kernel
theorem dX5_neverAsked_11 : decode cX5_neverAsked 11 = .ok (.iload_n 2, 1) := by decide +kernel
theorem dX5_neverAsked_12 : decode cX5_neverAsked 12 = .ok (.invokevirtual 106, 3) := by decide +kernel
theorem dX5_neverAsked_15 : decode cX5_neverAsked 15 = .ok (.ifCond .eq 14, 3) := by decide +kernel
theorem dX5_neverAsked_18 : decode cX5_neverAsked 18 = .ok (.aload_n 0, 1) := by decide +kernel
theorem dX5_neverAsked_19 : decode cX5_neverAsked 19 = .ok (.iload_n 2, 1) := by decide +kernel
theorem dX5_neverAsked_20 : decode cX5_neverAsked 20 = .ok (.invokevirtual 103, 3) := by decide +kernel
theorem dX5_neverAsked_23 : decode cX5_neverAsked 23 = .ok (.ifCond .ne 6, 3) := by decide +kernel
theorem dX5_neverAsked_26 : decode cX5_neverAsked 26 = .ok (.iinc 1 1, 3) := by decide +kernel
theorem dX5_neverAsked_29 : decode cX5_neverAsked 29 = .ok (.iinc 2 1, 3) := by decide +kernel
theorem dX5_neverAsked_32 : decode cX5_neverAsked 32 = .ok (.goto (-28), 3) := by decide +kernel
theorem dX5_neverAsked_35 : decode cX5_neverAsked 35 = .ok (.iload_n 1, 1) := by decide +kernel
theorem dX5_neverAsked_36 : decode cX5_neverAsked 36 = .ok (.ireturn, 1) := by decide +kernel
theorem dX5_unlikeRows_0 : decode cX5_unlikeRows 0 = .ok (.iconst 0, 1) := by decide +kernel
theorem dX5_unlikeRows_1 : decode cX5_unlikeRows 1 = .ok (.istore_n 1, 1) := by decide +kernel
theorem dX5_unlikeRows_2 : decode cX5_unlikeRows 2 = .ok (.iconst 0, 1) := by decide +kernel
theorem dX5_unlikeRows_3 : decode cX5_unlikeRows 3 = .ok (.istore_n 2, 1) := by decide +kernel
theorem dX5_unlikeRows_4 : decode cX5_unlikeRows 4 = .ok (.iload_n 2, 1) := by decide +kernel
theorem dX5_unlikeRows_5 : decode cX5_unlikeRows 5 = .ok (.bipush 24, 2) := by decide +kernel
theorem dX5_unlikeRows_7 : decode cX5_unlikeRows 7 = .ok (.if_icmp .ge 28, 3) := by decide +kernel
theorem dX5_unlikeRows_10 : decode cX5_unlikeRows 10 = .ok (.aload_n 0, 1) := by decide +kernel
theorem dX5_unlikeRows_11 : decode cX5_unlikeRows 11 = .ok (.iload_n 2, 1) := by decide +kernel
theorem dX5_unlikeRows_12 : decode cX5_unlikeRows 12 = .ok (.invokevirtual 106, 3) := by decide +kernel
theorem dX5_unlikeRows_15 : decode cX5_unlikeRows 15 = .ok (.ifCond .eq 14, 3) := by decide +kernel
theorem dX5_unlikeRows_18 : decode cX5_unlikeRows 18 = .ok (.aload_n 0, 1) := by decide +kernel
theorem dX5_unlikeRows_19 : decode cX5_unlikeRows 19 = .ok (.iload_n 2, 1) := by decide +kernel
theorem dX5_unlikeRows_20 : decode cX5_unlikeRows 20 = .ok (.invokevirtual 128, 3) := by decide +kernel
theorem dX5_unlikeRows_23 : decode cX5_unlikeRows 23 = .ok (.ifCond .ne 6, 3) := by decide +kernel
theorem dX5_unlikeRows_26 : decode cX5_unlikeRows 26 = .ok (.iinc 1 1, 3) := by decide +kernel
theorem dX5_unlikeRows_29 : decode cX5_unlikeRows 29 = .ok (.iinc 2 1, 3) := by decide +kernel
theorem dX5_unlikeRows_32 : decode cX5_unlikeRows 32 = .ok (.goto (-28), 3) := by decide +kernel
theorem dX5_unlikeRows_35 : decode cX5_unlikeRows 35 = .ok (.iload_n 1, 1) := by decide +kernel
theorem dX5_unlikeRows_36 : decode cX5_unlikeRows 36 = .ok (.ireturn, 1) := by decide +kernel
theorem dX5_hasRowBelow_0 : decode cX5_hasRowBelow 0 = .ok (.iconst 0, 1) := by decide +kernel
theorem dX5_hasRowBelow_1 : decode cX5_hasRowBelow 1 = .ok (.istore_n 2, 1) := by decide +kernel
theorem dX5_hasRowBelow_2 : decode cX5_hasRowBelow 2 = .ok (.iload_n 2, 1) := by decide +kernel
theorem dX5_hasRowBelow_3 : decode cX5_hasRowBelow 3 = .ok (.iload_n 1, 1) := by decide +kernel
theorem dX5_hasRowBelow_4 : decode cX5_hasRowBelow 4 = .ok (.if_icmp .ge 34, 3) := by decide +kernel
theorem dX5_hasRowBelow_7 : decode cX5_hasRowBelow 7 = .ok (.iload_n 2, 1) := by decide +kernel
theorem dX5_hasRowBelow_8 : decode cX5_hasRowBelow 8 = .ok (.bipush 24, 2) := by decide +kernel
theorem dX5_hasRowBelow_10 : decode cX5_hasRowBelow 10 = .ok (.if_icmp .ge 28, 3) := by decide +kernel
theorem dX5_hasRowBelow_13 : decode cX5_hasRowBelow 13 = .ok (.aload_n 0, 1) := by decide +kernel
theorem dX5_hasRowBelow_14 : decode cX5_hasRowBelow 14 = .ok (.iload_n 2, 1) := by decide +kernel
theorem dX5_hasRowBelow_15 : decode cX5_hasRowBelow 15 = .ok (.invokevirtual 106, 3) := by decide +kernel
theorem dX5_hasRowBelow_18 : decode cX5_hasRowBelow 18 = .ok (.ifCond .eq 14, 3) := by decide +kernel
theorem dX5_hasRowBelow_21 : decode cX5_hasRowBelow 21 = .ok (.aload_n 0, 1) := by decide +kernel
theorem dX5_hasRowBelow_22 : decode cX5_hasRowBelow 22 = .ok (.iload_n 2, 1) := by decide +kernel
theorem dX5_hasRowBelow_23 : decode cX5_hasRowBelow 23 = .ok (.iload_n 1, 1) := by decide +kernel
theorem dX5_hasRowBelow_24 : decode cX5_hasRowBelow 24 = .ok (.invokevirtual 84, 3) := by decide +kernel
theorem dX5_hasRowBelow_27 : decode cX5_hasRowBelow 27 = .ok (.ifCond .ne 5, 3) := by decide +kernel
theorem dX5_hasRowBelow_30 : decode cX5_hasRowBelow 30 = .ok (.iconst 1, 1) := by decide +kernel
theorem dX5_hasRowBelow_31 : decode cX5_hasRowBelow 31 = .ok (.ireturn, 1) := by decide +kernel
theorem dX5_hasRowBelow_32 : decode cX5_hasRowBelow 32 = .ok (.iinc 2 1, 3) := by decide +kernel
theorem dX5_hasRowBelow_35 : decode cX5_hasRowBelow 35 = .ok (.goto (-33), 3) := by decide +kernel
theorem dX5_hasRowBelow_38 : decode cX5_hasRowBelow 38 = .ok (.iconst 0, 1) := by decide +kernel
theorem dX5_hasRowBelow_39 : decode cX5_hasRowBelow 39 = .ok (.ireturn, 1) := by decide +kernel
theorem dX6_init_0 : decode cX6_init 0 = .ok (.aload_n 0, 1) := by decide +kernel
theorem dX6_init_1 : decode cX6_init 1 = .ok (.invokespecial 1, 3) := by decide +kernel
theorem dX6_init_4 : decode cX6_init 4 = .ok (.aload_n 0, 1) := by decide +kernel
theorem dX6_init_5 : decode cX6_init 5 = .ok (.new 7, 3) := by decide +kernel
theorem dX6_init_8 : decode cX6_init 8 = .ok (.dup, 1) := by decide +kernel
theorem dX6_init_9 : decode cX6_init 9 = .ok (.invokespecial 9, 3) := by decide +kernel
theorem dX6_init_12 : decode cX6_init 12 = .ok (.putfield 10, 3) := by decide +kernel
theorem dX6_init_15 : decode cX6_init 15 = .ok (.aload_n 0, 1) := by decide +kernel
theorem dX6_init_16 : decode cX6_init 16 = .ok (.new 7, 3) := by decide +kernel
theorem dX6_init_19 : decode cX6_init 19 = .ok (.dup, 1) := by decide +kernel
theorem dX6_init_20 : decode cX6_init 20 = .ok (.invokespecial 9, 3) := by decide +kernel
theorem dX6_init_23 : decode cX6_init 23 = .ok (.putfield 16, 3) := by decide +kernel
theorem dX6_init_26 : decode cX6_init 26 = .ok (.aload_n 0, 1) := by decide +kernel
theorem dX6_init_27 : decode cX6_init 27 = .ok (.new 7, 3) := by decide +kernel
theorem dX6_init_30 : decode cX6_init 30 = .ok (.dup, 1) := by decide +kernel
theorem dX6_init_31 : decode cX6_init 31 = .ok (.invokespecial 9, 3) := by decide +kernel
theorem dX6_init_34 : decode cX6_init 34 = .ok (.putfield 19, 3) := by decide +kernel
theorem dX6_init_37 : decode cX6_init 37 = .ok (.aload_n 0, 1) := by decide +kernel
theorem dX6_init_38 : decode cX6_init 38 = .ok (.new 22, 3) := by decide +kernel
theorem dX6_init_41 : decode cX6_init 41 = .ok (.dup, 1) := by decide +kernel
theorem dX6_init_42 : decode cX6_init 42 = .ok (.invokespecial 24, 3) := by decide +kernel
theorem dX6_init_45 : decode cX6_init 45 = .ok (.putfield 25, 3) := by decide +kernel
theorem dX6_init_48 : decode cX6_init 48 = .ok (.aload_n 0, 1) := by decide +kernel
theorem dX6_init_49 : decode cX6_init 49 = .ok (.new 29, 3) := by decide +kernel
theorem dX6_init_52 : decode cX6_init 52 = .ok (.dup, 1) := by decide +kernel
theorem dX6_init_53 : decode cX6_init 53 = .ok (.invokespecial 31, 3) := by decide +kernel
theorem dX6_init_56 : decode cX6_init 56 = .ok (.putfield 32, 3) := by decide +kernel
theorem dX6_init_59 : decode cX6_init 59 = .ok (.aload_n 0, 1) := by decide +kernel
theorem dX6_init_60 : decode cX6_init 60 = .ok (.new 36, 3) := by decide +kernel
theorem dX6_init_63 : decode cX6_init 63 = .ok (.dup, 1) := by decide +kernel
theorem dX6_init_64 : decode cX6_init 64 = .ok (.invokespecial 38, 3) := by decide +kernel
theorem dX6_init_67 : decode cX6_init 67 = .ok (.putfield 39, 3) := by decide +kernel
theorem dX6_init_70 : decode cX6_init 70 = .ok (.return_, 1) := by decide +kernel
theorem dX6_make_0 : decode cX6_make 0 = .ok (.aload_n 0, 1) := by decide +kernel
theorem dX6_make_1 : decode cX6_make 1 = .ok (.invokevirtual 43, 3) := by decide +kernel
theorem dX6_make_4 : decode cX6_make 4 = .ok (.aload_n 0, 1) := by decide +kernel
theorem dX6_make_5 : decode cX6_make 5 = .ok (.aload_n 0, 1) := by decide +kernel
theorem dX6_make_6 : decode cX6_make 6 = .ok (.iload_n 1, 1) := by decide +kernel
theorem dX6_make_7 : decode cX6_make 7 = .ok (.iload_n 2, 1) := by decide +kernel
theorem dX6_make_8 : decode cX6_make 8 = .ok (.iload_n 3, 1) := by decide +kernel
theorem dX6_make_9 : decode cX6_make 9 = .ok (.invokevirtual 46, 3) := by decide +kernel
theorem dX6_make_12 : decode cX6_make 12 = .ok (.invokevirtual 50, 3) := by decide +kernel
theorem dX6_make_15 : decode cX6_make 15 = .ok (.ireturn, 1) := by decide +kernel
theorem dX6_mix_0 : decode cX6_mix 0 = .ok (.aload_n 0, 1) := by decide +kernel
theorem dX6_mix_1 : decode cX6_mix 1 = .ok (.invokevirtual 43, 3) := by decide +kernel
theorem dX6_mix_4 : decode cX6_mix 4 = .ok (.aload_n 0, 1) := by decide +kernel
theorem dX6_mix_5 : decode cX6_mix 5 = .ok (.aload_n 0, 1) := by decide +kernel
theorem dX6_mix_6 : decode cX6_mix 6 = .ok (.iload_n 1, 1) := by decide +kernel
theorem dX6_mix_7 : decode cX6_mix 7 = .ok (.iload_n 2, 1) := by decide +kernel
theorem dX6_mix_8 : decode cX6_mix 8 = .ok (.iload_n 3, 1) := by decide +kernel
theorem dX6_mix_9 : decode cX6_mix 9 = .ok (.invokevirtual 54, 3) := by decide +kernel
theorem dX6_mix_12 : decode cX6_mix 12 = .ok (.invokevirtual 50, 3) := by decide +kernel
theorem dX6_mix_15 : decode cX6_mix 15 = .ok (.ireturn, 1) := by decide +kernel
theorem dX6_remove_0 : decode cX6_remove 0 = .ok (.aload_n 0, 1) := by decide +kernel
theorem dX6_remove_1 : decode cX6_remove 1 = .ok (.getfield 10, 3) := by decide +kernel
theorem dX6_remove_4 : decode cX6_remove 4 = .ok (.iload_n 1, 1) := by decide +kernel
theorem dX6_remove_5 : decode cX6_remove 5 = .ok (.invokevirtual 57, 3) := by decide +kernel
theorem dX6_remove_8 : decode cX6_remove 8 = .ok (.ifCond .ne 5, 3) := by decide +kernel
theorem dX6_remove_11 : decode cX6_remove 11 = .ok (.iconst (-1), 1) := by decide +kernel
theorem dX6_remove_12 : decode cX6_remove 12 = .ok (.ireturn, 1) := by decide +kernel
theorem dX6_remove_13 : decode cX6_remove 13 = .ok (.iload_n 1, 1) := by decide +kernel
theorem dX6_remove_14 : decode cX6_remove 14 = .ok (.ifCond .eq 14, 3) := by decide +kernel
theorem dX6_remove_17 : decode cX6_remove 17 = .ok (.aload_n 0, 1) := by decide +kernel
theorem dX6_remove_18 : decode cX6_remove 18 = .ok (.getfield 10, 3) := by decide +kernel
theorem dX6_remove_21 : decode cX6_remove 21 = .ok (.iload_n 1, 1) := by decide +kernel
theorem dX6_remove_22 : decode cX6_remove 22 = .ok (.invokevirtual 61, 3) := by decide +kernel
theorem dX6_remove_25 : decode cX6_remove 25 = .ok (.ifCond .le 6, 3) := by decide +kernel
theorem dX6_remove_28 : decode cX6_remove 28 = .ok (.bipush (-4), 2) := by decide +kernel
theorem dX6_remove_30 : decode cX6_remove 30 = .ok (.ireturn, 1) := by decide +kernel
theorem dX6_remove_31 : decode cX6_remove 31 = .ok (.aload_n 0, 1) := by decide +kernel
theorem dX6_remove_32 : decode cX6_remove 32 = .ok (.invokevirtual 43, 3) := by decide +kernel
theorem dX6_remove_35 : decode cX6_remove 35 = .ok (.aload_n 0, 1) := by decide +kernel
theorem dX6_remove_36 : decode cX6_remove 36 = .ok (.getfield 10, 3) := by decide +kernel
theorem dX6_remove_39 : decode cX6_remove 39 = .ok (.iload_n 1, 1) := by decide +kernel
theorem dX6_remove_40 : decode cX6_remove 40 = .ok (.invokevirtual 64, 3) := by decide +kernel
theorem dX6_remove_43 : decode cX6_remove 43 = .ok (.ifCond .eq 29, 3) := by decide +kernel
theorem dX6_remove_46 : decode cX6_remove 46 = .ok (.aload_n 0, 1) := by decide +kernel
theorem dX6_remove_47 : decode cX6_remove 47 = .ok (.getfield 10, 3) := by decide +kernel
theorem dX6_remove_50 : decode cX6_remove 50 = .ok (.iload_n 1, 1) := by decide +kernel
theorem dX6_remove_51 : decode cX6_remove 51 = .ok (.invokevirtual 67, 3) := by decide +kernel
theorem dX6_remove_54 : decode cX6_remove 54 = .ok (.ifCond .eq 18, 3) := by decide +kernel
theorem dX6_remove_57 : decode cX6_remove 57 = .ok (.aload_n 0, 1) := by decide +kernel
theorem dX6_remove_58 : decode cX6_remove 58 = .ok (.getfield 10, 3) := by decide +kernel
theorem dX6_remove_61 : decode cX6_remove 61 = .ok (.aload_n 0, 1) := by decide +kernel
theorem dX6_remove_62 : decode cX6_remove 62 = .ok (.getfield 10, 3) := by decide +kernel
theorem dX6_remove_65 : decode cX6_remove 65 = .ok (.iload_n 1, 1) := by decide +kernel
theorem dX6_remove_66 : decode cX6_remove 66 = .ok (.invokevirtual 70, 3) := by decide +kernel
theorem dX6_remove_69 : decode cX6_remove 69 = .ok (.invokevirtual 73, 3) := by decide +kernel
theorem dX6_remove_72 : decode cX6_remove 72 = .ok (.aload_n 0, 1) := by decide +kernel
theorem dX6_remove_73 : decode cX6_remove 73 = .ok (.getfield 10, 3) := by decide +kernel
theorem dX6_remove_76 : decode cX6_remove 76 = .ok (.iload_n 1, 1) := by decide +kernel
theorem dX6_remove_77 : decode cX6_remove 77 = .ok (.invokevirtual 77, 3) := by decide +kernel
theorem dX6_remove_80 : decode cX6_remove 80 = .ok (.aload_n 0, 1) := by decide +kernel
theorem dX6_remove_81 : decode cX6_remove 81 = .ok (.aload_n 0, 1) := by decide +kernel
theorem dX6_remove_82 : decode cX6_remove 82 = .ok (.getfield 10, 3) := by decide +kernel
theorem dX6_remove_85 : decode cX6_remove 85 = .ok (.invokevirtual 80, 3) := by decide +kernel
theorem dX6_remove_88 : decode cX6_remove 88 = .ok (.invokevirtual 50, 3) := by decide +kernel
theorem dX6_remove_91 : decode cX6_remove 91 = .ok (.ireturn, 1) := by decide +kernel
theorem dX6_ask_0 : decode cX6_ask 0 = .ok (.aload_n 0, 1) := by decide +kernel
theorem dX6_ask_1 : decode cX6_ask 1 = .ok (.invokevirtual 43, 3) := by decide +kernel
theorem dX6_ask_4 : decode cX6_ask 4 = .ok (.aload_n 0, 1) := by decide +kernel
theorem dX6_ask_5 : decode cX6_ask 5 = .ok (.aload_n 0, 1) := by decide +kernel
theorem dX6_ask_6 : decode cX6_ask 6 = .ok (.iload_n 1, 1) := by decide +kernel
theorem dX6_ask_7 : decode cX6_ask 7 = .ok (.invokevirtual 84, 3) := by decide +kernel
theorem dX6_ask_10 : decode cX6_ask 10 = .ok (.invokevirtual 50, 3) := by decide +kernel
theorem dX6_ask_13 : decode cX6_ask 13 = .ok (.ireturn, 1) := by decide +kernel
theorem dX6_root_0 : decode cX6_root 0 = .ok (.aload_n 0, 1) := by decide +kernel
theorem dX6_root_1 : decode cX6_root 1 = .ok (.invokevirtual 43, 3) := by decide +kernel
theorem dX6_root_4 : decode cX6_root 4 = .ok (.aload_n 0, 1) := by decide +kernel
theorem dX6_root_5 : decode cX6_root 5 = .ok (.aload_n 0, 1) := by decide +kernel
theorem dX6_root_6 : decode cX6_root 6 = .ok (.iload_n 1, 1) := by decide +kernel
theorem dX6_root_7 : decode cX6_root 7 = .ok (.invokevirtual 87, 3) := by decide +kernel
theorem dX6_root_10 : decode cX6_root 10 = .ok (.invokevirtual 50, 3) := by decide +kernel
theorem dX6_root_13 : decode cX6_root 13 = .ok (.ireturn, 1) := by decide +kernel
theorem dX6_cut_0 : decode cX6_cut 0 = .ok (.aload_n 0, 1) := by decide +kernel
theorem dX6_cut_1 : decode cX6_cut 1 = .ok (.getfield 10, 3) := by decide +kernel
theorem dX6_cut_4 : decode cX6_cut 4 = .ok (.iload_n 1, 1) := by decide +kernel
theorem dX6_cut_5 : decode cX6_cut 5 = .ok (.invokevirtual 57, 3) := by decide +kernel
theorem dX6_cut_8 : decode cX6_cut 8 = .ok (.ifCond .ne 5, 3) := by decide +kernel
theorem dX6_cut_11 : decode cX6_cut 11 = .ok (.iconst (-1), 1) := by decide +kernel
theorem dX6_cut_12 : decode cX6_cut 12 = .ok (.ireturn, 1) := by decide +kernel
theorem dX6_cut_13 : decode cX6_cut 13 = .ok (.iload_n 1, 1) := by decide +kernel
theorem dX6_cut_14 : decode cX6_cut 14 = .ok (.ifCond .ne 6, 3) := by decide +kernel
theorem dX6_cut_17 : decode cX6_cut 17 = .ok (.bipush (-4), 2) := by decide +kernel
theorem dX6_cut_19 : decode cX6_cut 19 = .ok (.ireturn, 1) := by decide +kernel
theorem dX6_cut_20 : decode cX6_cut 20 = .ok (.aload_n 0, 1) := by decide +kernel
theorem dX6_cut_21 : decode cX6_cut 21 = .ok (.getfield 10, 3) := by decide +kernel
theorem dX6_cut_24 : decode cX6_cut 24 = .ok (.iload_n 1, 1) := by decide +kernel
theorem dX6_cut_25 : decode cX6_cut 25 = .ok (.invokevirtual 67, 3) := by decide +kernel
theorem dX6_cut_28 : decode cX6_cut 28 = .ok (.ifCond .ne 6, 3) := by decide +kernel
theorem dX6_cut_31 : decode cX6_cut 31 = .ok (.bipush (-5), 2) := by decide +kernel
theorem dX6_cut_33 : decode cX6_cut 33 = .ok (.ireturn, 1) := by decide +kernel
theorem dX6_cut_34 : decode cX6_cut 34 = .ok (.aload_n 0, 1) := by decide +kernel
theorem dX6_cut_35 : decode cX6_cut 35 = .ok (.invokevirtual 43, 3) := by decide +kernel
theorem dX6_cut_38 : decode cX6_cut 38 = .ok (.aload_n 0, 1) := by decide +kernel
theorem dX6_cut_39 : decode cX6_cut 39 = .ok (.getfield 10, 3) := by decide +kernel
theorem dX6_cut_42 : decode cX6_cut 42 = .ok (.iload_n 1, 1) := by decide +kernel
theorem dX6_cut_43 : decode cX6_cut 43 = .ok (.invokevirtual 90, 3) := by decide +kernel
theorem dX6_cut_46 : decode cX6_cut 46 = .ok (.aload_n 0, 1) := by decide +kernel
theorem dX6_cut_47 : decode cX6_cut 47 = .ok (.iload_n 1, 1) := by decide +kernel
theorem dX6_cut_48 : decode cX6_cut 48 = .ok (.aload_n 0, 1) := by decide +kernel
theorem dX6_cut_49 : decode cX6_cut 49 = .ok (.getfield 10, 3) := by decide +kernel
theorem dX6_cut_52 : decode cX6_cut 52 = .ok (.iload_n 1, 1) := by decide +kernel
theorem dX6_cut_53 : decode cX6_cut 53 = .ok (.invokevirtual 70, 3) := by decide +kernel
theorem dX6_cut_56 : decode cX6_cut 56 = .ok (.invokevirtual 93, 3) := by decide +kernel
theorem dX6_cut_59 : decode cX6_cut 59 = .ok (.aload_n 0, 1) := by decide +kernel
theorem dX6_cut_60 : decode cX6_cut 60 = .ok (.aload_n 0, 1) := by decide +kernel
theorem dX6_cut_61 : decode cX6_cut 61 = .ok (.getfield 10, 3) := by decide +kernel
theorem dX6_cut_64 : decode cX6_cut 64 = .ok (.invokevirtual 97, 3) := by decide +kernel
theorem dX6_cut_67 : decode cX6_cut 67 = .ok (.invokevirtual 50, 3) := by decide +kernel
theorem dX6_cut_70 : decode cX6_cut 70 = .ok (.ireturn, 1) := by decide +kernel
theorem dX6_join_0 : decode cX6_join 0 = .ok (.aload_n 0, 1) := by decide +kernel
theorem dX6_join_1 : decode cX6_join 1 = .ok (.invokevirtual 43, 3) := by decide +kernel
theorem dX6_join_4 : decode cX6_join 4 = .ok (.aload_n 0, 1) := by decide +kernel
theorem dX6_join_5 : decode cX6_join 5 = .ok (.aload_n 0, 1) := by decide +kernel
theorem dX6_join_6 : decode cX6_join 6 = .ok (.iload_n 1, 1) := by decide +kernel
theorem dX6_join_7 : decode cX6_join 7 = .ok (.invokevirtual 100, 3) := by decide +kernel
theorem dX6_join_10 : decode cX6_join 10 = .ok (.invokevirtual 50, 3) := by decide +kernel
theorem dX6_join_13 : decode cX6_join 13 = .ok (.ireturn, 1) := by decide +kernel
theorem dX6_set_0 : decode cX6_set 0 = .ok (.iload_n 1, 1) := by decide +kernel
theorem dX6_set_1 : decode cX6_set 1 = .ok (.ifCond .eq 10, 3) := by decide +kernel
theorem dX6_set_4 : decode cX6_set 4 = .ok (.iload_n 1, 1) := by decide +kernel
theorem dX6_set_5 : decode cX6_set 5 = .ok (.iconst 1, 1) := by decide +kernel
theorem dX6_set_6 : decode cX6_set 6 = .ok (.if_icmp .eq 5, 3) := by decide +kernel
theorem dX6_set_9 : decode cX6_set 9 = .ok (.iconst (-1), 1) := by decide +kernel
theorem dX6_set_10 : decode cX6_set 10 = .ok (.ireturn, 1) := by decide +kernel
theorem dX6_set_11 : decode cX6_set 11 = .ok (.iload_n 1, 1) := by decide +kernel
theorem dX6_set_12 : decode cX6_set 12 = .ok (.ifCond .ne 20, 3) := by decide +kernel
theorem dX6_set_15 : decode cX6_set 15 = .ok (.iload_n 2, 1) := by decide +kernel
theorem dX6_set_16 : decode cX6_set 16 = .ok (.ifCond .lt 12, 3) := by decide +kernel
theorem dX6_set_19 : decode cX6_set 19 = .ok (.iload_n 2, 1) := by decide +kernel
theorem dX6_set_20 : decode cX6_set 20 = .ok (.iconst 3, 1) := by decide +kernel
theorem dX6_set_21 : decode cX6_set 21 = .ok (.if_icmp .ge 7, 3) := by decide +kernel
theorem dX6_set_24 : decode cX6_set 24 = .ok (.iconst 1, 1) := by decide +kernel
theorem dX6_set_25 : decode cX6_set 25 = .ok (.goto 23, 3) := by decide +kernel
theorem dX6_set_28 : decode cX6_set 28 = .ok (.iconst 0, 1) := by decide +kernel
theorem dX6_set_29 : decode cX6_set 29 = .ok (.goto 19, 3) := by decide +kernel
theorem dX6_set_32 : decode cX6_set 32 = .ok (.iload_n 2, 1) := by decide +kernel
theorem dX6_set_33 : decode cX6_set 33 = .ok (.iconst 1, 1) := by decide +kernel
theorem dX6_set_34 : decode cX6_set 34 = .ok (.if_icmp .lt 13, 3) := by decide +kernel
theorem dX6_set_37 : decode cX6_set 37 = .ok (.iload_n 2, 1) := by decide +kernel
theorem dX6_set_38 : decode cX6_set 38 = .ok (.bipush 30, 2) := by decide +kernel
theorem dX6_set_40 : decode cX6_set 40 = .ok (.if_icmp .gt 7, 3) := by decide +kernel
theorem dX6_set_43 : decode cX6_set 43 = .ok (.iconst 1, 1) := by decide +kernel
theorem dX6_set_44 : decode cX6_set 44 = .ok (.goto 4, 3) := by decide +kernel
theorem dX6_set_47 : decode cX6_set 47 = .ok (.iconst 0, 1) := by decide +kernel
theorem dX6_set_48 : decode cX6_set 48 = .ok (.istore_n 3, 1) := by decide +kernel
theorem dX6_set_49 : decode cX6_set 49 = .ok (.iload_n 3, 1) := by decide +kernel
theorem dX6_set_50 : decode cX6_set 50 = .ok (.ifCond .ne 6, 3) := by decide +kernel
theorem dX6_set_53 : decode cX6_set 53 = .ok (.bipush (-2), 2) := by decide +kernel
theorem dX6_set_55 : decode cX6_set 55 = .ok (.ireturn, 1) := by decide +kernel
theorem dX6_set_56 : decode cX6_set 56 = .ok (.iload_n 1, 1) := by decide +kernel
theorem dX6_set_57 : decode cX6_set 57 = .ok (.ifCond .ne 13, 3) := by decide +kernel
theorem dX6_set_60 : decode cX6_set 60 = .ok (.aload_n 0, 1) := by decide +kernel
theorem dX6_set_61 : decode cX6_set 61 = .ok (.getfield 10, 3) := by decide +kernel
theorem dX6_set_64 : decode cX6_set 64 = .ok (.getfield 103, 3) := by decide +kernel
theorem dX6_set_67 : decode cX6_set 67 = .ok (.goto 10, 3) := by decide +kernel
theorem dX6_set_70 : decode cX6_set 70 = .ok (.aload_n 0, 1) := by decide +kernel
theorem dX6_set_71 : decode cX6_set 71 = .ok (.getfield 10, 3) := by decide +kernel
theorem dX6_set_74 : decode cX6_set 74 = .ok (.getfield 107, 3) := by decide +kernel
theorem dX6_set_77 : decode cX6_set 77 = .ok (.istore 4, 2) := by decide +kernel
theorem dX6_set_79 : decode cX6_set 79 = .ok (.iload 4, 2) := by decide +kernel
theorem dX6_set_81 : decode cX6_set 81 = .ok (.iload_n 2, 1) := by decide +kernel
theorem dX6_set_82 : decode cX6_set 82 = .ok (.if_icmp .ne 6, 3) := by decide +kernel
theorem dX6_set_85 : decode cX6_set 85 = .ok (.bipush (-5), 2) := by decide +kernel
theorem dX6_set_87 : decode cX6_set 87 = .ok (.ireturn, 1) := by decide +kernel
theorem dX6_set_88 : decode cX6_set 88 = .ok (.aload_n 0, 1) := by decide +kernel
theorem dX6_set_89 : decode cX6_set 89 = .ok (.invokevirtual 43, 3) := by decide +kernel
theorem dX6_set_92 : decode cX6_set 92 = .ok (.iload_n 1, 1) := by decide +kernel
theorem dX6_set_93 : decode cX6_set 93 = .ok (.ifCond .ne 14, 3) := by decide +kernel
theorem dX6_set_96 : decode cX6_set 96 = .ok (.aload_n 0, 1) := by decide +kernel
theorem dX6_set_97 : decode cX6_set 97 = .ok (.getfield 10, 3) := by decide +kernel
theorem dX6_set_100 : decode cX6_set 100 = .ok (.iload_n 2, 1) := by decide +kernel
theorem dX6_set_101 : decode cX6_set 101 = .ok (.putfield 103, 3) := by decide +kernel
theorem dX6_set_104 : decode cX6_set 104 = .ok (.goto 11, 3) := by decide +kernel
theorem dX6_set_107 : decode cX6_set 107 = .ok (.aload_n 0, 1) := by decide +kernel
theorem dX6_set_108 : decode cX6_set 108 = .ok (.getfield 10, 3) := by decide +kernel
theorem dX6_set_111 : decode cX6_set 111 = .ok (.iload_n 2, 1) := by decide +kernel
theorem dX6_set_112 : decode cX6_set 112 = .ok (.putfield 107, 3) := by decide +kernel
theorem dX6_set_115 : decode cX6_set 115 = .ok (.aload_n 0, 1) := by decide +kernel
theorem dX6_set_116 : decode cX6_set 116 = .ok (.iload 4, 2) := by decide +kernel
theorem dX6_set_118 : decode cX6_set 118 = .ok (.invokevirtual 50, 3) := by decide +kernel
theorem dX6_set_121 : decode cX6_set 121 = .ok (.ireturn, 1) := by decide +kernel
theorem dX6_type_0 : decode cX6_type 0 = .ok (.aload_n 0, 1) := by decide +kernel
theorem dX6_type_1 : decode cX6_type 1 = .ok (.getfield 39, 3) := by decide +kernel
theorem dX6_type_4 : decode cX6_type 4 = .ok (.iload_n 1, 1) := by decide +kernel
theorem dX6_type_5 : decode cX6_type 5 = .ok (.invokevirtual 110, 3) := by decide +kernel
theorem dX6_type_8 : decode cX6_type 8 = .ok (.ifCond .eq 13, 3) := by decide +kernel
theorem dX6_type_11 : decode cX6_type 11 = .ok (.aload_n 0, 1) := by decide +kernel
theorem dX6_type_12 : decode cX6_type 12 = .ok (.getfield 39, 3) := by decide +kernel
theorem dX6_type_15 : decode cX6_type 15 = .ok (.getfield 114, 3) := by decide +kernel
theorem dX6_type_18 : decode cX6_type 18 = .ok (.goto 5, 3) := by decide +kernel
theorem dX6_type_21 : decode cX6_type 21 = .ok (.bipush (-3), 2) := by decide +kernel
theorem dX6_type_23 : decode cX6_type 23 = .ok (.ireturn, 1) := by decide +kernel
theorem dX6_clearText_0 : decode cX6_clearText 0 = .ok (.aload_n 0, 1) := by decide +kernel
theorem dX6_clearText_1 : decode cX6_clearText 1 = .ok (.getfield 39, 3) := by decide +kernel
theorem dX6_clearText_4 : decode cX6_clearText 4 = .ok (.invokevirtual 117, 3) := by decide +kernel
theorem dX6_clearText_7 : decode cX6_clearText 7 = .ok (.ireturn, 1) := by decide +kernel
theorem dX6_perform_0 : decode cX6_perform 0 = .ok (.aload_n 0, 1) := by decide +kernel
theorem dX6_perform_1 : decode cX6_perform 1 = .ok (.getfield 39, 3) := by decide +kernel
theorem dX6_perform_4 : decode cX6_perform 4 = .ok (.invokevirtual 120, 3) := by decide +kernel
theorem dX6_perform_7 : decode cX6_perform 7 = .ok (.ifCond .ne 14, 3) := by decide +kernel
theorem dX6_perform_10 : decode cX6_perform 10 = .ok (.bipush (-100), 2) := by decide +kernel
theorem dX6_perform_12 : decode cX6_perform 12 = .ok (.aload_n 0, 1) := by decide +kernel
theorem dX6_perform_13 : decode cX6_perform 13 = .ok (.getfield 39, 3) := by decide +kernel
theorem dX6_perform_16 : decode cX6_perform 16 = .ok (.getfield 124, 3) := by decide +kernel
theorem dX6_perform_19 : decode cX6_perform 19 = .ok (.isub, 1) := by decide +kernel
theorem dX6_perform_20 : decode cX6_perform 20 = .ok (.ireturn, 1) := by decide +kernel
theorem dX6_perform_21 : decode cX6_perform 21 = .ok (.aload_n 0, 1) := by decide +kernel
theorem dX6_perform_22 : decode cX6_perform 22 = .ok (.invokevirtual 43, 3) := by decide +kernel
theorem dX6_perform_25 : decode cX6_perform 25 = .ok (.iconst 0, 1) := by decide +kernel
theorem dX6_perform_26 : decode cX6_perform 26 = .ok (.istore_n 1, 1) := by decide +kernel
theorem dX6_perform_27 : decode cX6_perform 27 = .ok (.iload_n 1, 1) := by decide +kernel
theorem dX6_perform_28 : decode cX6_perform 28 = .ok (.aload_n 0, 1) := by decide +kernel
theorem dX6_perform_29 : decode cX6_perform 29 = .ok (.getfield 39, 3) := by decide +kernel
theorem dX6_perform_32 : decode cX6_perform 32 = .ok (.getfield 127, 3) := by decide +kernel
theorem dX6_perform_35 : decode cX6_perform 35 = .ok (.if_icmp .ge 32, 3) := by decide +kernel
theorem dX6_perform_38 : decode cX6_perform 38 = .ok (.aload_n 0, 1) := by decide +kernel
theorem dX6_perform_39 : decode cX6_perform 39 = .ok (.iload_n 1, 1) := by decide +kernel
theorem dX6_perform_40 : decode cX6_perform 40 = .ok (.invokevirtual 130, 3) := by decide +kernel
theorem dX6_perform_43 : decode cX6_perform 43 = .ok (.istore_n 2, 1) := by decide +kernel
theorem dX6_perform_44 : decode cX6_perform 44 = .ok (.iload_n 2, 1) := by decide +kernel
theorem dX6_perform_45 : decode cX6_perform 45 = .ok (.ifCond .ge 16, 3) := by decide +kernel
theorem dX6_perform_48 : decode cX6_perform 48 = .ok (.iload_n 2, 1) := by decide +kernel
theorem dX6_perform_49 : decode cX6_perform 49 = .ok (.bipush (-5), 2) := by decide +kernel
theorem dX6_perform_51 : decode cX6_perform 51 = .ok (.if_icmp .eq 10, 3) := by decide +kernel
theorem dX6_perform_54 : decode cX6_perform 54 = .ok (.aload_n 0, 1) := by decide +kernel
theorem dX6_perform_55 : decode cX6_perform 55 = .ok (.iload_n 1, 1) := by decide +kernel
theorem dX6_perform_56 : decode cX6_perform 56 = .ok (.iload_n 2, 1) := by decide +kernel
theorem dX6_perform_57 : decode cX6_perform 57 = .ok (.invokevirtual 133, 3) := by decide +kernel
theorem dX6_perform_60 : decode cX6_perform 60 = .ok (.ireturn, 1) := by decide +kernel
theorem dX6_perform_61 : decode cX6_perform 61 = .ok (.iinc 1 1, 3) := by decide +kernel
theorem dX6_perform_64 : decode cX6_perform 64 = .ok (.goto (-37), 3) := by decide +kernel
theorem dX6_perform_67 : decode cX6_perform 67 = .ok (.aload_n 0, 1) := by decide +kernel
theorem dX6_perform_68 : decode cX6_perform 68 = .ok (.aload_n 0, 1) := by decide +kernel
theorem dX6_perform_69 : decode cX6_perform 69 = .ok (.getfield 39, 3) := by decide +kernel
theorem dX6_perform_72 : decode cX6_perform 72 = .ok (.getfield 127, 3) := by decide +kernel
theorem dX6_perform_75 : decode cX6_perform 75 = .ok (.invokevirtual 50, 3) := by decide +kernel
theorem dX6_perform_78 : decode cX6_perform 78 = .ok (.ireturn, 1) := by decide +kernel
theorem dX6_stopped_0 : decode cX6_stopped 0 = .ok (.iload_n 1, 1) := by decide +kernel
theorem dX6_stopped_1 : decode cX6_stopped 1 = .ok (.ifCond .eq 11, 3) := by decide +kernel
theorem dX6_stopped_4 : decode cX6_stopped 4 = .ok (.iload_n 1, 1) := by decide +kernel
theorem dX6_stopped_5 : decode cX6_stopped 5 = .ok (.iconst 1, 1) := by decide +kernel
theorem dX6_stopped_6 : decode cX6_stopped 6 = .ok (.if_icmp .eq 6, 3) := by decide +kernel
theorem dX6_stopped_9 : decode cX6_stopped 9 = .ok (.bipush (-2), 2) := by decide +kernel
theorem dX6_stopped_11 : decode cX6_stopped 11 = .ok (.ireturn, 1) := by decide +kernel
theorem dX6_stopped_12 : decode cX6_stopped 12 = .ok (.aload_n 0, 1) := by decide +kernel
theorem dX6_stopped_13 : decode cX6_stopped 13 = .ok (.getfield 137, 3) := by decide +kernel
theorem dX6_stopped_16 : decode cX6_stopped 16 = .ok (.ifCond .ne 6, 3) := by decide +kernel
theorem dX6_stopped_19 : decode cX6_stopped 19 = .ok (.bipush (-5), 2) := by decide +kernel
theorem dX6_stopped_21 : decode cX6_stopped 21 = .ok (.ireturn, 1) := by decide +kernel
theorem dX6_stopped_22 : decode cX6_stopped 22 = .ok (.iload_n 1, 1) := by decide +kernel
theorem dX6_stopped_23 : decode cX6_stopped 23 = .ok (.ifCond .ne 10, 3) := by decide +kernel
theorem dX6_stopped_26 : decode cX6_stopped 26 = .ok (.aload_n 0, 1) := by decide +kernel
theorem dX6_stopped_27 : decode cX6_stopped 27 = .ok (.getfield 141, 3) := by decide +kernel
theorem dX6_stopped_30 : decode cX6_stopped 30 = .ok (.goto 7, 3) := by decide +kernel
theorem dX6_stopped_33 : decode cX6_stopped 33 = .ok (.aload_n 0, 1) := by decide +kernel
theorem dX6_stopped_34 : decode cX6_stopped 34 = .ok (.getfield 144, 3) := by decide +kernel
theorem dX6_stopped_37 : decode cX6_stopped 37 = .ok (.ireturn, 1) := by decide +kernel
theorem dX6_undo_0 : decode cX6_undo 0 = .ok (.aload_n 0, 1) := by decide +kernel
theorem dX6_undo_1 : decode cX6_undo 1 = .ok (.getfield 25, 3) := by decide +kernel
theorem dX6_undo_4 : decode cX6_undo 4 = .ok (.aload_n 0, 1) := by decide +kernel
theorem dX6_undo_5 : decode cX6_undo 5 = .ok (.getfield 10, 3) := by decide +kernel
theorem dX6_undo_8 : decode cX6_undo 8 = .ok (.invokevirtual 147, 3) := by decide +kernel
theorem dX6_undo_11 : decode cX6_undo 11 = .ok (.ifCond .eq 13, 3) := by decide +kernel
theorem dX6_undo_14 : decode cX6_undo 14 = .ok (.aload_n 0, 1) := by decide +kernel
theorem dX6_undo_15 : decode cX6_undo 15 = .ok (.getfield 25, 3) := by decide +kernel
theorem dX6_undo_18 : decode cX6_undo 18 = .ok (.getfield 151, 3) := by decide +kernel
theorem dX6_undo_21 : decode cX6_undo 21 = .ok (.goto 5, 3) := by decide +kernel
theorem dX6_undo_24 : decode cX6_undo 24 = .ok (.bipush (-5), 2) := by decide +kernel
theorem dX6_undo_26 : decode cX6_undo 26 = .ok (.ireturn, 1) := by decide +kernel
theorem dX6_keep_0 : decode cX6_keep 0 = .ok (.aload_n 0, 1) := by decide +kernel
theorem dX6_keep_1 : decode cX6_keep 1 = .ok (.getfield 19, 3) := by decide +kernel
theorem dX6_keep_4 : decode cX6_keep 4 = .ok (.aload_n 0, 1) := by decide +kernel
theorem dX6_keep_5 : decode cX6_keep 5 = .ok (.getfield 10, 3) := by decide +kernel
theorem dX6_keep_8 : decode cX6_keep 8 = .ok (.invokevirtual 152, 3) := by decide +kernel
theorem dX6_keep_11 : decode cX6_keep 11 = .ok (.aload_n 0, 1) := by decide +kernel
theorem dX6_keep_12 : decode cX6_keep 12 = .ok (.iconst 1, 1) := by decide +kernel
theorem dX6_keep_13 : decode cX6_keep 13 = .ok (.putfield 156, 3) := by decide +kernel
theorem dX6_keep_16 : decode cX6_keep 16 = .ok (.aload_n 0, 1) := by decide +kernel
theorem dX6_keep_17 : decode cX6_keep 17 = .ok (.getfield 10, 3) := by decide +kernel
theorem dX6_keep_20 : decode cX6_keep 20 = .ok (.invokevirtual 80, 3) := by decide +kernel
theorem dX6_keep_23 : decode cX6_keep 23 = .ok (.ireturn, 1) := by decide +kernel
theorem dX6_restore_0 : decode cX6_restore 0 = .ok (.aload_n 0, 1) := by decide +kernel
theorem dX6_restore_1 : decode cX6_restore 1 = .ok (.getfield 156, 3) := by decide +kernel
theorem dX6_restore_4 : decode cX6_restore 4 = .ok (.ifCond .ne 6, 3) := by decide +kernel
theorem dX6_restore_7 : decode cX6_restore 7 = .ok (.bipush (-5), 2) := by decide +kernel
theorem dX6_restore_9 : decode cX6_restore 9 = .ok (.ireturn, 1) := by decide +kernel
theorem dX6_restore_10 : decode cX6_restore 10 = .ok (.aload_n 0, 1) := by decide +kernel
theorem dX6_restore_11 : decode cX6_restore 11 = .ok (.invokevirtual 43, 3) := by decide +kernel
theorem dX6_restore_14 : decode cX6_restore 14 = .ok (.aload_n 0, 1) := by decide +kernel
theorem dX6_restore_15 : decode cX6_restore 15 = .ok (.getfield 10, 3) := by decide +kernel
theorem dX6_restore_18 : decode cX6_restore 18 = .ok (.aload_n 0, 1) := by decide +kernel
theorem dX6_restore_19 : decode cX6_restore 19 = .ok (.getfield 19, 3) := by decide +kernel
theorem dX6_restore_22 : decode cX6_restore 22 = .ok (.invokevirtual 152, 3) := by decide +kernel
theorem dX6_restore_25 : decode cX6_restore 25 = .ok (.aload_n 0, 1) := by decide +kernel
theorem dX6_restore_26 : decode cX6_restore 26 = .ok (.aload_n 0, 1) := by decide +kernel
theorem dX6_restore_27 : decode cX6_restore 27 = .ok (.getfield 10, 3) := by decide +kernel
theorem dX6_restore_30 : decode cX6_restore 30 = .ok (.invokevirtual 80, 3) := by decide +kernel
theorem dX6_restore_33 : decode cX6_restore 33 = .ok (.invokevirtual 50, 3) := by decide +kernel
theorem dX6_restore_36 : decode cX6_restore 36 = .ok (.ireturn, 1) := by decide +kernel
theorem dX6_cell_0 : decode cX6_cell 0 = .ok (.aload_n 0, 1) := by decide +kernel
theorem dX6_cell_1 : decode cX6_cell 1 = .ok (.getfield 10, 3) := by decide +kernel
theorem dX6_cell_4 : decode cX6_cell 4 = .ok (.iload_n 1, 1) := by decide +kernel
theorem dX6_cell_5 : decode cX6_cell 5 = .ok (.invokevirtual 57, 3) := by decide +kernel
theorem dX6_cell_8 : decode cX6_cell 8 = .ok (.ifCond .eq 22, 3) := by decide +kernel
theorem dX6_cell_11 : decode cX6_cell 11 = .ok (.iload_n 2, 1) := by decide +kernel
theorem dX6_cell_12 : decode cX6_cell 12 = .ok (.invokestatic 159, 3) := by decide +kernel
theorem dX6_cell_15 : decode cX6_cell 15 = .ok (.ifCond .eq 15, 3) := by decide +kernel
theorem dX6_cell_18 : decode cX6_cell 18 = .ok (.aload_n 0, 1) := by decide +kernel
theorem dX6_cell_19 : decode cX6_cell 19 = .ok (.getfield 10, 3) := by decide +kernel
theorem dX6_cell_22 : decode cX6_cell 22 = .ok (.iload_n 1, 1) := by decide +kernel
theorem dX6_cell_23 : decode cX6_cell 23 = .ok (.iload_n 2, 1) := by decide +kernel
theorem dX6_cell_24 : decode cX6_cell 24 = .ok (.invokevirtual 162, 3) := by decide +kernel
theorem dX6_cell_27 : decode cX6_cell 27 = .ok (.goto 4, 3) := by decide +kernel
theorem dX6_cell_30 : decode cX6_cell 30 = .ok (.iconst (-1), 1) := by decide +kernel
theorem dX6_cell_31 : decode cX6_cell 31 = .ok (.ireturn, 1) := by decide +kernel
theorem dX6_version_0 : decode cX6_version 0 = .ok (.aload_n 0, 1) := by decide +kernel
theorem dX6_version_1 : decode cX6_version 1 = .ok (.getfield 10, 3) := by decide +kernel
theorem dX6_version_4 : decode cX6_version 4 = .ok (.iload_n 1, 1) := by decide +kernel
theorem dX6_version_5 : decode cX6_version 5 = .ok (.invokevirtual 57, 3) := by decide +kernel
theorem dX6_version_8 : decode cX6_version 8 = .ok (.ifCond .ne 5, 3) := by decide +kernel
theorem dX6_version_11 : decode cX6_version 11 = .ok (.iconst (-1), 1) := by decide +kernel
theorem dX6_version_12 : decode cX6_version 12 = .ok (.ireturn, 1) := by decide +kernel
theorem dX6_version_13 : decode cX6_version 13 = .ok (.iload_n 2, 1) := by decide +kernel
theorem dX6_version_14 : decode cX6_version 14 = .ok (.tableswitch 108 0 7 #[46, 64, 81, 108, 108, 108, 90, 99], 46) := by decide +kernel
theorem dX6_version_60 : decode cX6_version 60 = .ok (.iload_n 1, 1) := by decide +kernel
theorem dX6_version_61 : decode cX6_version 61 = .ok (.ifCond .ne 8, 3) := by decide +kernel
theorem dX6_version_64 : decode cX6_version 64 = .ok (.bipush (-5), 2) := by decide +kernel
theorem dX6_version_66 : decode cX6_version 66 = .ok (.goto 11, 3) := by decide +kernel
theorem dX6_version_69 : decode cX6_version 69 = .ok (.aload_n 0, 1) := by decide +kernel
theorem dX6_version_70 : decode cX6_version 70 = .ok (.getfield 10, 3) := by decide +kernel
theorem dX6_version_73 : decode cX6_version 73 = .ok (.iload_n 1, 1) := by decide +kernel
theorem dX6_version_74 : decode cX6_version 74 = .ok (.invokevirtual 70, 3) := by decide +kernel
theorem dX6_version_77 : decode cX6_version 77 = .ok (.ireturn, 1) := by decide +kernel
theorem dX6_version_78 : decode cX6_version 78 = .ok (.aload_n 0, 1) := by decide +kernel
theorem dX6_version_79 : decode cX6_version 79 = .ok (.getfield 10, 3) := by decide +kernel
theorem dX6_version_82 : decode cX6_version 82 = .ok (.iload_n 1, 1) := by decide +kernel
theorem dX6_version_83 : decode cX6_version 83 = .ok (.invokevirtual 67, 3) := by decide +kernel
theorem dX6_version_86 : decode cX6_version 86 = .ok (.ifCond .eq 7, 3) := by decide +kernel
theorem dX6_version_89 : decode cX6_version 89 = .ok (.iconst 1, 1) := by decide +kernel
theorem dX6_version_90 : decode cX6_version 90 = .ok (.goto 4, 3) := by decide +kernel
theorem dX6_version_93 : decode cX6_version 93 = .ok (.iconst 0, 1) := by decide +kernel
theorem dX6_version_94 : decode cX6_version 94 = .ok (.ireturn, 1) := by decide +kernel
theorem dX6_version_95 : decode cX6_version 95 = .ok (.aload_n 0, 1) := by decide +kernel
theorem dX6_version_96 : decode cX6_version 96 = .ok (.getfield 10, 3) := by decide +kernel
theorem dX6_version_99 : decode cX6_version 99 = .ok (.iload_n 1, 1) := by decide +kernel
theorem dX6_version_100 : decode cX6_version 100 = .ok (.invokevirtual 165, 3) := by decide +kernel
theorem dX6_version_103 : decode cX6_version 103 = .ok (.ireturn, 1) := by decide +kernel
theorem dX6_version_104 : decode cX6_version 104 = .ok (.aload_n 0, 1) := by decide +kernel
theorem dX6_version_105 : decode cX6_version 105 = .ok (.getfield 10, 3) := by decide +kernel
theorem dX6_version_108 : decode cX6_version 108 = .ok (.iload_n 1, 1) := by decide +kernel
theorem dX6_version_109 : decode cX6_version 109 = .ok (.invokevirtual 168, 3) := by decide +kernel
theorem dX6_version_112 : decode cX6_version 112 = .ok (.ireturn, 1) := by decide +kernel
theorem dX6_version_113 : decode cX6_version 113 = .ok (.aload_n 0, 1) := by decide +kernel
theorem dX6_version_114 : decode cX6_version 114 = .ok (.getfield 10, 3) := by decide +kernel
theorem dX6_version_117 : decode cX6_version 117 = .ok (.iload_n 1, 1) := by decide +kernel
theorem dX6_version_118 : decode cX6_version 118 = .ok (.invokevirtual 61, 3) := by decide +kernel
theorem dX6_version_121 : decode cX6_version 121 = .ok (.ireturn, 1) := by decide +kernel
theorem dX6_version_122 : decode cX6_version 122 = .ok (.aload_n 0, 1) := by decide +kernel
theorem dX6_version_123 : decode cX6_version 123 = .ok (.iload_n 1, 1) := by decide +kernel
theorem dX6_version_124 : decode cX6_version 124 = .ok (.iload_n 2, 1) := by decide +kernel
theorem dX6_version_125 : decode cX6_version 125 = .ok (.invokevirtual 171, 3) := by decide +kernel
theorem dX6_version_128 : decode cX6_version 128 = .ok (.ireturn, 1) := by decide +kernel
theorem dX6_way_0 : decode cX6_way 0 = .ok (.aload_n 0, 1) := by decide +kernel
theorem dX6_way_1 : decode cX6_way 1 = .ok (.getfield 10, 3) := by decide +kernel
theorem dX6_way_4 : decode cX6_way 4 = .ok (.iload_n 1, 1) := by decide +kernel
theorem dX6_way_5 : decode cX6_way 5 = .ok (.invokevirtual 57, 3) := by decide +kernel
theorem dX6_way_8 : decode cX6_way 8 = .ok (.ifCond .ne 5, 3) := by decide +kernel
theorem dX6_way_11 : decode cX6_way 11 = .ok (.iconst (-1), 1) := by decide +kernel
theorem dX6_way_12 : decode cX6_way 12 = .ok (.ireturn, 1) := by decide +kernel
theorem dX6_way_13 : decode cX6_way 13 = .ok (.iload_n 2, 1) := by decide +kernel
theorem dX6_way_14 : decode cX6_way 14 = .ok (.ifCond .ge 6, 3) := by decide +kernel
theorem dX6_way_17 : decode cX6_way 17 = .ok (.bipush (-2), 2) := by decide +kernel
theorem dX6_way_19 : decode cX6_way 19 = .ok (.ireturn, 1) := by decide +kernel
theorem dX6_way_20 : decode cX6_way 20 = .ok (.aload_n 0, 1) := by decide +kernel
theorem dX6_way_21 : decode cX6_way 21 = .ok (.getfield 32, 3) := by decide +kernel
theorem dX6_way_24 : decode cX6_way 24 = .ok (.aload_n 0, 1) := by decide +kernel
theorem dX6_way_25 : decode cX6_way 25 = .ok (.getfield 10, 3) := by decide +kernel
theorem dX6_way_28 : decode cX6_way 28 = .ok (.iload_n 1, 1) := by decide +kernel
theorem dX6_way_29 : decode cX6_way 29 = .ok (.invokevirtual 174, 3) := by decide +kernel
theorem dX6_way_32 : decode cX6_way 32 = .ok (.aload_n 0, 1) := by decide +kernel
theorem dX6_way_33 : decode cX6_way 33 = .ok (.getfield 32, 3) := by decide +kernel
theorem dX6_way_36 : decode cX6_way 36 = .ok (.aload_n 0, 1) := by decide +kernel
theorem dX6_way_37 : decode cX6_way 37 = .ok (.getfield 10, 3) := by decide +kernel
theorem dX6_way_40 : decode cX6_way 40 = .ok (.invokevirtual 178, 3) := by decide +kernel
theorem dX6_way_43 : decode cX6_way 43 = .ok (.istore_n 3, 1) := by decide +kernel
theorem dX6_way_44 : decode cX6_way 44 = .ok (.iload_n 2, 1) := by decide +kernel
theorem dX6_way_45 : decode cX6_way 45 = .ok (.aload_n 0, 1) := by decide +kernel
theorem dX6_way_46 : decode cX6_way 46 = .ok (.getfield 32, 3) := by decide +kernel
theorem dX6_way_49 : decode cX6_way 49 = .ok (.iload_n 3, 1) := by decide +kernel
theorem dX6_way_50 : decode cX6_way 50 = .ok (.invokevirtual 182, 3) := by decide +kernel
theorem dX6_way_53 : decode cX6_way 53 = .ok (.if_icmp .le 8, 3) := by decide +kernel
theorem dX6_way_56 : decode cX6_way 56 = .ok (.bipush (-5), 2) := by decide +kernel
theorem dX6_way_58 : decode cX6_way 58 = .ok (.goto 12, 3) := by decide +kernel
theorem dX6_way_61 : decode cX6_way 61 = .ok (.aload_n 0, 1) := by decide +kernel
theorem dX6_way_62 : decode cX6_way 62 = .ok (.getfield 32, 3) := by decide +kernel
theorem dX6_way_65 : decode cX6_way 65 = .ok (.iload_n 3, 1) := by decide +kernel
theorem dX6_way_66 : decode cX6_way 66 = .ok (.iload_n 2, 1) := by decide +kernel
theorem dX6_way_67 : decode cX6_way 67 = .ok (.invokevirtual 185, 3) := by decide +kernel
theorem dX6_way_70 : decode cX6_way 70 = .ok (.ireturn, 1) := by decide +kernel
theorem dX6_unlike_0 : decode cX6_unlike 0 = .ok (.aload_n 0, 1) := by decide +kernel
theorem dX6_unlike_1 : decode cX6_unlike 1 = .ok (.getfield 10, 3) := by decide +kernel
theorem dX6_unlike_4 : decode cX6_unlike 4 = .ok (.iload_n 1, 1) := by decide +kernel
theorem dX6_unlike_5 : decode cX6_unlike 5 = .ok (.invokevirtual 57, 3) := by decide +kernel
theorem dX6_unlike_8 : decode cX6_unlike 8 = .ok (.ifCond .eq 14, 3) := by decide +kernel
theorem dX6_unlike_11 : decode cX6_unlike 11 = .ok (.aload_n 0, 1) := by decide +kernel
theorem dX6_unlike_12 : decode cX6_unlike 12 = .ok (.getfield 10, 3) := by decide +kernel
theorem dX6_unlike_15 : decode cX6_unlike 15 = .ok (.iload_n 2, 1) := by decide +kernel
theorem dX6_unlike_16 : decode cX6_unlike 16 = .ok (.invokevirtual 57, 3) := by decide +kernel
theorem dX6_unlike_19 : decode cX6_unlike 19 = .ok (.ifCond .ne 5, 3) := by decide +kernel
theorem dX6_unlike_22 : decode cX6_unlike 22 = .ok (.iconst (-1), 1) := by decide +kernel
theorem dX6_unlike_23 : decode cX6_unlike 23 = .ok (.ireturn, 1) := by decide +kernel
theorem dX6_unlike_24 : decode cX6_unlike 24 = .ok (.aload_n 0, 1) := by decide +kernel
theorem dX6_unlike_25 : decode cX6_unlike 25 = .ok (.getfield 10, 3) := by decide +kernel
theorem dX6_unlike_28 : decode cX6_unlike 28 = .ok (.iload_n 1, 1) := by decide +kernel
theorem dX6_unlike_29 : decode cX6_unlike 29 = .ok (.iload_n 2, 1) := by decide +kernel
theorem dX6_unlike_30 : decode cX6_unlike 30 = .ok (.invokevirtual 188, 3) := by decide +kernel
theorem dX6_unlike_33 : decode cX6_unlike 33 = .ok (.invokestatic 191, 3) := by decide +kernel
theorem dX6_unlike_36 : decode cX6_unlike 36 = .ok (.ireturn, 1) := by decide +kernel
theorem dX6_common_0 : decode cX6_common 0 = .ok (.aload_n 0, 1) := by decide +kernel
theorem dX6_common_1 : decode cX6_common 1 = .ok (.getfield 10, 3) := by decide +kernel
theorem dX6_common_4 : decode cX6_common 4 = .ok (.iload_n 1, 1) := by decide +kernel
theorem dX6_common_5 : decode cX6_common 5 = .ok (.invokevirtual 57, 3) := by decide +kernel
theorem dX6_common_8 : decode cX6_common 8 = .ok (.ifCond .eq 14, 3) := by decide +kernel
theorem dX6_common_11 : decode cX6_common 11 = .ok (.aload_n 0, 1) := by decide +kernel
theorem dX6_common_12 : decode cX6_common 12 = .ok (.getfield 10, 3) := by decide +kernel
theorem dX6_common_15 : decode cX6_common 15 = .ok (.iload_n 2, 1) := by decide +kernel
theorem dX6_common_16 : decode cX6_common 16 = .ok (.invokevirtual 57, 3) := by decide +kernel
theorem dX6_common_19 : decode cX6_common 19 = .ok (.ifCond .ne 5, 3) := by decide +kernel
theorem dX6_common_22 : decode cX6_common 22 = .ok (.iconst (-1), 1) := by decide +kernel
theorem dX6_common_23 : decode cX6_common 23 = .ok (.ireturn, 1) := by decide +kernel
theorem dX6_common_24 : decode cX6_common 24 = .ok (.aload_n 0, 1) := by decide +kernel
theorem dX6_common_25 : decode cX6_common 25 = .ok (.getfield 10, 3) := by decide +kernel
theorem dX6_common_28 : decode cX6_common 28 = .ok (.iload_n 2, 1) := by decide +kernel
theorem dX6_common_29 : decode cX6_common 29 = .ok (.invokevirtual 196, 3) := by decide +kernel
theorem dX6_common_32 : decode cX6_common 32 = .ok (.istore_n 3, 1) := by decide +kernel
theorem dX6_common_33 : decode cX6_common 33 = .ok (.iload_n 1, 1) := by decide +kernel
theorem dX6_common_34 : decode cX6_common 34 = .ok (.istore 4, 2) := by decide +kernel
theorem dX6_common_36 : decode cX6_common 36 = .ok (.iconst 0, 1) := by decide +kernel
theorem dX6_common_37 : decode cX6_common 37 = .ok (.istore 5, 2) := by decide +kernel
theorem dX6_common_39 : decode cX6_common 39 = .ok (.iload 5, 2) := by decide +kernel
theorem dX6_common_41 : decode cX6_common 41 = .ok (.bipush 24, 2) := by decide +kernel
theorem dX6_common_43 : decode cX6_common 43 = .ok (.if_icmp .ge 29, 3) := by decide +kernel
theorem dX6_common_46 : decode cX6_common 46 = .ok (.iload_n 3, 1) := by decide +kernel
theorem dX6_common_47 : decode cX6_common 47 = .ok (.iload 4, 2) := by decide +kernel
theorem dX6_common_49 : decode cX6_common 49 = .ok (.invokestatic 199, 3) := by decide +kernel
theorem dX6_common_52 : decode cX6_common 52 = .ok (.ifCond .ne 20, 3) := by decide +kernel
theorem dX6_common_55 : decode cX6_common 55 = .ok (.aload_n 0, 1) := by decide +kernel
theorem dX6_common_56 : decode cX6_common 56 = .ok (.getfield 10, 3) := by decide +kernel
theorem dX6_common_59 : decode cX6_common 59 = .ok (.iload 4, 2) := by decide +kernel
theorem dX6_common_61 : decode cX6_common 61 = .ok (.invokevirtual 70, 3) := by decide +kernel
theorem dX6_common_64 : decode cX6_common 64 = .ok (.istore 4, 2) := by decide +kernel
theorem dX6_common_66 : decode cX6_common 66 = .ok (.iinc 5 1, 3) := by decide +kernel
theorem dX6_common_69 : decode cX6_common 69 = .ok (.goto (-30), 3) := by decide +kernel
theorem dX6_common_72 : decode cX6_common 72 = .ok (.iload 4, 2) := by decide +kernel
theorem dX6_common_74 : decode cX6_common 74 = .ok (.ireturn, 1) := by decide +kernel
theorem dX6_ifRoot_0 : decode cX6_ifRoot 0 = .ok (.aload_n 0, 1) := by decide +kernel
theorem dX6_ifRoot_1 : decode cX6_ifRoot 1 = .ok (.getfield 10, 3) := by decide +kernel
theorem dX6_ifRoot_4 : decode cX6_ifRoot 4 = .ok (.iload_n 1, 1) := by decide +kernel
theorem dX6_ifRoot_5 : decode cX6_ifRoot 5 = .ok (.invokevirtual 57, 3) := by decide +kernel
theorem dX6_ifRoot_8 : decode cX6_ifRoot 8 = .ok (.ifCond .eq 11, 3) := by decide +kernel
theorem dX6_ifRoot_11 : decode cX6_ifRoot 11 = .ok (.aload_n 0, 1) := by decide +kernel
theorem dX6_ifRoot_12 : decode cX6_ifRoot 12 = .ok (.iload_n 1, 1) := by decide +kernel
theorem dX6_ifRoot_13 : decode cX6_ifRoot 13 = .ok (.invokevirtual 205, 3) := by decide +kernel
theorem dX6_ifRoot_16 : decode cX6_ifRoot 16 = .ok (.goto 4, 3) := by decide +kernel
theorem dX6_ifRoot_19 : decode cX6_ifRoot 19 = .ok (.iconst (-1), 1) := by decide +kernel
theorem dX6_ifRoot_20 : decode cX6_ifRoot 20 = .ok (.ireturn, 1) := by decide +kernel
theorem dX6_bestRoot_0 : decode cX6_bestRoot 0 = .ok (.aload_n 0, 1) := by decide +kernel
theorem dX6_bestRoot_1 : decode cX6_bestRoot 1 = .ok (.getfield 10, 3) := by decide +kernel
theorem dX6_bestRoot_4 : decode cX6_bestRoot 4 = .ok (.iload_n 1, 1) := by decide +kernel
theorem dX6_bestRoot_5 : decode cX6_bestRoot 5 = .ok (.invokevirtual 57, 3) := by decide +kernel
theorem dX6_bestRoot_8 : decode cX6_bestRoot 8 = .ok (.ifCond .ne 5, 3) := by decide +kernel
theorem dX6_bestRoot_11 : decode cX6_bestRoot 11 = .ok (.iconst (-1), 1) := by decide +kernel
theorem dX6_bestRoot_12 : decode cX6_bestRoot 12 = .ok (.ireturn, 1) := by decide +kernel
theorem dX6_bestRoot_13 : decode cX6_bestRoot 13 = .ok (.aload_n 0, 1) := by decide +kernel
theorem dX6_bestRoot_14 : decode cX6_bestRoot 14 = .ok (.getfield 32, 3) := by decide +kernel
theorem dX6_bestRoot_17 : decode cX6_bestRoot 17 = .ok (.aload_n 0, 1) := by decide +kernel
theorem dX6_bestRoot_18 : decode cX6_bestRoot 18 = .ok (.getfield 10, 3) := by decide +kernel
theorem dX6_bestRoot_21 : decode cX6_bestRoot 21 = .ok (.iload_n 1, 1) := by decide +kernel
theorem dX6_bestRoot_22 : decode cX6_bestRoot 22 = .ok (.invokevirtual 174, 3) := by decide +kernel
theorem dX6_bestRoot_25 : decode cX6_bestRoot 25 = .ok (.aload_n 0, 1) := by decide +kernel
theorem dX6_bestRoot_26 : decode cX6_bestRoot 26 = .ok (.getfield 32, 3) := by decide +kernel
theorem dX6_bestRoot_29 : decode cX6_bestRoot 29 = .ok (.getfield 208, 3) := by decide +kernel
theorem dX6_bestRoot_32 : decode cX6_bestRoot 32 = .ok (.istore_n 2, 1) := by decide +kernel
theorem dX6_bestRoot_33 : decode cX6_bestRoot 33 = .ok (.iload_n 1, 1) := by decide +kernel
theorem dX6_bestRoot_34 : decode cX6_bestRoot 34 = .ok (.istore_n 3, 1) := by decide +kernel
theorem dX6_bestRoot_35 : decode cX6_bestRoot 35 = .ok (.aload_n 0, 1) := by decide +kernel
theorem dX6_bestRoot_36 : decode cX6_bestRoot 36 = .ok (.iload_n 1, 1) := by decide +kernel
theorem dX6_bestRoot_37 : decode cX6_bestRoot 37 = .ok (.invokevirtual 205, 3) := by decide +kernel
theorem dX6_bestRoot_40 : decode cX6_bestRoot 40 = .ok (.istore 4, 2) := by decide +kernel
theorem dX6_bestRoot_42 : decode cX6_bestRoot 42 = .ok (.iconst 0, 1) := by decide +kernel
theorem dX6_bestRoot_43 : decode cX6_bestRoot 43 = .ok (.istore 5, 2) := by decide +kernel
theorem dX6_bestRoot_45 : decode cX6_bestRoot 45 = .ok (.iload 5, 2) := by decide +kernel
theorem dX6_bestRoot_47 : decode cX6_bestRoot 47 = .ok (.bipush 24, 2) := by decide +kernel
theorem dX6_bestRoot_49 : decode cX6_bestRoot 49 = .ok (.if_icmp .ge 53, 3) := by decide +kernel
theorem dX6_bestRoot_52 : decode cX6_bestRoot 52 = .ok (.iload_n 2, 1) := by decide +kernel
theorem dX6_bestRoot_53 : decode cX6_bestRoot 53 = .ok (.iload 5, 2) := by decide +kernel
theorem dX6_bestRoot_55 : decode cX6_bestRoot 55 = .ok (.invokestatic 199, 3) := by decide +kernel
theorem dX6_bestRoot_58 : decode cX6_bestRoot 58 = .ok (.ifCond .eq 38, 3) := by decide +kernel
theorem dX6_bestRoot_61 : decode cX6_bestRoot 61 = .ok (.aload_n 0, 1) := by decide +kernel
theorem dX6_bestRoot_62 : decode cX6_bestRoot 62 = .ok (.iload 5, 2) := by decide +kernel
theorem dX6_bestRoot_64 : decode cX6_bestRoot 64 = .ok (.invokevirtual 205, 3) := by decide +kernel
theorem dX6_bestRoot_67 : decode cX6_bestRoot 67 = .ok (.istore 6, 2) := by decide +kernel
theorem dX6_bestRoot_69 : decode cX6_bestRoot 69 = .ok (.iload 6, 2) := by decide +kernel
theorem dX6_bestRoot_71 : decode cX6_bestRoot 71 = .ok (.iload 4, 2) := by decide +kernel
theorem dX6_bestRoot_73 : decode cX6_bestRoot 73 = .ok (.if_icmp .lt 16, 3) := by decide +kernel
theorem dX6_bestRoot_76 : decode cX6_bestRoot 76 = .ok (.iload 6, 2) := by decide +kernel
theorem dX6_bestRoot_78 : decode cX6_bestRoot 78 = .ok (.iload 4, 2) := by decide +kernel
theorem dX6_bestRoot_80 : decode cX6_bestRoot 80 = .ok (.if_icmp .ne 16, 3) := by decide +kernel
theorem dX6_bestRoot_83 : decode cX6_bestRoot 83 = .ok (.iload 5, 2) := by decide +kernel
theorem dX6_bestRoot_85 : decode cX6_bestRoot 85 = .ok (.iload_n 3, 1) := by decide +kernel
theorem dX6_bestRoot_86 : decode cX6_bestRoot 86 = .ok (.if_icmp .ge 10, 3) := by decide +kernel
theorem dX6_bestRoot_89 : decode cX6_bestRoot 89 = .ok (.iload 5, 2) := by decide +kernel
theorem dX6_bestRoot_91 : decode cX6_bestRoot 91 = .ok (.istore_n 3, 1) := by decide +kernel
theorem dX6_bestRoot_92 : decode cX6_bestRoot 92 = .ok (.iload 6, 2) := by decide +kernel
theorem dX6_bestRoot_94 : decode cX6_bestRoot 94 = .ok (.istore 4, 2) := by decide +kernel
theorem dX6_bestRoot_96 : decode cX6_bestRoot 96 = .ok (.iinc 5 1, 3) := by decide +kernel
theorem dX6_bestRoot_99 : decode cX6_bestRoot 99 = .ok (.goto (-54), 3) := by decide +kernel
theorem dX6_bestRoot_102 : decode cX6_bestRoot 102 = .ok (.iload_n 3, 1) := by decide +kernel
theorem dX6_bestRoot_103 : decode cX6_bestRoot 103 = .ok (.ireturn, 1) := by decide +kernel
theorem dX6_ifCut_0 : decode cX6_ifCut 0 = .ok (.aload_n 0, 1) := by decide +kernel
theorem dX6_ifCut_1 : decode cX6_ifCut 1 = .ok (.getfield 10, 3) := by decide +kernel
theorem dX6_ifCut_4 : decode cX6_ifCut 4 = .ok (.iload_n 1, 1) := by decide +kernel
theorem dX6_ifCut_5 : decode cX6_ifCut 5 = .ok (.invokevirtual 57, 3) := by decide +kernel
theorem dX6_ifCut_8 : decode cX6_ifCut 8 = .ok (.ifCond .ne 5, 3) := by decide +kernel
theorem dX6_ifCut_11 : decode cX6_ifCut 11 = .ok (.iconst (-1), 1) := by decide +kernel
theorem dX6_ifCut_12 : decode cX6_ifCut 12 = .ok (.ireturn, 1) := by decide +kernel
theorem dX6_ifCut_13 : decode cX6_ifCut 13 = .ok (.iload_n 1, 1) := by decide +kernel
theorem dX6_ifCut_14 : decode cX6_ifCut 14 = .ok (.ifCond .ne 6, 3) := by decide +kernel
theorem dX6_ifCut_17 : decode cX6_ifCut 17 = .ok (.bipush (-4), 2) := by decide +kernel
theorem dX6_ifCut_19 : decode cX6_ifCut 19 = .ok (.ireturn, 1) := by decide +kernel
theorem dX6_ifCut_20 : decode cX6_ifCut 20 = .ok (.bipush 8, 2) := by decide +kernel
theorem dX6_ifCut_22 : decode cX6_ifCut 22 = .ok (.aload_n 0, 1) := by decide +kernel
theorem dX6_ifCut_23 : decode cX6_ifCut 23 = .ok (.getfield 10, 3) := by decide +kernel
theorem dX6_ifCut_26 : decode cX6_ifCut 26 = .ok (.iload_n 1, 1) := by decide +kernel
theorem dX6_ifCut_27 : decode cX6_ifCut 27 = .ok (.invokevirtual 211, 3) := by decide +kernel
theorem dX6_ifCut_30 : decode cX6_ifCut 30 = .ok (.isub, 1) := by decide +kernel
theorem dX6_ifCut_31 : decode cX6_ifCut 31 = .ok (.istore_n 2, 1) := by decide +kernel
theorem dX6_ifCut_32 : decode cX6_ifCut 32 = .ok (.aload_n 0, 1) := by decide +kernel
theorem dX6_ifCut_33 : decode cX6_ifCut 33 = .ok (.getfield 10, 3) := by decide +kernel
theorem dX6_ifCut_36 : decode cX6_ifCut 36 = .ok (.iload_n 1, 1) := by decide +kernel
theorem dX6_ifCut_37 : decode cX6_ifCut 37 = .ok (.invokevirtual 67, 3) := by decide +kernel
theorem dX6_ifCut_40 : decode cX6_ifCut 40 = .ok (.ifCond .eq 15, 3) := by decide +kernel
theorem dX6_ifCut_43 : decode cX6_ifCut 43 = .ok (.aload_n 0, 1) := by decide +kernel
theorem dX6_ifCut_44 : decode cX6_ifCut 44 = .ok (.getfield 10, 3) := by decide +kernel
theorem dX6_ifCut_47 : decode cX6_ifCut 47 = .ok (.invokevirtual 214, 3) := by decide +kernel
theorem dX6_ifCut_50 : decode cX6_ifCut 50 = .ok (.iload_n 2, 1) := by decide +kernel
theorem dX6_ifCut_51 : decode cX6_ifCut 51 = .ok (.iadd, 1) := by decide +kernel
theorem dX6_ifCut_52 : decode cX6_ifCut 52 = .ok (.goto 12, 3) := by decide +kernel
theorem dX6_ifCut_55 : decode cX6_ifCut 55 = .ok (.aload_n 0, 1) := by decide +kernel
theorem dX6_ifCut_56 : decode cX6_ifCut 56 = .ok (.getfield 10, 3) := by decide +kernel
theorem dX6_ifCut_59 : decode cX6_ifCut 59 = .ok (.invokevirtual 214, 3) := by decide +kernel
theorem dX6_ifCut_62 : decode cX6_ifCut 62 = .ok (.iload_n 2, 1) := by decide +kernel
theorem dX6_ifCut_63 : decode cX6_ifCut 63 = .ok (.isub, 1) := by decide +kernel
theorem dX6_ifCut_64 : decode cX6_ifCut 64 = .ok (.ireturn, 1) := by decide +kernel
theorem dX6_count_0 : decode cX6_count 0 = .ok (.iload_n 1, 1) := by decide +kernel
theorem dX6_count_1 : decode cX6_count 1 = .ok (.tableswitch 192 0 14 #[75, 83, 91, 99, 107, 115, 123, 131, 136, 144, 152, 160, 168, 176, 184], 75) := by decide +kernel
theorem dX6_count_76 : decode cX6_count 76 = .ok (.aload_n 0, 1) := by decide +kernel
theorem dX6_count_77 : decode cX6_count 77 = .ok (.getfield 10, 3) := by decide +kernel
theorem dX6_count_80 : decode cX6_count 80 = .ok (.invokevirtual 80, 3) := by decide +kernel
theorem dX6_count_83 : decode cX6_count 83 = .ok (.ireturn, 1) := by decide +kernel
theorem dX6_count_84 : decode cX6_count 84 = .ok (.aload_n 0, 1) := by decide +kernel
theorem dX6_count_85 : decode cX6_count 85 = .ok (.getfield 10, 3) := by decide +kernel
theorem dX6_count_88 : decode cX6_count 88 = .ok (.invokevirtual 97, 3) := by decide +kernel
theorem dX6_count_91 : decode cX6_count 91 = .ok (.ireturn, 1) := by decide +kernel
theorem dX6_count_92 : decode cX6_count 92 = .ok (.aload_n 0, 1) := by decide +kernel
theorem dX6_count_93 : decode cX6_count 93 = .ok (.getfield 10, 3) := by decide +kernel
theorem dX6_count_96 : decode cX6_count 96 = .ok (.invokevirtual 214, 3) := by decide +kernel
theorem dX6_count_99 : decode cX6_count 99 = .ok (.ireturn, 1) := by decide +kernel
theorem dX6_count_100 : decode cX6_count 100 = .ok (.aload_n 0, 1) := by decide +kernel
theorem dX6_count_101 : decode cX6_count 101 = .ok (.getfield 10, 3) := by decide +kernel
theorem dX6_count_104 : decode cX6_count 104 = .ok (.getfield 217, 3) := by decide +kernel
theorem dX6_count_107 : decode cX6_count 107 = .ok (.ireturn, 1) := by decide +kernel
theorem dX6_count_108 : decode cX6_count 108 = .ok (.aload_n 0, 1) := by decide +kernel
theorem dX6_count_109 : decode cX6_count 109 = .ok (.getfield 10, 3) := by decide +kernel
theorem dX6_count_112 : decode cX6_count 112 = .ok (.getfield 220, 3) := by decide +kernel
theorem dX6_count_115 : decode cX6_count 115 = .ok (.ireturn, 1) := by decide +kernel
theorem dX6_count_116 : decode cX6_count 116 = .ok (.aload_n 0, 1) := by decide +kernel
theorem dX6_count_117 : decode cX6_count 117 = .ok (.getfield 10, 3) := by decide +kernel
theorem dX6_count_120 : decode cX6_count 120 = .ok (.invokevirtual 223, 3) := by decide +kernel
theorem dX6_count_123 : decode cX6_count 123 = .ok (.ireturn, 1) := by decide +kernel
theorem dX6_count_124 : decode cX6_count 124 = .ok (.aload_n 0, 1) := by decide +kernel
theorem dX6_count_125 : decode cX6_count 125 = .ok (.getfield 10, 3) := by decide +kernel
theorem dX6_count_128 : decode cX6_count 128 = .ok (.invokevirtual 226, 3) := by decide +kernel
theorem dX6_count_131 : decode cX6_count 131 = .ok (.ireturn, 1) := by decide +kernel
theorem dX6_count_132 : decode cX6_count 132 = .ok (.aload_n 0, 1) := by decide +kernel
theorem dX6_count_133 : decode cX6_count 133 = .ok (.invokevirtual 229, 3) := by decide +kernel
theorem dX6_count_136 : decode cX6_count 136 = .ok (.ireturn, 1) := by decide +kernel
theorem dX6_count_137 : decode cX6_count 137 = .ok (.aload_n 0, 1) := by decide +kernel
theorem dX6_count_138 : decode cX6_count 138 = .ok (.getfield 10, 3) := by decide +kernel
theorem dX6_count_141 : decode cX6_count 141 = .ok (.getfield 232, 3) := by decide +kernel
theorem dX6_count_144 : decode cX6_count 144 = .ok (.ireturn, 1) := by decide +kernel
theorem dX6_count_145 : decode cX6_count 145 = .ok (.aload_n 0, 1) := by decide +kernel
theorem dX6_count_146 : decode cX6_count 146 = .ok (.getfield 10, 3) := by decide +kernel
theorem dX6_count_149 : decode cX6_count 149 = .ok (.getfield 235, 3) := by decide +kernel
theorem dX6_count_152 : decode cX6_count 152 = .ok (.ireturn, 1) := by decide +kernel
theorem dX6_count_153 : decode cX6_count 153 = .ok (.aload_n 0, 1) := by decide +kernel
theorem dX6_count_154 : decode cX6_count 154 = .ok (.getfield 10, 3) := by decide +kernel
theorem dX6_count_157 : decode cX6_count 157 = .ok (.getfield 103, 3) := by decide +kernel
theorem dX6_count_160 : decode cX6_count 160 = .ok (.ireturn, 1) := by decide +kernel
theorem dX6_count_161 : decode cX6_count 161 = .ok (.aload_n 0, 1) := by decide +kernel
theorem dX6_count_162 : decode cX6_count 162 = .ok (.getfield 10, 3) := by decide +kernel
theorem dX6_count_165 : decode cX6_count 165 = .ok (.getfield 107, 3) := by decide +kernel
theorem dX6_count_168 : decode cX6_count 168 = .ok (.ireturn, 1) := by decide +kernel
theorem dX6_count_169 : decode cX6_count 169 = .ok (.aload_n 0, 1) := by decide +kernel
theorem dX6_count_170 : decode cX6_count 170 = .ok (.getfield 10, 3) := by decide +kernel
theorem dX6_count_173 : decode cX6_count 173 = .ok (.invokevirtual 238, 3) := by decide +kernel
theorem dX6_count_176 : decode cX6_count 176 = .ok (.ireturn, 1) := by decide +kernel
theorem dX6_count_177 : decode cX6_count 177 = .ok (.aload_n 0, 1) := by decide +kernel
theorem dX6_count_178 : decode cX6_count 178 = .ok (.getfield 25, 3) := by decide +kernel
theorem dX6_count_181 : decode cX6_count 181 = .ok (.getfield 151, 3) := by decide +kernel
theorem dX6_count_184 : decode cX6_count 184 = .ok (.ireturn, 1) := by decide +kernel
theorem dX6_count_185 : decode cX6_count 185 = .ok (.aload_n 0, 1) := by decide +kernel
theorem dX6_count_186 : decode cX6_count 186 = .ok (.getfield 39, 3) := by decide +kernel
theorem dX6_count_189 : decode cX6_count 189 = .ok (.getfield 114, 3) := by decide +kernel
theorem dX6_count_192 : decode cX6_count 192 = .ok (.ireturn, 1) := by decide +kernel
theorem dX6_count_193 : decode cX6_count 193 = .ok (.bipush (-2), 2) := by decide +kernel
theorem dX6_count_195 : decode cX6_count 195 = .ok (.ireturn, 1) := by decide +kernel
theorem dX6_beginAct_0 : decode cX6_beginAct 0 = .ok (.aload_n 0, 1) := by decide +kernel
theorem dX6_beginAct_1 : decode cX6_beginAct 1 = .ok (.getfield 16, 3) := by decide +kernel
theorem dX6_beginAct_4 : decode cX6_beginAct 4 = .ok (.aload_n 0, 1) := by decide +kernel
theorem dX6_beginAct_5 : decode cX6_beginAct 5 = .ok (.getfield 10, 3) := by decide +kernel
theorem dX6_beginAct_8 : decode cX6_beginAct 8 = .ok (.invokevirtual 152, 3) := by decide +kernel
theorem dX6_beginAct_11 : decode cX6_beginAct 11 = .ok (.return_, 1) := by decide +kernel
theorem dX6_endAct_0 : decode cX6_endAct 0 = .ok (.iload_n 1, 1) := by decide +kernel
theorem dX6_endAct_1 : decode cX6_endAct 1 = .ok (.ifCond .lt 14, 3) := by decide +kernel
theorem dX6_endAct_4 : decode cX6_endAct 4 = .ok (.aload_n 0, 1) := by decide +kernel
theorem dX6_endAct_5 : decode cX6_endAct 5 = .ok (.getfield 25, 3) := by decide +kernel
theorem dX6_endAct_8 : decode cX6_endAct 8 = .ok (.aload_n 0, 1) := by decide +kernel
theorem dX6_endAct_9 : decode cX6_endAct 9 = .ok (.getfield 16, 3) := by decide +kernel
theorem dX6_endAct_12 : decode cX6_endAct 12 = .ok (.invokevirtual 241, 3) := by decide +kernel
theorem dX6_endAct_15 : decode cX6_endAct 15 = .ok (.iload_n 1, 1) := by decide +kernel
theorem dX6_endAct_16 : decode cX6_endAct 16 = .ok (.ireturn, 1) := by decide +kernel
theorem dX6_tryMake_0 : decode cX6_tryMake 0 = .ok (.aload_n 0, 1) := by decide +kernel
theorem dX6_tryMake_1 : decode cX6_tryMake 1 = .ok (.getfield 10, 3) := by decide +kernel
theorem dX6_tryMake_4 : decode cX6_tryMake 4 = .ok (.iload_n 1, 1) := by decide +kernel
theorem dX6_tryMake_5 : decode cX6_tryMake 5 = .ok (.invokevirtual 57, 3) := by decide +kernel
theorem dX6_tryMake_8 : decode cX6_tryMake 8 = .ok (.ifCond .eq 10, 3) := by decide +kernel
theorem dX6_tryMake_11 : decode cX6_tryMake 11 = .ok (.iload_n 2, 1) := by decide +kernel
theorem dX6_tryMake_12 : decode cX6_tryMake 12 = .ok (.invokestatic 159, 3) := by decide +kernel
theorem dX6_tryMake_15 : decode cX6_tryMake 15 = .ok (.ifCond .ne 5, 3) := by decide +kernel
theorem dX6_tryMake_18 : decode cX6_tryMake 18 = .ok (.iconst (-1), 1) := by decide +kernel
theorem dX6_tryMake_19 : decode cX6_tryMake 19 = .ok (.ireturn, 1) := by decide +kernel
theorem dX6_tryMake_20 : decode cX6_tryMake 20 = .ok (.iload_n 3, 1) := by decide +kernel
theorem dX6_tryMake_21 : decode cX6_tryMake 21 = .ok (.ifCond .lt 9, 3) := by decide +kernel
theorem dX6_tryMake_24 : decode cX6_tryMake 24 = .ok (.iload_n 3, 1) := by decide +kernel
theorem dX6_tryMake_25 : decode cX6_tryMake 25 = .ok (.bipush 9, 2) := by decide +kernel
theorem dX6_tryMake_27 : decode cX6_tryMake 27 = .ok (.if_icmp .le 6, 3) := by decide +kernel
theorem dX6_tryMake_30 : decode cX6_tryMake 30 = .ok (.bipush (-2), 2) := by decide +kernel
theorem dX6_tryMake_32 : decode cX6_tryMake 32 = .ok (.ireturn, 1) := by decide +kernel
theorem dX6_tryMake_33 : decode cX6_tryMake 33 = .ok (.aload_n 0, 1) := by decide +kernel
theorem dX6_tryMake_34 : decode cX6_tryMake 34 = .ok (.getfield 10, 3) := by decide +kernel
theorem dX6_tryMake_37 : decode cX6_tryMake 37 = .ok (.invokevirtual 244, 3) := by decide +kernel
theorem dX6_tryMake_40 : decode cX6_tryMake 40 = .ok (.istore 4, 2) := by decide +kernel
theorem dX6_tryMake_42 : decode cX6_tryMake 42 = .ok (.iload 4, 2) := by decide +kernel
theorem dX6_tryMake_44 : decode cX6_tryMake 44 = .ok (.bipush 24, 2) := by decide +kernel
theorem dX6_tryMake_46 : decode cX6_tryMake 46 = .ok (.if_icmp .ne 6, 3) := by decide +kernel
theorem dX6_tryMake_49 : decode cX6_tryMake 49 = .ok (.bipush (-3), 2) := by decide +kernel
theorem dX6_tryMake_51 : decode cX6_tryMake 51 = .ok (.ireturn, 1) := by decide +kernel
theorem dX6_tryMake_52 : decode cX6_tryMake 52 = .ok (.aload_n 0, 1) := by decide +kernel
theorem dX6_tryMake_53 : decode cX6_tryMake 53 = .ok (.getfield 10, 3) := by decide +kernel
theorem dX6_tryMake_56 : decode cX6_tryMake 56 = .ok (.iload_n 1, 1) := by decide +kernel
theorem dX6_tryMake_57 : decode cX6_tryMake 57 = .ok (.iload 4, 2) := by decide +kernel
theorem dX6_tryMake_59 : decode cX6_tryMake 59 = .ok (.sipush 255, 3) := by decide +kernel
theorem dX6_tryMake_62 : decode cX6_tryMake 62 = .ok (.invokevirtual 247, 3) := by decide +kernel
theorem dX6_tryMake_65 : decode cX6_tryMake 65 = .ok (.aload_n 0, 1) := by decide +kernel
theorem dX6_tryMake_66 : decode cX6_tryMake 66 = .ok (.getfield 10, 3) := by decide +kernel
theorem dX6_tryMake_69 : decode cX6_tryMake 69 = .ok (.iload 4, 2) := by decide +kernel
theorem dX6_tryMake_71 : decode cX6_tryMake 71 = .ok (.iload_n 2, 1) := by decide +kernel
theorem dX6_tryMake_72 : decode cX6_tryMake 72 = .ok (.iload_n 3, 1) := by decide +kernel
theorem dX6_tryMake_73 : decode cX6_tryMake 73 = .ok (.invokevirtual 251, 3) := by decide +kernel
theorem dX6_tryMake_76 : decode cX6_tryMake 76 = .ok (.aload_n 0, 1) := by decide +kernel
theorem dX6_tryMake_77 : decode cX6_tryMake 77 = .ok (.getfield 10, 3) := by decide +kernel
theorem dX6_tryMake_80 : decode cX6_tryMake 80 = .ok (.iload 4, 2) := by decide +kernel
theorem dX6_tryMake_82 : decode cX6_tryMake 82 = .ok (.iload_n 1, 1) := by decide +kernel
theorem dX6_tryMake_83 : decode cX6_tryMake 83 = .ok (.invokevirtual 254, 3) := by decide +kernel
theorem dX6_tryMake_86 : decode cX6_tryMake 86 = .ok (.iload 4, 2) := by decide +kernel
theorem dX6_tryMake_88 : decode cX6_tryMake 88 = .ok (.ireturn, 1) := by decide +kernel
theorem dX6_tryMix_0 : decode cX6_tryMix 0 = .ok (.aload_n 0, 1) := by decide +kernel
theorem dX6_tryMix_1 : decode cX6_tryMix 1 = .ok (.getfield 10, 3) := by decide +kernel
theorem dX6_tryMix_4 : decode cX6_tryMix 4 = .ok (.iload_n 1, 1) := by decide +kernel
theorem dX6_tryMix_5 : decode cX6_tryMix 5 = .ok (.invokevirtual 57, 3) := by decide +kernel
theorem dX6_tryMix_8 : decode cX6_tryMix 8 = .ok (.ifCond .eq 14, 3) := by decide +kernel
theorem dX6_tryMix_11 : decode cX6_tryMix 11 = .ok (.aload_n 0, 1) := by decide +kernel
theorem dX6_tryMix_12 : decode cX6_tryMix 12 = .ok (.getfield 10, 3) := by decide +kernel
theorem dX6_tryMix_15 : decode cX6_tryMix 15 = .ok (.iload_n 2, 1) := by decide +kernel
theorem dX6_tryMix_16 : decode cX6_tryMix 16 = .ok (.invokevirtual 57, 3) := by decide +kernel
theorem dX6_tryMix_19 : decode cX6_tryMix 19 = .ok (.ifCond .ne 5, 3) := by decide +kernel
theorem dX6_tryMix_22 : decode cX6_tryMix 22 = .ok (.iconst (-1), 1) := by decide +kernel
theorem dX6_tryMix_23 : decode cX6_tryMix 23 = .ok (.ireturn, 1) := by decide +kernel
theorem dX6_tryMix_24 : decode cX6_tryMix 24 = .ok (.iload_n 3, 1) := by decide +kernel
theorem dX6_tryMix_25 : decode cX6_tryMix 25 = .ok (.iconst 1, 1) := by decide +kernel
theorem dX6_tryMix_26 : decode cX6_tryMix 26 = .ok (.if_icmp .lt 10, 3) := by decide +kernel
theorem dX6_tryMix_29 : decode cX6_tryMix 29 = .ok (.iload_n 3, 1) := by decide +kernel
theorem dX6_tryMix_30 : decode cX6_tryMix 30 = .ok (.sipush 255, 3) := by decide +kernel
theorem dX6_tryMix_33 : decode cX6_tryMix 33 = .ok (.if_icmp .le 6, 3) := by decide +kernel
theorem dX6_tryMix_36 : decode cX6_tryMix 36 = .ok (.bipush (-2), 2) := by decide +kernel
theorem dX6_tryMix_38 : decode cX6_tryMix 38 = .ok (.ireturn, 1) := by decide +kernel
theorem dX6_tryMix_39 : decode cX6_tryMix 39 = .ok (.aload_n 0, 1) := by decide +kernel
theorem dX6_tryMix_40 : decode cX6_tryMix 40 = .ok (.getfield 10, 3) := by decide +kernel
theorem dX6_tryMix_43 : decode cX6_tryMix 43 = .ok (.invokevirtual 244, 3) := by decide +kernel
theorem dX6_tryMix_46 : decode cX6_tryMix 46 = .ok (.istore 4, 2) := by decide +kernel
theorem dX6_tryMix_48 : decode cX6_tryMix 48 = .ok (.iload 4, 2) := by decide +kernel
theorem dX6_tryMix_50 : decode cX6_tryMix 50 = .ok (.bipush 24, 2) := by decide +kernel
theorem dX6_tryMix_52 : decode cX6_tryMix 52 = .ok (.if_icmp .ne 6, 3) := by decide +kernel
theorem dX6_tryMix_55 : decode cX6_tryMix 55 = .ok (.bipush (-3), 2) := by decide +kernel
theorem dX6_tryMix_57 : decode cX6_tryMix 57 = .ok (.ireturn, 1) := by decide +kernel
theorem dX6_tryMix_58 : decode cX6_tryMix 58 = .ok (.aload_n 0, 1) := by decide +kernel
theorem dX6_tryMix_59 : decode cX6_tryMix 59 = .ok (.getfield 10, 3) := by decide +kernel
theorem dX6_tryMix_62 : decode cX6_tryMix 62 = .ok (.iload_n 1, 1) := by decide +kernel
theorem dX6_tryMix_63 : decode cX6_tryMix 63 = .ok (.iload 4, 2) := by decide +kernel
theorem dX6_tryMix_65 : decode cX6_tryMix 65 = .ok (.sipush 255, 3) := by decide +kernel
theorem dX6_tryMix_68 : decode cX6_tryMix 68 = .ok (.invokevirtual 247, 3) := by decide +kernel
theorem dX6_tryMix_71 : decode cX6_tryMix 71 = .ok (.aload_n 0, 1) := by decide +kernel
theorem dX6_tryMix_72 : decode cX6_tryMix 72 = .ok (.getfield 10, 3) := by decide +kernel
theorem dX6_tryMix_75 : decode cX6_tryMix 75 = .ok (.iload_n 2, 1) := by decide +kernel
theorem dX6_tryMix_76 : decode cX6_tryMix 76 = .ok (.iload 4, 2) := by decide +kernel
theorem dX6_tryMix_78 : decode cX6_tryMix 78 = .ok (.iload_n 3, 1) := by decide +kernel
theorem dX6_tryMix_79 : decode cX6_tryMix 79 = .ok (.invokevirtual 247, 3) := by decide +kernel
theorem dX6_tryMix_82 : decode cX6_tryMix 82 = .ok (.aload_n 0, 1) := by decide +kernel
theorem dX6_tryMix_83 : decode cX6_tryMix 83 = .ok (.getfield 10, 3) := by decide +kernel
theorem dX6_tryMix_86 : decode cX6_tryMix 86 = .ok (.iload 4, 2) := by decide +kernel
theorem dX6_tryMix_88 : decode cX6_tryMix 88 = .ok (.iload_n 1, 1) := by decide +kernel
theorem dX6_tryMix_89 : decode cX6_tryMix 89 = .ok (.invokevirtual 254, 3) := by decide +kernel
theorem dX6_tryMix_92 : decode cX6_tryMix 92 = .ok (.iload 4, 2) := by decide +kernel
theorem dX6_tryMix_94 : decode cX6_tryMix 94 = .ok (.ireturn, 1) := by decide +kernel
theorem dX6_tryAsk_0 : decode cX6_tryAsk 0 = .ok (.aload_n 0, 1) := by decide +kernel
theorem dX6_tryAsk_1 : decode cX6_tryAsk 1 = .ok (.getfield 10, 3) := by decide +kernel
theorem dX6_tryAsk_4 : decode cX6_tryAsk 4 = .ok (.iload_n 1, 1) := by decide +kernel
theorem dX6_tryAsk_5 : decode cX6_tryAsk 5 = .ok (.invokevirtual 57, 3) := by decide +kernel
theorem dX6_tryAsk_8 : decode cX6_tryAsk 8 = .ok (.ifCond .ne 5, 3) := by decide +kernel
theorem dX6_tryAsk_11 : decode cX6_tryAsk 11 = .ok (.iconst (-1), 1) := by decide +kernel
theorem dX6_tryAsk_12 : decode cX6_tryAsk 12 = .ok (.ireturn, 1) := by decide +kernel
theorem dX6_tryAsk_13 : decode cX6_tryAsk 13 = .ok (.aload_n 0, 1) := by decide +kernel
theorem dX6_tryAsk_14 : decode cX6_tryAsk 14 = .ok (.getfield 32, 3) := by decide +kernel
theorem dX6_tryAsk_17 : decode cX6_tryAsk 17 = .ok (.aload_n 0, 1) := by decide +kernel
theorem dX6_tryAsk_18 : decode cX6_tryAsk 18 = .ok (.getfield 10, 3) := by decide +kernel
theorem dX6_tryAsk_21 : decode cX6_tryAsk 21 = .ok (.iload_n 1, 1) := by decide +kernel
theorem dX6_tryAsk_22 : decode cX6_tryAsk 22 = .ok (.invokevirtual 174, 3) := by decide +kernel
theorem dX6_tryAsk_25 : decode cX6_tryAsk 25 = .ok (.aload_n 0, 1) := by decide +kernel
theorem dX6_tryAsk_26 : decode cX6_tryAsk 26 = .ok (.getfield 32, 3) := by decide +kernel
theorem dX6_tryAsk_29 : decode cX6_tryAsk 29 = .ok (.aload_n 0, 1) := by decide +kernel
theorem dX6_tryAsk_30 : decode cX6_tryAsk 30 = .ok (.getfield 10, 3) := by decide +kernel
theorem dX6_tryAsk_33 : decode cX6_tryAsk 33 = .ok (.invokevirtual 178, 3) := by decide +kernel
theorem dX6_tryAsk_36 : decode cX6_tryAsk 36 = .ok (.istore_n 2, 1) := by decide +kernel
theorem dX6_tryAsk_37 : decode cX6_tryAsk 37 = .ok (.aload_n 0, 1) := by decide +kernel
theorem dX6_tryAsk_38 : decode cX6_tryAsk 38 = .ok (.getfield 32, 3) := by decide +kernel
theorem dX6_tryAsk_41 : decode cX6_tryAsk 41 = .ok (.iload_n 2, 1) := by decide +kernel
theorem dX6_tryAsk_42 : decode cX6_tryAsk 42 = .ok (.invokevirtual 182, 3) := by decide +kernel
theorem dX6_tryAsk_45 : decode cX6_tryAsk 45 = .ok (.istore_n 3, 1) := by decide +kernel
theorem dX6_tryAsk_46 : decode cX6_tryAsk 46 = .ok (.iconst 1, 1) := by decide +kernel
theorem dX6_tryAsk_47 : decode cX6_tryAsk 47 = .ok (.aload_n 0, 1) := by decide +kernel
theorem dX6_tryAsk_48 : decode cX6_tryAsk 48 = .ok (.getfield 32, 3) := by decide +kernel
theorem dX6_tryAsk_51 : decode cX6_tryAsk 51 = .ok (.iload_n 2, 1) := by decide +kernel
theorem dX6_tryAsk_52 : decode cX6_tryAsk 52 = .ok (.invokevirtual 257, 3) := by decide +kernel
theorem dX6_tryAsk_55 : decode cX6_tryAsk 55 = .ok (.iadd, 1) := by decide +kernel
theorem dX6_tryAsk_56 : decode cX6_tryAsk 56 = .ok (.istore 4, 2) := by decide +kernel
theorem dX6_tryAsk_58 : decode cX6_tryAsk 58 = .ok (.aload_n 0, 1) := by decide +kernel
theorem dX6_tryAsk_59 : decode cX6_tryAsk 59 = .ok (.getfield 10, 3) := by decide +kernel
theorem dX6_tryAsk_62 : decode cX6_tryAsk 62 = .ok (.iload_n 1, 1) := by decide +kernel
theorem dX6_tryAsk_63 : decode cX6_tryAsk 63 = .ok (.iload 4, 2) := by decide +kernel
theorem dX6_tryAsk_65 : decode cX6_tryAsk 65 = .ok (.invokevirtual 260, 3) := by decide +kernel
theorem dX6_tryAsk_68 : decode cX6_tryAsk 68 = .ok (.iload_n 3, 1) := by decide +kernel
theorem dX6_tryAsk_69 : decode cX6_tryAsk 69 = .ok (.aload_n 0, 1) := by decide +kernel
theorem dX6_tryAsk_70 : decode cX6_tryAsk 70 = .ok (.getfield 10, 3) := by decide +kernel
theorem dX6_tryAsk_73 : decode cX6_tryAsk 73 = .ok (.getfield 107, 3) := by decide +kernel
theorem dX6_tryAsk_76 : decode cX6_tryAsk 76 = .ok (.if_icmp .le 46, 3) := by decide +kernel
theorem dX6_tryAsk_79 : decode cX6_tryAsk 79 = .ok (.aload_n 0, 1) := by decide +kernel
theorem dX6_tryAsk_80 : decode cX6_tryAsk 80 = .ok (.getfield 10, 3) := by decide +kernel
theorem dX6_tryAsk_83 : decode cX6_tryAsk 83 = .ok (.iload_n 1, 1) := by decide +kernel
theorem dX6_tryAsk_84 : decode cX6_tryAsk 84 = .ok (.aload_n 0, 1) := by decide +kernel
theorem dX6_tryAsk_85 : decode cX6_tryAsk 85 = .ok (.getfield 32, 3) := by decide +kernel
theorem dX6_tryAsk_88 : decode cX6_tryAsk 88 = .ok (.iload_n 2, 1) := by decide +kernel
theorem dX6_tryAsk_89 : decode cX6_tryAsk 89 = .ok (.iload_n 3, 1) := by decide +kernel
theorem dX6_tryAsk_90 : decode cX6_tryAsk 90 = .ok (.iconst 1, 1) := by decide +kernel
theorem dX6_tryAsk_91 : decode cX6_tryAsk 91 = .ok (.isub, 1) := by decide +kernel
theorem dX6_tryAsk_92 : decode cX6_tryAsk 92 = .ok (.invokevirtual 185, 3) := by decide +kernel
theorem dX6_tryAsk_95 : decode cX6_tryAsk 95 = .ok (.invokevirtual 263, 3) := by decide +kernel
theorem dX6_tryAsk_98 : decode cX6_tryAsk 98 = .ok (.aload_n 0, 1) := by decide +kernel
theorem dX6_tryAsk_99 : decode cX6_tryAsk 99 = .ok (.getfield 10, 3) := by decide +kernel
theorem dX6_tryAsk_102 : decode cX6_tryAsk 102 = .ok (.iload_n 1, 1) := by decide +kernel
theorem dX6_tryAsk_103 : decode cX6_tryAsk 103 = .ok (.invokevirtual 73, 3) := by decide +kernel
theorem dX6_tryAsk_106 : decode cX6_tryAsk 106 = .ok (.aload_n 0, 1) := by decide +kernel
theorem dX6_tryAsk_107 : decode cX6_tryAsk 107 = .ok (.getfield 10, 3) := by decide +kernel
theorem dX6_tryAsk_110 : decode cX6_tryAsk 110 = .ok (.dup, 1) := by decide +kernel
theorem dX6_tryAsk_111 : decode cX6_tryAsk 111 = .ok (.getfield 235, 3) := by decide +kernel
theorem dX6_tryAsk_114 : decode cX6_tryAsk 114 = .ok (.iconst 1, 1) := by decide +kernel
theorem dX6_tryAsk_115 : decode cX6_tryAsk 115 = .ok (.iadd, 1) := by decide +kernel
theorem dX6_tryAsk_116 : decode cX6_tryAsk 116 = .ok (.putfield 235, 3) := by decide +kernel
theorem dX6_tryAsk_119 : decode cX6_tryAsk 119 = .ok (.goto 39, 3) := by decide +kernel
theorem dX6_tryAsk_122 : decode cX6_tryAsk 122 = .ok (.iload_n 2, 1) := by decide +kernel
theorem dX6_tryAsk_123 : decode cX6_tryAsk 123 = .ok (.iload_n 1, 1) := by decide +kernel
theorem dX6_tryAsk_124 : decode cX6_tryAsk 124 = .ok (.if_icmp .eq 34, 3) := by decide +kernel
theorem dX6_tryAsk_127 : decode cX6_tryAsk 127 = .ok (.aload_n 0, 1) := by decide +kernel
theorem dX6_tryAsk_128 : decode cX6_tryAsk 128 = .ok (.iload_n 1, 1) := by decide +kernel
theorem dX6_tryAsk_129 : decode cX6_tryAsk 129 = .ok (.iload_n 2, 1) := by decide +kernel
theorem dX6_tryAsk_130 : decode cX6_tryAsk 130 = .ok (.invokevirtual 266, 3) := by decide +kernel
theorem dX6_tryAsk_133 : decode cX6_tryAsk 133 = .ok (.ifCond .eq 25, 3) := by decide +kernel
theorem dX6_tryAsk_136 : decode cX6_tryAsk 136 = .ok (.aload_n 0, 1) := by decide +kernel
theorem dX6_tryAsk_137 : decode cX6_tryAsk 137 = .ok (.getfield 10, 3) := by decide +kernel
theorem dX6_tryAsk_140 : decode cX6_tryAsk 140 = .ok (.iload_n 2, 1) := by decide +kernel
theorem dX6_tryAsk_141 : decode cX6_tryAsk 141 = .ok (.iload_n 1, 1) := by decide +kernel
theorem dX6_tryAsk_142 : decode cX6_tryAsk 142 = .ok (.invokevirtual 269, 3) := by decide +kernel
theorem dX6_tryAsk_145 : decode cX6_tryAsk 145 = .ok (.aload_n 0, 1) := by decide +kernel
theorem dX6_tryAsk_146 : decode cX6_tryAsk 146 = .ok (.getfield 10, 3) := by decide +kernel
theorem dX6_tryAsk_149 : decode cX6_tryAsk 149 = .ok (.dup, 1) := by decide +kernel
theorem dX6_tryAsk_150 : decode cX6_tryAsk 150 = .ok (.getfield 232, 3) := by decide +kernel
theorem dX6_tryAsk_153 : decode cX6_tryAsk 153 = .ok (.iconst 1, 1) := by decide +kernel
theorem dX6_tryAsk_154 : decode cX6_tryAsk 154 = .ok (.iadd, 1) := by decide +kernel
theorem dX6_tryAsk_155 : decode cX6_tryAsk 155 = .ok (.putfield 232, 3) := by decide +kernel
theorem dX6_tryAsk_158 : decode cX6_tryAsk 158 = .ok (.iload 4, 2) := by decide +kernel
theorem dX6_tryAsk_160 : decode cX6_tryAsk 160 = .ok (.ireturn, 1) := by decide +kernel
theorem dX6_rulePrefers_0 : decode cX6_rulePrefers 0 = .ok (.aload_n 0, 1) := by decide +kernel
theorem dX6_rulePrefers_1 : decode cX6_rulePrefers 1 = .ok (.getfield 10, 3) := by decide +kernel
theorem dX6_rulePrefers_4 : decode cX6_rulePrefers 4 = .ok (.getfield 103, 3) := by decide +kernel
theorem dX6_rulePrefers_7 : decode cX6_rulePrefers 7 = .ok (.ifCond .ne 5, 3) := by decide +kernel
theorem dX6_rulePrefers_10 : decode cX6_rulePrefers 10 = .ok (.iconst 0, 1) := by decide +kernel
theorem dX6_rulePrefers_11 : decode cX6_rulePrefers 11 = .ok (.ireturn, 1) := by decide +kernel
theorem dX6_rulePrefers_12 : decode cX6_rulePrefers 12 = .ok (.aload_n 0, 1) := by decide +kernel
theorem dX6_rulePrefers_13 : decode cX6_rulePrefers 13 = .ok (.getfield 10, 3) := by decide +kernel
theorem dX6_rulePrefers_16 : decode cX6_rulePrefers 16 = .ok (.getfield 103, 3) := by decide +kernel
theorem dX6_rulePrefers_19 : decode cX6_rulePrefers 19 = .ok (.iconst 1, 1) := by decide +kernel
theorem dX6_rulePrefers_20 : decode cX6_rulePrefers 20 = .ok (.if_icmp .eq 22, 3) := by decide +kernel
theorem dX6_rulePrefers_23 : decode cX6_rulePrefers 23 = .ok (.aload_n 0, 1) := by decide +kernel
theorem dX6_rulePrefers_24 : decode cX6_rulePrefers 24 = .ok (.getfield 10, 3) := by decide +kernel
theorem dX6_rulePrefers_27 : decode cX6_rulePrefers 27 = .ok (.iload_n 1, 1) := by decide +kernel
theorem dX6_rulePrefers_28 : decode cX6_rulePrefers 28 = .ok (.invokevirtual 168, 3) := by decide +kernel
theorem dX6_rulePrefers_31 : decode cX6_rulePrefers 31 = .ok (.aload_n 0, 1) := by decide +kernel
theorem dX6_rulePrefers_32 : decode cX6_rulePrefers 32 = .ok (.getfield 10, 3) := by decide +kernel
theorem dX6_rulePrefers_35 : decode cX6_rulePrefers 35 = .ok (.iload_n 2, 1) := by decide +kernel
theorem dX6_rulePrefers_36 : decode cX6_rulePrefers 36 = .ok (.invokevirtual 168, 3) := by decide +kernel
theorem dX6_rulePrefers_39 : decode cX6_rulePrefers 39 = .ok (.if_icmp .le 7, 3) := by decide +kernel
theorem dX6_rulePrefers_42 : decode cX6_rulePrefers 42 = .ok (.iconst 1, 1) := by decide +kernel
theorem dX6_rulePrefers_43 : decode cX6_rulePrefers 43 = .ok (.goto 4, 3) := by decide +kernel
theorem dX6_rulePrefers_46 : decode cX6_rulePrefers 46 = .ok (.iconst 0, 1) := by decide +kernel
theorem dX6_rulePrefers_47 : decode cX6_rulePrefers 47 = .ok (.ireturn, 1) := by decide +kernel
theorem dX6_tryRoot_0 : decode cX6_tryRoot 0 = .ok (.aload_n 0, 1) := by decide +kernel
theorem dX6_tryRoot_1 : decode cX6_tryRoot 1 = .ok (.getfield 10, 3) := by decide +kernel
theorem dX6_tryRoot_4 : decode cX6_tryRoot 4 = .ok (.iload_n 1, 1) := by decide +kernel
theorem dX6_tryRoot_5 : decode cX6_tryRoot 5 = .ok (.invokevirtual 57, 3) := by decide +kernel
theorem dX6_tryRoot_8 : decode cX6_tryRoot 8 = .ok (.ifCond .ne 5, 3) := by decide +kernel
theorem dX6_tryRoot_11 : decode cX6_tryRoot 11 = .ok (.iconst (-1), 1) := by decide +kernel
theorem dX6_tryRoot_12 : decode cX6_tryRoot 12 = .ok (.ireturn, 1) := by decide +kernel
theorem dX6_tryRoot_13 : decode cX6_tryRoot 13 = .ok (.aload_n 0, 1) := by decide +kernel
theorem dX6_tryRoot_14 : decode cX6_tryRoot 14 = .ok (.getfield 10, 3) := by decide +kernel
theorem dX6_tryRoot_17 : decode cX6_tryRoot 17 = .ok (.iload_n 1, 1) := by decide +kernel
theorem dX6_tryRoot_18 : decode cX6_tryRoot 18 = .ok (.invokevirtual 64, 3) := by decide +kernel
theorem dX6_tryRoot_21 : decode cX6_tryRoot 21 = .ok (.ifCond .eq 6, 3) := by decide +kernel
theorem dX6_tryRoot_24 : decode cX6_tryRoot 24 = .ok (.bipush (-5), 2) := by decide +kernel
theorem dX6_tryRoot_26 : decode cX6_tryRoot 26 = .ok (.ireturn, 1) := by decide +kernel
theorem dX6_tryRoot_27 : decode cX6_tryRoot 27 = .ok (.aload_n 0, 1) := by decide +kernel
theorem dX6_tryRoot_28 : decode cX6_tryRoot 28 = .ok (.getfield 32, 3) := by decide +kernel
theorem dX6_tryRoot_31 : decode cX6_tryRoot 31 = .ok (.aload_n 0, 1) := by decide +kernel
theorem dX6_tryRoot_32 : decode cX6_tryRoot 32 = .ok (.getfield 10, 3) := by decide +kernel
theorem dX6_tryRoot_35 : decode cX6_tryRoot 35 = .ok (.iload_n 1, 1) := by decide +kernel
theorem dX6_tryRoot_36 : decode cX6_tryRoot 36 = .ok (.invokevirtual 174, 3) := by decide +kernel
theorem dX6_tryRoot_39 : decode cX6_tryRoot 39 = .ok (.aload_n 0, 1) := by decide +kernel
theorem dX6_tryRoot_40 : decode cX6_tryRoot 40 = .ok (.getfield 32, 3) := by decide +kernel
theorem dX6_tryRoot_43 : decode cX6_tryRoot 43 = .ok (.aload_n 0, 1) := by decide +kernel
theorem dX6_tryRoot_44 : decode cX6_tryRoot 44 = .ok (.getfield 10, 3) := by decide +kernel
theorem dX6_tryRoot_47 : decode cX6_tryRoot 47 = .ok (.invokevirtual 178, 3) := by decide +kernel
theorem dX6_tryRoot_50 : decode cX6_tryRoot 50 = .ok (.istore_n 2, 1) := by decide +kernel
theorem dX6_tryRoot_51 : decode cX6_tryRoot 51 = .ok (.aload_n 0, 1) := by decide +kernel
theorem dX6_tryRoot_52 : decode cX6_tryRoot 52 = .ok (.getfield 10, 3) := by decide +kernel
theorem dX6_tryRoot_55 : decode cX6_tryRoot 55 = .ok (.iload_n 2, 1) := by decide +kernel
theorem dX6_tryRoot_56 : decode cX6_tryRoot 56 = .ok (.iload_n 1, 1) := by decide +kernel
theorem dX6_tryRoot_57 : decode cX6_tryRoot 57 = .ok (.invokevirtual 269, 3) := by decide +kernel
theorem dX6_tryRoot_60 : decode cX6_tryRoot 60 = .ok (.aload_n 0, 1) := by decide +kernel
theorem dX6_tryRoot_61 : decode cX6_tryRoot 61 = .ok (.getfield 32, 3) := by decide +kernel
theorem dX6_tryRoot_64 : decode cX6_tryRoot 64 = .ok (.iload_n 2, 1) := by decide +kernel
theorem dX6_tryRoot_65 : decode cX6_tryRoot 65 = .ok (.invokevirtual 182, 3) := by decide +kernel
theorem dX6_tryRoot_68 : decode cX6_tryRoot 68 = .ok (.ireturn, 1) := by decide +kernel
theorem dX6_tryJoin_0 : decode cX6_tryJoin 0 = .ok (.aload_n 0, 1) := by decide +kernel
theorem dX6_tryJoin_1 : decode cX6_tryJoin 1 = .ok (.getfield 10, 3) := by decide +kernel
theorem dX6_tryJoin_4 : decode cX6_tryJoin 4 = .ok (.iload_n 1, 1) := by decide +kernel
theorem dX6_tryJoin_5 : decode cX6_tryJoin 5 = .ok (.invokevirtual 57, 3) := by decide +kernel
theorem dX6_tryJoin_8 : decode cX6_tryJoin 8 = .ok (.ifCond .ne 5, 3) := by decide +kernel
theorem dX6_tryJoin_11 : decode cX6_tryJoin 11 = .ok (.iconst (-1), 1) := by decide +kernel
theorem dX6_tryJoin_12 : decode cX6_tryJoin 12 = .ok (.ireturn, 1) := by decide +kernel
theorem dX6_tryJoin_13 : decode cX6_tryJoin 13 = .ok (.iload_n 1, 1) := by decide +kernel
theorem dX6_tryJoin_14 : decode cX6_tryJoin 14 = .ok (.ifCond .ne 6, 3) := by decide +kernel
theorem dX6_tryJoin_17 : decode cX6_tryJoin 17 = .ok (.bipush (-4), 2) := by decide +kernel
theorem dX6_tryJoin_19 : decode cX6_tryJoin 19 = .ok (.ireturn, 1) := by decide +kernel
theorem dX6_tryJoin_20 : decode cX6_tryJoin 20 = .ok (.aload_n 0, 1) := by decide +kernel
theorem dX6_tryJoin_21 : decode cX6_tryJoin 21 = .ok (.getfield 10, 3) := by decide +kernel
theorem dX6_tryJoin_24 : decode cX6_tryJoin 24 = .ok (.iload_n 1, 1) := by decide +kernel
theorem dX6_tryJoin_25 : decode cX6_tryJoin 25 = .ok (.invokevirtual 67, 3) := by decide +kernel
theorem dX6_tryJoin_28 : decode cX6_tryJoin 28 = .ok (.ifCond .eq 6, 3) := by decide +kernel
theorem dX6_tryJoin_31 : decode cX6_tryJoin 31 = .ok (.bipush (-5), 2) := by decide +kernel
theorem dX6_tryJoin_33 : decode cX6_tryJoin 33 = .ok (.ireturn, 1) := by decide +kernel
theorem dX6_tryJoin_34 : decode cX6_tryJoin 34 = .ok (.aload_n 0, 1) := by decide +kernel
theorem dX6_tryJoin_35 : decode cX6_tryJoin 35 = .ok (.getfield 32, 3) := by decide +kernel
theorem dX6_tryJoin_38 : decode cX6_tryJoin 38 = .ok (.aload_n 0, 1) := by decide +kernel
theorem dX6_tryJoin_39 : decode cX6_tryJoin 39 = .ok (.getfield 10, 3) := by decide +kernel
theorem dX6_tryJoin_42 : decode cX6_tryJoin 42 = .ok (.iload_n 1, 1) := by decide +kernel
theorem dX6_tryJoin_43 : decode cX6_tryJoin 43 = .ok (.invokevirtual 174, 3) := by decide +kernel
theorem dX6_tryJoin_46 : decode cX6_tryJoin 46 = .ok (.aload_n 0, 1) := by decide +kernel
theorem dX6_tryJoin_47 : decode cX6_tryJoin 47 = .ok (.getfield 10, 3) := by decide +kernel
theorem dX6_tryJoin_50 : decode cX6_tryJoin 50 = .ok (.aload_n 0, 1) := by decide +kernel
theorem dX6_tryJoin_51 : decode cX6_tryJoin 51 = .ok (.getfield 32, 3) := by decide +kernel
theorem dX6_tryJoin_54 : decode cX6_tryJoin 54 = .ok (.aload_n 0, 1) := by decide +kernel
theorem dX6_tryJoin_55 : decode cX6_tryJoin 55 = .ok (.getfield 10, 3) := by decide +kernel
theorem dX6_tryJoin_58 : decode cX6_tryJoin 58 = .ok (.invokevirtual 178, 3) := by decide +kernel
theorem dX6_tryJoin_61 : decode cX6_tryJoin 61 = .ok (.invokevirtual 272, 3) := by decide +kernel
theorem dX6_tryJoin_64 : decode cX6_tryJoin 64 = .ok (.aload_n 0, 1) := by decide +kernel
theorem dX6_tryJoin_65 : decode cX6_tryJoin 65 = .ok (.getfield 10, 3) := by decide +kernel
theorem dX6_tryJoin_68 : decode cX6_tryJoin 68 = .ok (.iload_n 1, 1) := by decide +kernel
theorem dX6_tryJoin_69 : decode cX6_tryJoin 69 = .ok (.invokevirtual 275, 3) := by decide +kernel
theorem dX6_tryJoin_72 : decode cX6_tryJoin 72 = .ok (.aload_n 0, 1) := by decide +kernel
theorem dX6_tryJoin_73 : decode cX6_tryJoin 73 = .ok (.getfield 10, 3) := by decide +kernel
theorem dX6_tryJoin_76 : decode cX6_tryJoin 76 = .ok (.invokevirtual 97, 3) := by decide +kernel
theorem dX6_tryJoin_79 : decode cX6_tryJoin 79 = .ok (.ireturn, 1) := by decide +kernel
theorem dX6_giveRoot_0 : decode cX6_giveRoot 0 = .ok (.aload_n 0, 1) := by decide +kernel
theorem dX6_giveRoot_1 : decode cX6_giveRoot 1 = .ok (.getfield 32, 3) := by decide +kernel
theorem dX6_giveRoot_4 : decode cX6_giveRoot 4 = .ok (.aload_n 0, 1) := by decide +kernel
theorem dX6_giveRoot_5 : decode cX6_giveRoot 5 = .ok (.getfield 10, 3) := by decide +kernel
theorem dX6_giveRoot_8 : decode cX6_giveRoot 8 = .ok (.iload_n 1, 1) := by decide +kernel
theorem dX6_giveRoot_9 : decode cX6_giveRoot 9 = .ok (.invokevirtual 174, 3) := by decide +kernel
theorem dX6_giveRoot_12 : decode cX6_giveRoot 12 = .ok (.aload_n 0, 1) := by decide +kernel
theorem dX6_giveRoot_13 : decode cX6_giveRoot 13 = .ok (.getfield 32, 3) := by decide +kernel
theorem dX6_giveRoot_16 : decode cX6_giveRoot 16 = .ok (.getfield 208, 3) := by decide +kernel
theorem dX6_giveRoot_19 : decode cX6_giveRoot 19 = .ok (.aload_n 0, 1) := by decide +kernel
theorem dX6_giveRoot_20 : decode cX6_giveRoot 20 = .ok (.getfield 10, 3) := by decide +kernel
theorem dX6_giveRoot_23 : decode cX6_giveRoot 23 = .ok (.getfield 278, 3) := by decide +kernel
theorem dX6_giveRoot_26 : decode cX6_giveRoot 26 = .ok (.iand, 1) := by decide +kernel
theorem dX6_giveRoot_27 : decode cX6_giveRoot 27 = .ok (.ifCond .eq 7, 3) := by decide +kernel
theorem dX6_giveRoot_30 : decode cX6_giveRoot 30 = .ok (.iconst 1, 1) := by decide +kernel
theorem dX6_giveRoot_31 : decode cX6_giveRoot 31 = .ok (.goto 4, 3) := by decide +kernel
theorem dX6_giveRoot_34 : decode cX6_giveRoot 34 = .ok (.iconst 0, 1) := by decide +kernel
theorem dX6_giveRoot_35 : decode cX6_giveRoot 35 = .ok (.istore_n 3, 1) := by decide +kernel
theorem dX6_giveRoot_36 : decode cX6_giveRoot 36 = .ok (.aload_n 0, 1) := by decide +kernel
theorem dX6_giveRoot_37 : decode cX6_giveRoot 37 = .ok (.getfield 10, 3) := by decide +kernel
theorem dX6_giveRoot_40 : decode cX6_giveRoot 40 = .ok (.iload_n 3, 1) := by decide +kernel
theorem dX6_giveRoot_41 : decode cX6_giveRoot 41 = .ok (.ifCond .eq 7, 3) := by decide +kernel
theorem dX6_giveRoot_44 : decode cX6_giveRoot 44 = .ok (.iload_n 2, 1) := by decide +kernel
theorem dX6_giveRoot_45 : decode cX6_giveRoot 45 = .ok (.goto 4, 3) := by decide +kernel
theorem dX6_giveRoot_48 : decode cX6_giveRoot 48 = .ok (.iload_n 1, 1) := by decide +kernel
theorem dX6_giveRoot_49 : decode cX6_giveRoot 49 = .ok (.invokevirtual 73, 3) := by decide +kernel
theorem dX6_giveRoot_52 : decode cX6_giveRoot 52 = .ok (.return_, 1) := by decide +kernel
theorem dX6_stopAt_0 : decode cX6_stopAt 0 = .ok (.aload_n 0, 1) := by decide +kernel
theorem dX6_stopAt_1 : decode cX6_stopAt 1 = .ok (.iconst 1, 1) := by decide +kernel
theorem dX6_stopAt_2 : decode cX6_stopAt 2 = .ok (.putfield 137, 3) := by decide +kernel
theorem dX6_stopAt_5 : decode cX6_stopAt 5 = .ok (.aload_n 0, 1) := by decide +kernel
theorem dX6_stopAt_6 : decode cX6_stopAt 6 = .ok (.iload_n 1, 1) := by decide +kernel
theorem dX6_stopAt_7 : decode cX6_stopAt 7 = .ok (.putfield 141, 3) := by decide +kernel
theorem dX6_stopAt_10 : decode cX6_stopAt 10 = .ok (.aload_n 0, 1) := by decide +kernel
theorem dX6_stopAt_11 : decode cX6_stopAt 11 = .ok (.iload_n 2, 1) := by decide +kernel
theorem dX6_stopAt_12 : decode cX6_stopAt 12 = .ok (.putfield 144, 3) := by decide +kernel
theorem dX6_stopAt_15 : decode cX6_stopAt 15 = .ok (.aload_n 0, 1) := by decide +kernel
theorem dX6_stopAt_16 : decode cX6_stopAt 16 = .ok (.getfield 10, 3) := by decide +kernel
theorem dX6_stopAt_19 : decode cX6_stopAt 19 = .ok (.aload_n 0, 1) := by decide +kernel
theorem dX6_stopAt_20 : decode cX6_stopAt 20 = .ok (.getfield 16, 3) := by decide +kernel
theorem dX6_stopAt_23 : decode cX6_stopAt 23 = .ok (.invokevirtual 152, 3) := by decide +kernel
theorem dX6_stopAt_26 : decode cX6_stopAt 26 = .ok (.bipush (-4), 2) := by decide +kernel
theorem dX6_stopAt_28 : decode cX6_stopAt 28 = .ok (.ireturn, 1) := by decide +kernel
theorem dX6_carryOut_0 : decode cX6_carryOut 0 = .ok (.aload_n 0, 1) := by decide +kernel
theorem dX6_carryOut_1 : decode cX6_carryOut 1 = .ok (.getfield 39, 3) := by decide +kernel
theorem dX6_carryOut_4 : decode cX6_carryOut 4 = .ok (.iload_n 1, 1) := by decide +kernel
theorem dX6_carryOut_5 : decode cX6_carryOut 5 = .ok (.invokevirtual 281, 3) := by decide +kernel
theorem dX6_carryOut_8 : decode cX6_carryOut 8 = .ok (.istore_n 2, 1) := by decide +kernel
theorem dX6_carryOut_9 : decode cX6_carryOut 9 = .ok (.aload_n 0, 1) := by decide +kernel
theorem dX6_carryOut_10 : decode cX6_carryOut 10 = .ok (.getfield 39, 3) := by decide +kernel
theorem dX6_carryOut_13 : decode cX6_carryOut 13 = .ok (.iload_n 1, 1) := by decide +kernel
theorem dX6_carryOut_14 : decode cX6_carryOut 14 = .ok (.invokevirtual 284, 3) := by decide +kernel
theorem dX6_carryOut_17 : decode cX6_carryOut 17 = .ok (.istore_n 3, 1) := by decide +kernel
theorem dX6_carryOut_18 : decode cX6_carryOut 18 = .ok (.aload_n 0, 1) := by decide +kernel
theorem dX6_carryOut_19 : decode cX6_carryOut 19 = .ok (.getfield 39, 3) := by decide +kernel
theorem dX6_carryOut_22 : decode cX6_carryOut 22 = .ok (.iload_n 1, 1) := by decide +kernel
theorem dX6_carryOut_23 : decode cX6_carryOut 23 = .ok (.invokevirtual 287, 3) := by decide +kernel
theorem dX6_carryOut_26 : decode cX6_carryOut 26 = .ok (.istore 4, 2) := by decide +kernel
theorem dX6_carryOut_28 : decode cX6_carryOut 28 = .ok (.aload_n 0, 1) := by decide +kernel
theorem dX6_carryOut_29 : decode cX6_carryOut 29 = .ok (.getfield 39, 3) := by decide +kernel
theorem dX6_carryOut_32 : decode cX6_carryOut 32 = .ok (.iload_n 1, 1) := by decide +kernel
theorem dX6_carryOut_33 : decode cX6_carryOut 33 = .ok (.invokevirtual 290, 3) := by decide +kernel
theorem dX6_carryOut_36 : decode cX6_carryOut 36 = .ok (.tableswitch 62 0 3 #[32, 41, 50, 56], 32) := by decide +kernel
theorem dX6_carryOut_68 : decode cX6_carryOut 68 = .ok (.aload_n 0, 1) := by decide +kernel
theorem dX6_carryOut_69 : decode cX6_carryOut 69 = .ok (.iload_n 2, 1) := by decide +kernel
theorem dX6_carryOut_70 : decode cX6_carryOut 70 = .ok (.iload_n 3, 1) := by decide +kernel
theorem dX6_carryOut_71 : decode cX6_carryOut 71 = .ok (.iload 4, 2) := by decide +kernel
theorem dX6_carryOut_73 : decode cX6_carryOut 73 = .ok (.invokevirtual 46, 3) := by decide +kernel
theorem dX6_carryOut_76 : decode cX6_carryOut 76 = .ok (.ireturn, 1) := by decide +kernel
theorem dX6_carryOut_77 : decode cX6_carryOut 77 = .ok (.aload_n 0, 1) := by decide +kernel
theorem dX6_carryOut_78 : decode cX6_carryOut 78 = .ok (.iload_n 2, 1) := by decide +kernel
theorem dX6_carryOut_79 : decode cX6_carryOut 79 = .ok (.iload_n 3, 1) := by decide +kernel
theorem dX6_carryOut_80 : decode cX6_carryOut 80 = .ok (.iload 4, 2) := by decide +kernel
theorem dX6_carryOut_82 : decode cX6_carryOut 82 = .ok (.invokevirtual 54, 3) := by decide +kernel
theorem dX6_carryOut_85 : decode cX6_carryOut 85 = .ok (.ireturn, 1) := by decide +kernel
theorem dX6_carryOut_86 : decode cX6_carryOut 86 = .ok (.aload_n 0, 1) := by decide +kernel
theorem dX6_carryOut_87 : decode cX6_carryOut 87 = .ok (.iload_n 2, 1) := by decide +kernel
theorem dX6_carryOut_88 : decode cX6_carryOut 88 = .ok (.invokevirtual 84, 3) := by decide +kernel
theorem dX6_carryOut_91 : decode cX6_carryOut 91 = .ok (.ireturn, 1) := by decide +kernel
theorem dX6_carryOut_92 : decode cX6_carryOut 92 = .ok (.aload_n 0, 1) := by decide +kernel
theorem dX6_carryOut_93 : decode cX6_carryOut 93 = .ok (.iload_n 2, 1) := by decide +kernel
theorem dX6_carryOut_94 : decode cX6_carryOut 94 = .ok (.invokevirtual 87, 3) := by decide +kernel
theorem dX6_carryOut_97 : decode cX6_carryOut 97 = .ok (.ireturn, 1) := by decide +kernel
theorem dX6_carryOut_98 : decode cX6_carryOut 98 = .ok (.aload_n 0, 1) := by decide +kernel
theorem dX6_carryOut_99 : decode cX6_carryOut 99 = .ok (.iload_n 2, 1) := by decide +kernel
theorem dX6_carryOut_100 : decode cX6_carryOut 100 = .ok (.invokevirtual 100, 3) := by decide +kernel
theorem dX6_carryOut_103 : decode cX6_carryOut 103 = .ok (.ireturn, 1) := by decide +kernel
theorem dX6_tellOfTree_0 : decode cX6_tellOfTree 0 = .ok (.aload_n 0, 1) := by decide +kernel
theorem dX6_tellOfTree_1 : decode cX6_tellOfTree 1 = .ok (.getfield 32, 3) := by decide +kernel
theorem dX6_tellOfTree_4 : decode cX6_tellOfTree 4 = .ok (.aload_n 0, 1) := by decide +kernel
theorem dX6_tellOfTree_5 : decode cX6_tellOfTree 5 = .ok (.getfield 10, 3) := by decide +kernel
theorem dX6_tellOfTree_8 : decode cX6_tellOfTree 8 = .ok (.iload_n 1, 1) := by decide +kernel
theorem dX6_tellOfTree_9 : decode cX6_tellOfTree 9 = .ok (.invokevirtual 174, 3) := by decide +kernel
theorem dX6_tellOfTree_12 : decode cX6_tellOfTree 12 = .ok (.aload_n 0, 1) := by decide +kernel
theorem dX6_tellOfTree_13 : decode cX6_tellOfTree 13 = .ok (.getfield 32, 3) := by decide +kernel
theorem dX6_tellOfTree_16 : decode cX6_tellOfTree 16 = .ok (.aload_n 0, 1) := by decide +kernel
theorem dX6_tellOfTree_17 : decode cX6_tellOfTree 17 = .ok (.getfield 10, 3) := by decide +kernel
theorem dX6_tellOfTree_20 : decode cX6_tellOfTree 20 = .ok (.invokevirtual 178, 3) := by decide +kernel
theorem dX6_tellOfTree_23 : decode cX6_tellOfTree 23 = .ok (.istore_n 3, 1) := by decide +kernel
theorem dX6_tellOfTree_24 : decode cX6_tellOfTree 24 = .ok (.iload_n 2, 1) := by decide +kernel
theorem dX6_tellOfTree_25 : decode cX6_tellOfTree 25 = .ok (.tableswitch 85 3 9 #[43, 45, 54, 85, 85, 63, 74], 43) := by decide +kernel
theorem dX6_tellOfTree_68 : decode cX6_tellOfTree 68 = .ok (.iload_n 3, 1) := by decide +kernel
theorem dX6_tellOfTree_69 : decode cX6_tellOfTree 69 = .ok (.ireturn, 1) := by decide +kernel
theorem dX6_tellOfTree_70 : decode cX6_tellOfTree 70 = .ok (.aload_n 0, 1) := by decide +kernel
theorem dX6_tellOfTree_71 : decode cX6_tellOfTree 71 = .ok (.getfield 32, 3) := by decide +kernel
theorem dX6_tellOfTree_74 : decode cX6_tellOfTree 74 = .ok (.iload_n 3, 1) := by decide +kernel
theorem dX6_tellOfTree_75 : decode cX6_tellOfTree 75 = .ok (.invokevirtual 182, 3) := by decide +kernel
theorem dX6_tellOfTree_78 : decode cX6_tellOfTree 78 = .ok (.ireturn, 1) := by decide +kernel
theorem dX6_tellOfTree_79 : decode cX6_tellOfTree 79 = .ok (.aload_n 0, 1) := by decide +kernel
theorem dX6_tellOfTree_80 : decode cX6_tellOfTree 80 = .ok (.getfield 32, 3) := by decide +kernel
theorem dX6_tellOfTree_83 : decode cX6_tellOfTree 83 = .ok (.iload_n 3, 1) := by decide +kernel
theorem dX6_tellOfTree_84 : decode cX6_tellOfTree 84 = .ok (.invokevirtual 257, 3) := by decide +kernel
theorem dX6_tellOfTree_87 : decode cX6_tellOfTree 87 = .ok (.ireturn, 1) := by decide +kernel
theorem dX6_tellOfTree_88 : decode cX6_tellOfTree 88 = .ok (.aload_n 0, 1) := by decide +kernel
theorem dX6_tellOfTree_89 : decode cX6_tellOfTree 89 = .ok (.getfield 32, 3) := by decide +kernel
theorem dX6_tellOfTree_92 : decode cX6_tellOfTree 92 = .ok (.getfield 208, 3) := by decide +kernel
theorem dX6_tellOfTree_95 : decode cX6_tellOfTree 95 = .ok (.invokestatic 191, 3) := by decide +kernel
theorem dX6_tellOfTree_98 : decode cX6_tellOfTree 98 = .ok (.ireturn, 1) := by decide +kernel
theorem dX6_tellOfTree_99 : decode cX6_tellOfTree 99 = .ok (.iconst 1, 1) := by decide +kernel
theorem dX6_tellOfTree_100 : decode cX6_tellOfTree 100 = .ok (.aload_n 0, 1) := by decide +kernel
theorem dX6_tellOfTree_101 : decode cX6_tellOfTree 101 = .ok (.getfield 32, 3) := by decide +kernel
theorem dX6_tellOfTree_104 : decode cX6_tellOfTree 104 = .ok (.iload_n 3, 1) := by decide +kernel
theorem dX6_tellOfTree_105 : decode cX6_tellOfTree 105 = .ok (.invokevirtual 257, 3) := by decide +kernel
theorem dX6_tellOfTree_108 : decode cX6_tellOfTree 108 = .ok (.iadd, 1) := by decide +kernel
theorem dX6_tellOfTree_109 : decode cX6_tellOfTree 109 = .ok (.ireturn, 1) := by decide +kernel
theorem dX6_tellOfTree_110 : decode cX6_tellOfTree 110 = .ok (.bipush (-2), 2) := by decide +kernel
theorem dX6_tellOfTree_112 : decode cX6_tellOfTree 112 = .ok (.ireturn, 1) := by decide +kernel
theorem dX6_costFrom_0 : decode cX6_costFrom 0 = .ok (.aload_n 0, 1) := by decide +kernel
theorem dX6_costFrom_1 : decode cX6_costFrom 1 = .ok (.getfield 32, 3) := by decide +kernel
theorem dX6_costFrom_4 : decode cX6_costFrom 4 = .ok (.aload_n 0, 1) := by decide +kernel
theorem dX6_costFrom_5 : decode cX6_costFrom 5 = .ok (.getfield 10, 3) := by decide +kernel
theorem dX6_costFrom_8 : decode cX6_costFrom 8 = .ok (.iload_n 1, 1) := by decide +kernel
theorem dX6_costFrom_9 : decode cX6_costFrom 9 = .ok (.invokevirtual 174, 3) := by decide +kernel
theorem dX6_costFrom_12 : decode cX6_costFrom 12 = .ok (.iconst 0, 1) := by decide +kernel
theorem dX6_costFrom_13 : decode cX6_costFrom 13 = .ok (.istore_n 2, 1) := by decide +kernel
theorem dX6_costFrom_14 : decode cX6_costFrom 14 = .ok (.iconst 0, 1) := by decide +kernel
theorem dX6_costFrom_15 : decode cX6_costFrom 15 = .ok (.istore_n 3, 1) := by decide +kernel
theorem dX6_costFrom_16 : decode cX6_costFrom 16 = .ok (.iload_n 3, 1) := by decide +kernel
theorem dX6_costFrom_17 : decode cX6_costFrom 17 = .ok (.bipush 24, 2) := by decide +kernel
theorem dX6_costFrom_19 : decode cX6_costFrom 19 = .ok (.if_icmp .ge 45, 3) := by decide +kernel
theorem dX6_costFrom_22 : decode cX6_costFrom 22 = .ok (.aload_n 0, 1) := by decide +kernel
theorem dX6_costFrom_23 : decode cX6_costFrom 23 = .ok (.getfield 32, 3) := by decide +kernel
theorem dX6_costFrom_26 : decode cX6_costFrom 26 = .ok (.getfield 208, 3) := by decide +kernel
theorem dX6_costFrom_29 : decode cX6_costFrom 29 = .ok (.iload_n 3, 1) := by decide +kernel
theorem dX6_costFrom_30 : decode cX6_costFrom 30 = .ok (.invokestatic 199, 3) := by decide +kernel
theorem dX6_costFrom_33 : decode cX6_costFrom 33 = .ok (.ifCond .eq 25, 3) := by decide +kernel
theorem dX6_costFrom_36 : decode cX6_costFrom 36 = .ok (.iload_n 2, 1) := by decide +kernel
theorem dX6_costFrom_37 : decode cX6_costFrom 37 = .ok (.aload_n 0, 1) := by decide +kernel
theorem dX6_costFrom_38 : decode cX6_costFrom 38 = .ok (.getfield 10, 3) := by decide +kernel
theorem dX6_costFrom_41 : decode cX6_costFrom 41 = .ok (.iload_n 3, 1) := by decide +kernel
theorem dX6_costFrom_42 : decode cX6_costFrom 42 = .ok (.invokevirtual 168, 3) := by decide +kernel
theorem dX6_costFrom_45 : decode cX6_costFrom 45 = .ok (.iconst 1, 1) := by decide +kernel
theorem dX6_costFrom_46 : decode cX6_costFrom 46 = .ok (.aload_n 0, 1) := by decide +kernel
theorem dX6_costFrom_47 : decode cX6_costFrom 47 = .ok (.getfield 32, 3) := by decide +kernel
theorem dX6_costFrom_50 : decode cX6_costFrom 50 = .ok (.iload_n 3, 1) := by decide +kernel
theorem dX6_costFrom_51 : decode cX6_costFrom 51 = .ok (.invokevirtual 257, 3) := by decide +kernel
theorem dX6_costFrom_54 : decode cX6_costFrom 54 = .ok (.iadd, 1) := by decide +kernel
theorem dX6_costFrom_55 : decode cX6_costFrom 55 = .ok (.imul, 1) := by decide +kernel
theorem dX6_costFrom_56 : decode cX6_costFrom 56 = .ok (.iadd, 1) := by decide +kernel
theorem dX6_costFrom_57 : decode cX6_costFrom 57 = .ok (.istore_n 2, 1) := by decide +kernel
theorem dX6_costFrom_58 : decode cX6_costFrom 58 = .ok (.iinc 3 1, 3) := by decide +kernel
theorem dX6_costFrom_61 : decode cX6_costFrom 61 = .ok (.goto (-45), 3) := by decide +kernel
theorem dX6_costFrom_64 : decode cX6_costFrom 64 = .ok (.iload_n 2, 1) := by decide +kernel
theorem dX6_costFrom_65 : decode cX6_costFrom 65 = .ok (.ireturn, 1) := by decide +kernel
theorem dX6_longestWay_0 : decode cX6_longestWay 0 = .ok (.iconst 0, 1) := by decide +kernel
theorem dX6_longestWay_1 : decode cX6_longestWay 1 = .ok (.istore_n 1, 1) := by decide +kernel
theorem dX6_longestWay_2 : decode cX6_longestWay 2 = .ok (.iconst 0, 1) := by decide +kernel
theorem dX6_longestWay_3 : decode cX6_longestWay 3 = .ok (.istore_n 2, 1) := by decide +kernel
theorem dX6_longestWay_4 : decode cX6_longestWay 4 = .ok (.iload_n 2, 1) := by decide +kernel
theorem dX6_longestWay_5 : decode cX6_longestWay 5 = .ok (.bipush 24, 2) := by decide +kernel
theorem dX6_longestWay_7 : decode cX6_longestWay 7 = .ok (.if_icmp .ge 44, 3) := by decide +kernel
theorem dX6_longestWay_10 : decode cX6_longestWay 10 = .ok (.aload_n 0, 1) := by decide +kernel
theorem dX6_longestWay_11 : decode cX6_longestWay 11 = .ok (.getfield 10, 3) := by decide +kernel
theorem dX6_longestWay_14 : decode cX6_longestWay 14 = .ok (.iload_n 2, 1) := by decide +kernel
theorem dX6_longestWay_15 : decode cX6_longestWay 15 = .ok (.invokevirtual 64, 3) := by decide +kernel
theorem dX6_longestWay_18 : decode cX6_longestWay 18 = .ok (.ifCond .eq 27, 3) := by decide +kernel
theorem dX6_longestWay_21 : decode cX6_longestWay 21 = .ok (.aload_n 0, 1) := by decide +kernel
theorem dX6_longestWay_22 : decode cX6_longestWay 22 = .ok (.getfield 32, 3) := by decide +kernel
theorem dX6_longestWay_25 : decode cX6_longestWay 25 = .ok (.aload_n 0, 1) := by decide +kernel
theorem dX6_longestWay_26 : decode cX6_longestWay 26 = .ok (.getfield 10, 3) := by decide +kernel
theorem dX6_longestWay_29 : decode cX6_longestWay 29 = .ok (.iload_n 2, 1) := by decide +kernel
theorem dX6_longestWay_30 : decode cX6_longestWay 30 = .ok (.invokevirtual 174, 3) := by decide +kernel
theorem dX6_longestWay_33 : decode cX6_longestWay 33 = .ok (.iload_n 1, 1) := by decide +kernel
theorem dX6_longestWay_34 : decode cX6_longestWay 34 = .ok (.aload_n 0, 1) := by decide +kernel
theorem dX6_longestWay_35 : decode cX6_longestWay 35 = .ok (.getfield 32, 3) := by decide +kernel
theorem dX6_longestWay_38 : decode cX6_longestWay 38 = .ok (.invokevirtual 293, 3) := by decide +kernel
theorem dX6_longestWay_41 : decode cX6_longestWay 41 = .ok (.invokestatic 296, 3) := by decide +kernel
theorem dX6_longestWay_44 : decode cX6_longestWay 44 = .ok (.istore_n 1, 1) := by decide +kernel
theorem dX6_longestWay_45 : decode cX6_longestWay 45 = .ok (.iinc 2 1, 3) := by decide +kernel
theorem dX6_longestWay_48 : decode cX6_longestWay 48 = .ok (.goto (-44), 3) := by decide +kernel
theorem dX6_longestWay_51 : decode cX6_longestWay 51 = .ok (.iload_n 1, 1) := by decide +kernel
theorem dX6_longestWay_52 : decode cX6_longestWay 52 = .ok (.ireturn, 1) := by decide +kernel
theorem dX6_isCell_0 : decode cX6_isCell 0 = .ok (.iload_n 0, 1) := by decide +kernel
theorem dX6_isCell_1 : decode cX6_isCell 1 = .ok (.ifCond .lt 13, 3) := by decide +kernel
theorem dX6_isCell_4 : decode cX6_isCell 4 = .ok (.iload_n 0, 1) := by decide +kernel
theorem dX6_isCell_5 : decode cX6_isCell 5 = .ok (.bipush 8, 2) := by decide +kernel
theorem dX6_isCell_7 : decode cX6_isCell 7 = .ok (.if_icmp .ge 7, 3) := by decide +kernel
theorem dX6_isCell_10 : decode cX6_isCell 10 = .ok (.iconst 1, 1) := by decide +kernel
theorem dX6_isCell_11 : decode cX6_isCell 11 = .ok (.goto 4, 3) := by decide +kernel
theorem dX6_isCell_14 : decode cX6_isCell 14 = .ok (.iconst 0, 1) := by decide +kernel
theorem dX6_isCell_15 : decode cX6_isCell 15 = .ok (.ireturn, 1) := by decide +kernel
theorem dX7_init_0 : decode cX7_init 0 = .ok (.aload_n 0, 1) := by decide +kernel
theorem dX7_init_1 : decode cX7_init 1 = .ok (.invokespecial 1, 3) := by decide +kernel
theorem dX7_init_4 : decode cX7_init 4 = .ok (.aload_n 0, 1) := by decide +kernel
theorem dX7_init_5 : decode cX7_init 5 = .ok (.sipush 318, 3) := by decide +kernel
theorem dX7_init_8 : decode cX7_init 8 = .ok (.newarray .int, 2) := by decide +kernel
theorem dX7_init_10 : decode cX7_init 10 = .ok (.putfield 7, 3) := by decide +kernel
theorem dX7_init_13 : decode cX7_init 13 = .ok (.aload_n 0, 1) := by decide +kernel
theorem dX7_init_14 : decode cX7_init 14 = .ok (.sipush 318, 3) := by decide +kernel
theorem dX7_init_17 : decode cX7_init 17 = .ok (.newarray .int, 2) := by decide +kernel
theorem dX7_init_19 : decode cX7_init 19 = .ok (.putfield 13, 3) := by decide +kernel
theorem dX7_init_22 : decode cX7_init 22 = .ok (.aload_n 0, 1) := by decide +kernel
theorem dX7_init_23 : decode cX7_init 23 = .ok (.sipush 1272, 3) := by decide +kernel
theorem dX7_init_26 : decode cX7_init 26 = .ok (.newarray .int, 2) := by decide +kernel
theorem dX7_init_28 : decode cX7_init 28 = .ok (.putfield 16, 3) := by decide +kernel
theorem dX7_init_31 : decode cX7_init 31 = .ok (.aload_n 0, 1) := by decide +kernel
theorem dX7_init_32 : decode cX7_init 32 = .ok (.sipush 318, 3) := by decide +kernel
theorem dX7_init_35 : decode cX7_init 35 = .ok (.newarray .int, 2) := by decide +kernel
theorem dX7_init_37 : decode cX7_init 37 = .ok (.putfield 19, 3) := by decide +kernel
theorem dX7_init_40 : decode cX7_init 40 = .ok (.aload_n 0, 1) := by decide +kernel
theorem dX7_init_41 : decode cX7_init 41 = .ok (.bipush 80, 2) := by decide +kernel
theorem dX7_init_43 : decode cX7_init 43 = .ok (.newarray .int, 2) := by decide +kernel
theorem dX7_init_45 : decode cX7_init 45 = .ok (.putfield 22, 3) := by decide +kernel
theorem dX7_init_48 : decode cX7_init 48 = .ok (.aload_n 0, 1) := by decide +kernel
theorem dX7_init_49 : decode cX7_init 49 = .ok (.bipush (-5), 2) := by decide +kernel
theorem dX7_init_51 : decode cX7_init 51 = .ok (.putfield 25, 3) := by decide +kernel
theorem dX7_init_54 : decode cX7_init 54 = .ok (.aload_n 0, 1) := by decide +kernel
theorem dX7_init_55 : decode cX7_init 55 = .ok (.bipush 24, 2) := by decide +kernel
theorem dX7_init_57 : decode cX7_init 57 = .ok (.newarray .int, 2) := by decide +kernel
theorem dX7_init_59 : decode cX7_init 59 = .ok (.putfield 29, 3) := by decide +kernel
theorem dX7_init_62 : decode cX7_init 62 = .ok (.aload_n 0, 1) := by decide +kernel
theorem dX7_init_63 : decode cX7_init 63 = .ok (.getfield 7, 3) := by decide +kernel
theorem dX7_init_66 : decode cX7_init 66 = .ok (.iconst 0, 1) := by decide +kernel
theorem dX7_init_67 : decode cX7_init 67 = .ok (.iconst 0, 1) := by decide +kernel
theorem dX7_init_68 : decode cX7_init 68 = .ok (.invokestatic 32, 3) := by decide +kernel
theorem dX7_init_71 : decode cX7_init 71 = .ok (.iconst 1, 1) := by decide +kernel
theorem dX7_init_72 : decode cX7_init 72 = .ok (.iastore, 1) := by decide +kernel
theorem dX7_init_73 : decode cX7_init 73 = .ok (.aload_n 0, 1) := by decide +kernel
theorem dX7_init_74 : decode cX7_init 74 = .ok (.getfield 7, 3) := by decide +kernel
theorem dX7_init_77 : decode cX7_init 77 = .ok (.iconst 0, 1) := by decide +kernel
theorem dX7_init_78 : decode cX7_init 78 = .ok (.iconst 1, 1) := by decide +kernel
theorem dX7_init_79 : decode cX7_init 79 = .ok (.invokestatic 32, 3) := by decide +kernel
theorem dX7_init_82 : decode cX7_init 82 = .ok (.bipush (-5), 2) := by decide +kernel
theorem dX7_init_84 : decode cX7_init 84 = .ok (.iastore, 1) := by decide +kernel
theorem dX7_init_85 : decode cX7_init 85 = .ok (.aload_n 0, 1) := by decide +kernel
theorem dX7_init_86 : decode cX7_init 86 = .ok (.getfield 7, 3) := by decide +kernel
theorem dX7_init_89 : decode cX7_init 89 = .ok (.iconst 0, 1) := by decide +kernel
theorem dX7_init_90 : decode cX7_init 90 = .ok (.iconst 3, 1) := by decide +kernel
theorem dX7_init_91 : decode cX7_init 91 = .ok (.invokestatic 32, 3) := by decide +kernel
theorem dX7_init_94 : decode cX7_init 94 = .ok (.iconst 1, 1) := by decide +kernel
theorem dX7_init_95 : decode cX7_init 95 = .ok (.iastore, 1) := by decide +kernel
theorem dX7_init_96 : decode cX7_init 96 = .ok (.aload_n 0, 1) := by decide +kernel
theorem dX7_init_97 : decode cX7_init 97 = .ok (.getfield 7, 3) := by decide +kernel
theorem dX7_init_100 : decode cX7_init 100 = .ok (.sipush 312, 3) := by decide +kernel
theorem dX7_init_103 : decode cX7_init 103 = .ok (.iconst 1, 1) := by decide +kernel
theorem dX7_init_104 : decode cX7_init 104 = .ok (.iastore, 1) := by decide +kernel
theorem dX7_init_105 : decode cX7_init 105 = .ok (.aload_n 0, 1) := by decide +kernel
theorem dX7_init_106 : decode cX7_init 106 = .ok (.getfield 7, 3) := by decide +kernel
theorem dX7_init_109 : decode cX7_init 109 = .ok (.sipush 313, 3) := by decide +kernel
theorem dX7_init_112 : decode cX7_init 112 = .ok (.bipush 6, 2) := by decide +kernel
theorem dX7_init_114 : decode cX7_init 114 = .ok (.iastore, 1) := by decide +kernel
theorem dX7_init_115 : decode cX7_init 115 = .ok (.return_, 1) := by decide +kernel
theorem dX7_in_0 : decode cX7_in 0 = .ok (.iload_n 0, 1) := by decide +kernel
theorem dX7_in_1 : decode cX7_in 1 = .ok (.iload_n 1, 1) := by decide +kernel
theorem dX7_in_2 : decode cX7_in 2 = .ok (.if_icmp .lt 12, 3) := by decide +kernel
theorem dX7_in_5 : decode cX7_in 5 = .ok (.iload_n 0, 1) := by decide +kernel
theorem dX7_in_6 : decode cX7_in 6 = .ok (.iload_n 2, 1) := by decide +kernel
theorem dX7_in_7 : decode cX7_in 7 = .ok (.if_icmp .gt 7, 3) := by decide +kernel
theorem dX7_in_10 : decode cX7_in 10 = .ok (.iconst 1, 1) := by decide +kernel
theorem dX7_in_11 : decode cX7_in 11 = .ok (.goto 4, 3) := by decide +kernel
theorem dX7_in_14 : decode cX7_in 14 = .ok (.iconst 0, 1) := by decide +kernel
theorem dX7_in_15 : decode cX7_in 15 = .ok (.ireturn, 1) := by decide +kernel
theorem dX7_of_0 : decode cX7_of 0 = .ok (.bipush 13, 2) := by decide +kernel
theorem dX7_of_2 : decode cX7_of 2 = .ok (.iload_n 0, 1) := by decide +kernel
theorem dX7_of_3 : decode cX7_of 3 = .ok (.imul, 1) := by decide +kernel
theorem dX7_of_4 : decode cX7_of 4 = .ok (.iload_n 1, 1) := by decide +kernel
theorem dX7_of_5 : decode cX7_of 5 = .ok (.iadd, 1) := by decide +kernel
theorem dX7_of_6 : decode cX7_of 6 = .ok (.ireturn, 1) := by decide +kernel
theorem dX7_isVersion_0 : decode cX7_isVersion 0 = .ok (.iload_n 1, 1) := by decide +kernel
theorem dX7_isVersion_1 : decode cX7_isVersion 1 = .ok (.iconst 0, 1) := by decide +kernel
theorem dX7_isVersion_2 : decode cX7_isVersion 2 = .ok (.bipush 23, 2) := by decide +kernel
theorem dX7_isVersion_4 : decode cX7_isVersion 4 = .ok (.invokestatic 36, 3) := by decide +kernel
theorem dX7_isVersion_7 : decode cX7_isVersion 7 = .ok (.ifCond .eq 21, 3) := by decide +kernel
theorem dX7_isVersion_10 : decode cX7_isVersion 10 = .ok (.aload_n 0, 1) := by decide +kernel
theorem dX7_isVersion_11 : decode cX7_isVersion 11 = .ok (.getfield 7, 3) := by decide +kernel
theorem dX7_isVersion_14 : decode cX7_isVersion 14 = .ok (.iload_n 1, 1) := by decide +kernel
theorem dX7_isVersion_15 : decode cX7_isVersion 15 = .ok (.iconst 0, 1) := by decide +kernel
theorem dX7_isVersion_16 : decode cX7_isVersion 16 = .ok (.invokestatic 32, 3) := by decide +kernel
theorem dX7_isVersion_19 : decode cX7_isVersion 19 = .ok (.iaload, 1) := by decide +kernel
theorem dX7_isVersion_20 : decode cX7_isVersion 20 = .ok (.iconst 1, 1) := by decide +kernel
theorem dX7_isVersion_21 : decode cX7_isVersion 21 = .ok (.if_icmp .ne 7, 3) := by decide +kernel
theorem dX7_isVersion_24 : decode cX7_isVersion 24 = .ok (.iconst 1, 1) := by decide +kernel
theorem dX7_isVersion_25 : decode cX7_isVersion 25 = .ok (.goto 4, 3) := by decide +kernel
theorem dX7_isVersion_28 : decode cX7_isVersion 28 = .ok (.iconst 0, 1) := by decide +kernel
theorem dX7_isVersion_29 : decode cX7_isVersion 29 = .ok (.ireturn, 1) := by decide +kernel
theorem dX7_putAside_0 : decode cX7_putAside 0 = .ok (.iconst 0, 1) := by decide +kernel
theorem dX7_putAside_1 : decode cX7_putAside 1 = .ok (.istore_n 1, 1) := by decide +kernel
theorem dX7_putAside_2 : decode cX7_putAside 2 = .ok (.iload_n 1, 1) := by decide +kernel
theorem dX7_putAside_3 : decode cX7_putAside 3 = .ok (.sipush 318, 3) := by decide +kernel
theorem dX7_putAside_6 : decode cX7_putAside 6 = .ok (.if_icmp .ge 21, 3) := by decide +kernel
theorem dX7_putAside_9 : decode cX7_putAside 9 = .ok (.aload_n 0, 1) := by decide +kernel
theorem dX7_putAside_10 : decode cX7_putAside 10 = .ok (.getfield 13, 3) := by decide +kernel
theorem dX7_putAside_13 : decode cX7_putAside 13 = .ok (.iload_n 1, 1) := by decide +kernel
theorem dX7_putAside_14 : decode cX7_putAside 14 = .ok (.aload_n 0, 1) := by decide +kernel
theorem dX7_putAside_15 : decode cX7_putAside 15 = .ok (.getfield 7, 3) := by decide +kernel
theorem dX7_putAside_18 : decode cX7_putAside 18 = .ok (.iload_n 1, 1) := by decide +kernel
theorem dX7_putAside_19 : decode cX7_putAside 19 = .ok (.iaload, 1) := by decide +kernel
theorem dX7_putAside_20 : decode cX7_putAside 20 = .ok (.iastore, 1) := by decide +kernel
theorem dX7_putAside_21 : decode cX7_putAside 21 = .ok (.iinc 1 1, 3) := by decide +kernel
theorem dX7_putAside_24 : decode cX7_putAside 24 = .ok (.goto (-22), 3) := by decide +kernel
theorem dX7_putAside_27 : decode cX7_putAside 27 = .ok (.return_, 1) := by decide +kernel
theorem dX7_putBack_0 : decode cX7_putBack 0 = .ok (.iconst 0, 1) := by decide +kernel
theorem dX7_putBack_1 : decode cX7_putBack 1 = .ok (.istore_n 1, 1) := by decide +kernel
theorem dX7_putBack_2 : decode cX7_putBack 2 = .ok (.iload_n 1, 1) := by decide +kernel
theorem dX7_putBack_3 : decode cX7_putBack 3 = .ok (.sipush 318, 3) := by decide +kernel
theorem dX7_putBack_6 : decode cX7_putBack 6 = .ok (.if_icmp .ge 21, 3) := by decide +kernel
theorem dX7_putBack_9 : decode cX7_putBack 9 = .ok (.aload_n 0, 1) := by decide +kernel
theorem dX7_putBack_10 : decode cX7_putBack 10 = .ok (.getfield 7, 3) := by decide +kernel
theorem dX7_putBack_13 : decode cX7_putBack 13 = .ok (.iload_n 1, 1) := by decide +kernel
theorem dX7_putBack_14 : decode cX7_putBack 14 = .ok (.aload_n 0, 1) := by decide +kernel
theorem dX7_putBack_15 : decode cX7_putBack 15 = .ok (.getfield 13, 3) := by decide +kernel
theorem dX7_putBack_18 : decode cX7_putBack 18 = .ok (.iload_n 1, 1) := by decide +kernel
theorem dX7_putBack_19 : decode cX7_putBack 19 = .ok (.iaload, 1) := by decide +kernel
theorem dX7_putBack_20 : decode cX7_putBack 20 = .ok (.iastore, 1) := by decide +kernel
theorem dX7_putBack_21 : decode cX7_putBack 21 = .ok (.iinc 1 1, 3) := by decide +kernel
theorem dX7_putBack_24 : decode cX7_putBack 24 = .ok (.goto (-22), 3) := by decide +kernel
theorem dX7_putBack_27 : decode cX7_putBack 27 = .ok (.return_, 1) := by decide +kernel
theorem dX7_act_0 : decode cX7_act 0 = .ok (.iload_n 1, 1) := by decide +kernel
theorem dX7_act_1 : decode cX7_act 1 = .ok (.ifCond .ge 5, 3) := by decide +kernel
theorem dX7_act_4 : decode cX7_act 4 = .ok (.iload_n 1, 1) := by decide +kernel
theorem dX7_act_5 : decode cX7_act 5 = .ok (.ireturn, 1) := by decide +kernel
theorem dX7_act_6 : decode cX7_act 6 = .ok (.aload_n 0, 1) := by decide +kernel
theorem dX7_act_7 : decode cX7_act 7 = .ok (.getfield 40, 3) := by decide +kernel
theorem dX7_act_10 : decode cX7_act 10 = .ok (.iconst 4, 1) := by decide +kernel
theorem dX7_act_11 : decode cX7_act 11 = .ok (.if_icmp .ne 44, 3) := by decide +kernel
theorem dX7_act_14 : decode cX7_act 14 = .ok (.iconst 0, 1) := by decide +kernel
theorem dX7_act_15 : decode cX7_act 15 = .ok (.istore_n 2, 1) := by decide +kernel
theorem dX7_act_16 : decode cX7_act 16 = .ok (.iload_n 2, 1) := by decide +kernel
theorem dX7_act_17 : decode cX7_act 17 = .ok (.sipush 954, 3) := by decide +kernel
theorem dX7_act_20 : decode cX7_act 20 = .ok (.if_icmp .ge 25, 3) := by decide +kernel
theorem dX7_act_23 : decode cX7_act 23 = .ok (.aload_n 0, 1) := by decide +kernel
theorem dX7_act_24 : decode cX7_act 24 = .ok (.getfield 16, 3) := by decide +kernel
theorem dX7_act_27 : decode cX7_act 27 = .ok (.iload_n 2, 1) := by decide +kernel
theorem dX7_act_28 : decode cX7_act 28 = .ok (.aload_n 0, 1) := by decide +kernel
theorem dX7_act_29 : decode cX7_act 29 = .ok (.getfield 16, 3) := by decide +kernel
theorem dX7_act_32 : decode cX7_act 32 = .ok (.sipush 318, 3) := by decide +kernel
theorem dX7_act_35 : decode cX7_act 35 = .ok (.iload_n 2, 1) := by decide +kernel
theorem dX7_act_36 : decode cX7_act 36 = .ok (.iadd, 1) := by decide +kernel
theorem dX7_act_37 : decode cX7_act 37 = .ok (.iaload, 1) := by decide +kernel
theorem dX7_act_38 : decode cX7_act 38 = .ok (.iastore, 1) := by decide +kernel
theorem dX7_act_39 : decode cX7_act 39 = .ok (.iinc 2 1, 3) := by decide +kernel
theorem dX7_act_42 : decode cX7_act 42 = .ok (.goto (-26), 3) := by decide +kernel
theorem dX7_act_45 : decode cX7_act 45 = .ok (.aload_n 0, 1) := by decide +kernel
theorem dX7_act_46 : decode cX7_act 46 = .ok (.dup, 1) := by decide +kernel
theorem dX7_act_47 : decode cX7_act 47 = .ok (.getfield 40, 3) := by decide +kernel
theorem dX7_act_50 : decode cX7_act 50 = .ok (.iconst 1, 1) := by decide +kernel
theorem dX7_act_51 : decode cX7_act 51 = .ok (.isub, 1) := by decide +kernel
theorem dX7_act_52 : decode cX7_act 52 = .ok (.putfield 40, 3) := by decide +kernel
theorem dX7_act_55 : decode cX7_act 55 = .ok (.iconst 0, 1) := by decide +kernel
theorem dX7_act_56 : decode cX7_act 56 = .ok (.istore_n 2, 1) := by decide +kernel
theorem dX7_act_57 : decode cX7_act 57 = .ok (.iload_n 2, 1) := by decide +kernel
theorem dX7_act_58 : decode cX7_act 58 = .ok (.sipush 318, 3) := by decide +kernel
theorem dX7_act_61 : decode cX7_act 61 = .ok (.if_icmp .ge 30, 3) := by decide +kernel
theorem dX7_act_64 : decode cX7_act 64 = .ok (.aload_n 0, 1) := by decide +kernel
theorem dX7_act_65 : decode cX7_act 65 = .ok (.getfield 16, 3) := by decide +kernel
theorem dX7_act_68 : decode cX7_act 68 = .ok (.sipush 318, 3) := by decide +kernel
theorem dX7_act_71 : decode cX7_act 71 = .ok (.aload_n 0, 1) := by decide +kernel
theorem dX7_act_72 : decode cX7_act 72 = .ok (.getfield 40, 3) := by decide +kernel
theorem dX7_act_75 : decode cX7_act 75 = .ok (.imul, 1) := by decide +kernel
theorem dX7_act_76 : decode cX7_act 76 = .ok (.iload_n 2, 1) := by decide +kernel
theorem dX7_act_77 : decode cX7_act 77 = .ok (.iadd, 1) := by decide +kernel
theorem dX7_act_78 : decode cX7_act 78 = .ok (.aload_n 0, 1) := by decide +kernel
theorem dX7_act_79 : decode cX7_act 79 = .ok (.getfield 13, 3) := by decide +kernel
theorem dX7_act_82 : decode cX7_act 82 = .ok (.iload_n 2, 1) := by decide +kernel
theorem dX7_act_83 : decode cX7_act 83 = .ok (.iaload, 1) := by decide +kernel
theorem dX7_act_84 : decode cX7_act 84 = .ok (.iastore, 1) := by decide +kernel
theorem dX7_act_85 : decode cX7_act 85 = .ok (.iinc 2 1, 3) := by decide +kernel
theorem dX7_act_88 : decode cX7_act 88 = .ok (.goto (-31), 3) := by decide +kernel
theorem dX7_act_91 : decode cX7_act 91 = .ok (.aload_n 0, 1) := by decide +kernel
theorem dX7_act_92 : decode cX7_act 92 = .ok (.dup, 1) := by decide +kernel
theorem dX7_act_93 : decode cX7_act 93 = .ok (.getfield 40, 3) := by decide +kernel
theorem dX7_act_96 : decode cX7_act 96 = .ok (.iconst 1, 1) := by decide +kernel
theorem dX7_act_97 : decode cX7_act 97 = .ok (.iadd, 1) := by decide +kernel
theorem dX7_act_98 : decode cX7_act 98 = .ok (.putfield 40, 3) := by decide +kernel
theorem dX7_act_101 : decode cX7_act 101 = .ok (.iload_n 1, 1) := by decide +kernel
theorem dX7_act_102 : decode cX7_act 102 = .ok (.ireturn, 1) := by decide +kernel
theorem dX7_cellsUnlike_0 : decode cX7_cellsUnlike 0 = .ok (.iconst 0, 1) := by decide +kernel
theorem dX7_cellsUnlike_1 : decode cX7_cellsUnlike 1 = .ok (.istore_n 3, 1) := by decide +kernel
theorem dX7_cellsUnlike_2 : decode cX7_cellsUnlike 2 = .ok (.iconst 0, 1) := by decide +kernel
theorem dX7_cellsUnlike_3 : decode cX7_cellsUnlike 3 = .ok (.istore 4, 2) := by decide +kernel
theorem dX7_cellsUnlike_5 : decode cX7_cellsUnlike 5 = .ok (.iload 4, 2) := by decide +kernel
theorem dX7_cellsUnlike_7 : decode cX7_cellsUnlike 7 = .ok (.bipush 8, 2) := by decide +kernel
theorem dX7_cellsUnlike_9 : decode cX7_cellsUnlike 9 = .ok (.if_icmp .ge 49, 3) := by decide +kernel
theorem dX7_cellsUnlike_12 : decode cX7_cellsUnlike 12 = .ok (.iload_n 3, 1) := by decide +kernel
theorem dX7_cellsUnlike_13 : decode cX7_cellsUnlike 13 = .ok (.aload_n 0, 1) := by decide +kernel
theorem dX7_cellsUnlike_14 : decode cX7_cellsUnlike 14 = .ok (.getfield 7, 3) := by decide +kernel
theorem dX7_cellsUnlike_17 : decode cX7_cellsUnlike 17 = .ok (.iload_n 1, 1) := by decide +kernel
theorem dX7_cellsUnlike_18 : decode cX7_cellsUnlike 18 = .ok (.iconst 5, 1) := by decide +kernel
theorem dX7_cellsUnlike_19 : decode cX7_cellsUnlike 19 = .ok (.iload 4, 2) := by decide +kernel
theorem dX7_cellsUnlike_21 : decode cX7_cellsUnlike 21 = .ok (.iadd, 1) := by decide +kernel
theorem dX7_cellsUnlike_22 : decode cX7_cellsUnlike 22 = .ok (.invokestatic 32, 3) := by decide +kernel
theorem dX7_cellsUnlike_25 : decode cX7_cellsUnlike 25 = .ok (.iaload, 1) := by decide +kernel
theorem dX7_cellsUnlike_26 : decode cX7_cellsUnlike 26 = .ok (.aload_n 0, 1) := by decide +kernel
theorem dX7_cellsUnlike_27 : decode cX7_cellsUnlike 27 = .ok (.getfield 7, 3) := by decide +kernel
theorem dX7_cellsUnlike_30 : decode cX7_cellsUnlike 30 = .ok (.iload_n 2, 1) := by decide +kernel
theorem dX7_cellsUnlike_31 : decode cX7_cellsUnlike 31 = .ok (.iconst 5, 1) := by decide +kernel
theorem dX7_cellsUnlike_32 : decode cX7_cellsUnlike 32 = .ok (.iload 4, 2) := by decide +kernel
theorem dX7_cellsUnlike_34 : decode cX7_cellsUnlike 34 = .ok (.iadd, 1) := by decide +kernel
theorem dX7_cellsUnlike_35 : decode cX7_cellsUnlike 35 = .ok (.invokestatic 32, 3) := by decide +kernel
theorem dX7_cellsUnlike_38 : decode cX7_cellsUnlike 38 = .ok (.iaload, 1) := by decide +kernel
theorem dX7_cellsUnlike_39 : decode cX7_cellsUnlike 39 = .ok (.if_icmp .eq 10, 3) := by decide +kernel
theorem dX7_cellsUnlike_42 : decode cX7_cellsUnlike 42 = .ok (.iconst 1, 1) := by decide +kernel
theorem dX7_cellsUnlike_43 : decode cX7_cellsUnlike 43 = .ok (.iload 4, 2) := by decide +kernel
theorem dX7_cellsUnlike_45 : decode cX7_cellsUnlike 45 = .ok (.ishl, 1) := by decide +kernel
theorem dX7_cellsUnlike_46 : decode cX7_cellsUnlike 46 = .ok (.goto 4, 3) := by decide +kernel
theorem dX7_cellsUnlike_49 : decode cX7_cellsUnlike 49 = .ok (.iconst 0, 1) := by decide +kernel
theorem dX7_cellsUnlike_50 : decode cX7_cellsUnlike 50 = .ok (.ior, 1) := by decide +kernel
theorem dX7_cellsUnlike_51 : decode cX7_cellsUnlike 51 = .ok (.istore_n 3, 1) := by decide +kernel
theorem dX7_cellsUnlike_52 : decode cX7_cellsUnlike 52 = .ok (.iinc 4 1, 3) := by decide +kernel
theorem dX7_cellsUnlike_55 : decode cX7_cellsUnlike 55 = .ok (.goto (-50), 3) := by decide +kernel
theorem dX7_cellsUnlike_58 : decode cX7_cellsUnlike 58 = .ok (.iload_n 3, 1) := by decide +kernel
theorem dX7_cellsUnlike_59 : decode cX7_cellsUnlike 59 = .ok (.ireturn, 1) := by decide +kernel
theorem dX7_unlikeCells_0 : decode cX7_unlikeCells 0 = .ok (.iconst 0, 1) := by decide +kernel
theorem dX7_unlikeCells_1 : decode cX7_unlikeCells 1 = .ok (.istore_n 3, 1) := by decide +kernel
theorem dX7_unlikeCells_2 : decode cX7_unlikeCells 2 = .ok (.iconst 0, 1) := by decide +kernel
theorem dX7_unlikeCells_3 : decode cX7_unlikeCells 3 = .ok (.istore 4, 2) := by decide +kernel
theorem dX7_unlikeCells_5 : decode cX7_unlikeCells 5 = .ok (.iload 4, 2) := by decide +kernel
theorem dX7_unlikeCells_7 : decode cX7_unlikeCells 7 = .ok (.bipush 8, 2) := by decide +kernel
theorem dX7_unlikeCells_9 : decode cX7_unlikeCells 9 = .ok (.if_icmp .ge 46, 3) := by decide +kernel
theorem dX7_unlikeCells_12 : decode cX7_unlikeCells 12 = .ok (.iload_n 3, 1) := by decide +kernel
theorem dX7_unlikeCells_13 : decode cX7_unlikeCells 13 = .ok (.aload_n 0, 1) := by decide +kernel
theorem dX7_unlikeCells_14 : decode cX7_unlikeCells 14 = .ok (.getfield 7, 3) := by decide +kernel
theorem dX7_unlikeCells_17 : decode cX7_unlikeCells 17 = .ok (.iload_n 1, 1) := by decide +kernel
theorem dX7_unlikeCells_18 : decode cX7_unlikeCells 18 = .ok (.iconst 5, 1) := by decide +kernel
theorem dX7_unlikeCells_19 : decode cX7_unlikeCells 19 = .ok (.iload 4, 2) := by decide +kernel
theorem dX7_unlikeCells_21 : decode cX7_unlikeCells 21 = .ok (.iadd, 1) := by decide +kernel
theorem dX7_unlikeCells_22 : decode cX7_unlikeCells 22 = .ok (.invokestatic 32, 3) := by decide +kernel
theorem dX7_unlikeCells_25 : decode cX7_unlikeCells 25 = .ok (.iaload, 1) := by decide +kernel
theorem dX7_unlikeCells_26 : decode cX7_unlikeCells 26 = .ok (.aload_n 0, 1) := by decide +kernel
theorem dX7_unlikeCells_27 : decode cX7_unlikeCells 27 = .ok (.getfield 7, 3) := by decide +kernel
theorem dX7_unlikeCells_30 : decode cX7_unlikeCells 30 = .ok (.iload_n 2, 1) := by decide +kernel
theorem dX7_unlikeCells_31 : decode cX7_unlikeCells 31 = .ok (.iconst 5, 1) := by decide +kernel
theorem dX7_unlikeCells_32 : decode cX7_unlikeCells 32 = .ok (.iload 4, 2) := by decide +kernel
theorem dX7_unlikeCells_34 : decode cX7_unlikeCells 34 = .ok (.iadd, 1) := by decide +kernel
theorem dX7_unlikeCells_35 : decode cX7_unlikeCells 35 = .ok (.invokestatic 32, 3) := by decide +kernel
theorem dX7_unlikeCells_38 : decode cX7_unlikeCells 38 = .ok (.iaload, 1) := by decide +kernel
theorem dX7_unlikeCells_39 : decode cX7_unlikeCells 39 = .ok (.if_icmp .eq 7, 3) := by decide +kernel
theorem dX7_unlikeCells_42 : decode cX7_unlikeCells 42 = .ok (.iconst 1, 1) := by decide +kernel
theorem dX7_unlikeCells_43 : decode cX7_unlikeCells 43 = .ok (.goto 4, 3) := by decide +kernel
theorem dX7_unlikeCells_46 : decode cX7_unlikeCells 46 = .ok (.iconst 0, 1) := by decide +kernel
theorem dX7_unlikeCells_47 : decode cX7_unlikeCells 47 = .ok (.iadd, 1) := by decide +kernel
theorem dX7_unlikeCells_48 : decode cX7_unlikeCells 48 = .ok (.istore_n 3, 1) := by decide +kernel
theorem dX7_unlikeCells_49 : decode cX7_unlikeCells 49 = .ok (.iinc 4 1, 3) := by decide +kernel
theorem dX7_unlikeCells_52 : decode cX7_unlikeCells 52 = .ok (.goto (-47), 3) := by decide +kernel
theorem dX7_unlikeCells_55 : decode cX7_unlikeCells 55 = .ok (.iload_n 3, 1) := by decide +kernel
theorem dX7_unlikeCells_56 : decode cX7_unlikeCells 56 = .ok (.ireturn, 1) := by decide +kernel
theorem dX7_hangs_0 : decode cX7_hangs 0 = .ok (.iload_n 1, 1) := by decide +kernel
theorem dX7_hangs_1 : decode cX7_hangs 1 = .ok (.ifCond .le 21, 3) := by decide +kernel
theorem dX7_hangs_4 : decode cX7_hangs 4 = .ok (.aload_n 0, 1) := by decide +kernel
theorem dX7_hangs_5 : decode cX7_hangs 5 = .ok (.getfield 7, 3) := by decide +kernel
theorem dX7_hangs_8 : decode cX7_hangs 8 = .ok (.iload_n 1, 1) := by decide +kernel
theorem dX7_hangs_9 : decode cX7_hangs 9 = .ok (.iconst 2, 1) := by decide +kernel
theorem dX7_hangs_10 : decode cX7_hangs 10 = .ok (.invokestatic 32, 3) := by decide +kernel
theorem dX7_hangs_13 : decode cX7_hangs 13 = .ok (.iaload, 1) := by decide +kernel
theorem dX7_hangs_14 : decode cX7_hangs 14 = .ok (.iconst 1, 1) := by decide +kernel
theorem dX7_hangs_15 : decode cX7_hangs 15 = .ok (.if_icmp .ne 7, 3) := by decide +kernel
theorem dX7_hangs_18 : decode cX7_hangs 18 = .ok (.iconst 1, 1) := by decide +kernel
theorem dX7_hangs_19 : decode cX7_hangs 19 = .ok (.goto 4, 3) := by decide +kernel
theorem dX7_hangs_22 : decode cX7_hangs 22 = .ok (.iconst 0, 1) := by decide +kernel
theorem dX7_hangs_23 : decode cX7_hangs 23 = .ok (.ireturn, 1) := by decide +kernel
theorem dX7_top_0 : decode cX7_top 0 = .ok (.iload_n 1, 1) := by decide +kernel
theorem dX7_top_1 : decode cX7_top 1 = .ok (.istore_n 2, 1) := by decide +kernel
theorem dX7_top_2 : decode cX7_top 2 = .ok (.aload_n 0, 1) := by decide +kernel
theorem dX7_top_3 : decode cX7_top 3 = .ok (.iload_n 2, 1) := by decide +kernel
theorem dX7_top_4 : decode cX7_top 4 = .ok (.invokevirtual 43, 3) := by decide +kernel
theorem dX7_top_7 : decode cX7_top 7 = .ok (.ifCond .eq 17, 3) := by decide +kernel
theorem dX7_top_10 : decode cX7_top 10 = .ok (.aload_n 0, 1) := by decide +kernel
theorem dX7_top_11 : decode cX7_top 11 = .ok (.getfield 7, 3) := by decide +kernel
theorem dX7_top_14 : decode cX7_top 14 = .ok (.iload_n 2, 1) := by decide +kernel
theorem dX7_top_15 : decode cX7_top 15 = .ok (.iconst 1, 1) := by decide +kernel
theorem dX7_top_16 : decode cX7_top 16 = .ok (.invokestatic 32, 3) := by decide +kernel
theorem dX7_top_19 : decode cX7_top 19 = .ok (.iaload, 1) := by decide +kernel
theorem dX7_top_20 : decode cX7_top 20 = .ok (.istore_n 2, 1) := by decide +kernel
theorem dX7_top_21 : decode cX7_top 21 = .ok (.goto (-19), 3) := by decide +kernel
theorem dX7_top_24 : decode cX7_top 24 = .ok (.iload_n 2, 1) := by decide +kernel
theorem dX7_top_25 : decode cX7_top 25 = .ok (.ireturn, 1) := by decide +kernel
theorem dX7_rootOf_0 : decode cX7_rootOf 0 = .ok (.aload_n 0, 1) := by decide +kernel
theorem dX7_rootOf_1 : decode cX7_rootOf 1 = .ok (.iload_n 1, 1) := by decide +kernel
theorem dX7_rootOf_2 : decode cX7_rootOf 2 = .ok (.invokevirtual 47, 3) := by decide +kernel
theorem dX7_rootOf_5 : decode cX7_rootOf 5 = .ok (.istore_n 2, 1) := by decide +kernel
theorem dX7_rootOf_6 : decode cX7_rootOf 6 = .ok (.iconst 0, 1) := by decide +kernel
theorem dX7_rootOf_7 : decode cX7_rootOf 7 = .ok (.istore_n 3, 1) := by decide +kernel
theorem dX7_rootOf_8 : decode cX7_rootOf 8 = .ok (.iload_n 3, 1) := by decide +kernel
theorem dX7_rootOf_9 : decode cX7_rootOf 9 = .ok (.bipush 24, 2) := by decide +kernel
theorem dX7_rootOf_11 : decode cX7_rootOf 11 = .ok (.if_icmp .ge 48, 3) := by decide +kernel
theorem dX7_rootOf_14 : decode cX7_rootOf 14 = .ok (.aload_n 0, 1) := by decide +kernel
theorem dX7_rootOf_15 : decode cX7_rootOf 15 = .ok (.getfield 7, 3) := by decide +kernel
theorem dX7_rootOf_18 : decode cX7_rootOf 18 = .ok (.iload_n 3, 1) := by decide +kernel
theorem dX7_rootOf_19 : decode cX7_rootOf 19 = .ok (.iconst 0, 1) := by decide +kernel
theorem dX7_rootOf_20 : decode cX7_rootOf 20 = .ok (.invokestatic 32, 3) := by decide +kernel
theorem dX7_rootOf_23 : decode cX7_rootOf 23 = .ok (.iaload, 1) := by decide +kernel
theorem dX7_rootOf_24 : decode cX7_rootOf 24 = .ok (.iconst 1, 1) := by decide +kernel
theorem dX7_rootOf_25 : decode cX7_rootOf 25 = .ok (.if_icmp .ne 28, 3) := by decide +kernel
theorem dX7_rootOf_28 : decode cX7_rootOf 28 = .ok (.aload_n 0, 1) := by decide +kernel
theorem dX7_rootOf_29 : decode cX7_rootOf 29 = .ok (.getfield 7, 3) := by decide +kernel
theorem dX7_rootOf_32 : decode cX7_rootOf 32 = .ok (.iload_n 3, 1) := by decide +kernel
theorem dX7_rootOf_33 : decode cX7_rootOf 33 = .ok (.iconst 3, 1) := by decide +kernel
theorem dX7_rootOf_34 : decode cX7_rootOf 34 = .ok (.invokestatic 32, 3) := by decide +kernel
theorem dX7_rootOf_37 : decode cX7_rootOf 37 = .ok (.iaload, 1) := by decide +kernel
theorem dX7_rootOf_38 : decode cX7_rootOf 38 = .ok (.iconst 1, 1) := by decide +kernel
theorem dX7_rootOf_39 : decode cX7_rootOf 39 = .ok (.if_icmp .ne 14, 3) := by decide +kernel
theorem dX7_rootOf_42 : decode cX7_rootOf 42 = .ok (.aload_n 0, 1) := by decide +kernel
theorem dX7_rootOf_43 : decode cX7_rootOf 43 = .ok (.iload_n 3, 1) := by decide +kernel
theorem dX7_rootOf_44 : decode cX7_rootOf 44 = .ok (.invokevirtual 47, 3) := by decide +kernel
theorem dX7_rootOf_47 : decode cX7_rootOf 47 = .ok (.iload_n 2, 1) := by decide +kernel
theorem dX7_rootOf_48 : decode cX7_rootOf 48 = .ok (.if_icmp .ne 5, 3) := by decide +kernel
theorem dX7_rootOf_51 : decode cX7_rootOf 51 = .ok (.iload_n 3, 1) := by decide +kernel
theorem dX7_rootOf_52 : decode cX7_rootOf 52 = .ok (.ireturn, 1) := by decide +kernel
theorem dX7_rootOf_53 : decode cX7_rootOf 53 = .ok (.iinc 3 1, 3) := by decide +kernel
theorem dX7_rootOf_56 : decode cX7_rootOf 56 = .ok (.goto (-48), 3) := by decide +kernel
theorem dX7_rootOf_59 : decode cX7_rootOf 59 = .ok (.bipush (-5), 2) := by decide +kernel
theorem dX7_rootOf_61 : decode cX7_rootOf 61 = .ok (.ireturn, 1) := by decide +kernel
theorem dX7_comesOf_0 : decode cX7_comesOf 0 = .ok (.iload_n 1, 1) := by decide +kernel
theorem dX7_comesOf_1 : decode cX7_comesOf 1 = .ok (.istore_n 3, 1) := by decide +kernel
theorem dX7_comesOf_2 : decode cX7_comesOf 2 = .ok (.iload_n 3, 1) := by decide +kernel
theorem dX7_comesOf_3 : decode cX7_comesOf 3 = .ok (.iload_n 2, 1) := by decide +kernel
theorem dX7_comesOf_4 : decode cX7_comesOf 4 = .ok (.if_icmp .eq 25, 3) := by decide +kernel
theorem dX7_comesOf_7 : decode cX7_comesOf 7 = .ok (.aload_n 0, 1) := by decide +kernel
theorem dX7_comesOf_8 : decode cX7_comesOf 8 = .ok (.iload_n 3, 1) := by decide +kernel
theorem dX7_comesOf_9 : decode cX7_comesOf 9 = .ok (.invokevirtual 43, 3) := by decide +kernel
theorem dX7_comesOf_12 : decode cX7_comesOf 12 = .ok (.ifCond .eq 17, 3) := by decide +kernel
theorem dX7_comesOf_15 : decode cX7_comesOf 15 = .ok (.aload_n 0, 1) := by decide +kernel
theorem dX7_comesOf_16 : decode cX7_comesOf 16 = .ok (.getfield 7, 3) := by decide +kernel
theorem dX7_comesOf_19 : decode cX7_comesOf 19 = .ok (.iload_n 3, 1) := by decide +kernel
theorem dX7_comesOf_20 : decode cX7_comesOf 20 = .ok (.iconst 1, 1) := by decide +kernel
theorem dX7_comesOf_21 : decode cX7_comesOf 21 = .ok (.invokestatic 32, 3) := by decide +kernel
theorem dX7_comesOf_24 : decode cX7_comesOf 24 = .ok (.iaload, 1) := by decide +kernel
theorem dX7_comesOf_25 : decode cX7_comesOf 25 = .ok (.istore_n 3, 1) := by decide +kernel
theorem dX7_comesOf_26 : decode cX7_comesOf 26 = .ok (.goto (-24), 3) := by decide +kernel
theorem dX7_comesOf_29 : decode cX7_comesOf 29 = .ok (.iload_n 3, 1) := by decide +kernel
theorem dX7_comesOf_30 : decode cX7_comesOf 30 = .ok (.iload_n 2, 1) := by decide +kernel
theorem dX7_comesOf_31 : decode cX7_comesOf 31 = .ok (.if_icmp .ne 7, 3) := by decide +kernel
theorem dX7_comesOf_34 : decode cX7_comesOf 34 = .ok (.iconst 1, 1) := by decide +kernel
theorem dX7_comesOf_35 : decode cX7_comesOf 35 = .ok (.goto 4, 3) := by decide +kernel
theorem dX7_comesOf_38 : decode cX7_comesOf 38 = .ok (.iconst 0, 1) := by decide +kernel
theorem dX7_comesOf_39 : decode cX7_comesOf 39 = .ok (.ireturn, 1) := by decide +kernel
theorem dX7_layWay_0 : decode cX7_layWay 0 = .ok (.aload_n 0, 1) := by decide +kernel
theorem dX7_layWay_1 : decode cX7_layWay 1 = .ok (.getfield 29, 3) := by decide +kernel
theorem dX7_layWay_4 : decode cX7_layWay 4 = .ok (.iconst 0, 1) := by decide +kernel
theorem dX7_layWay_5 : decode cX7_layWay 5 = .ok (.iload_n 1, 1) := by decide +kernel
theorem dX7_layWay_6 : decode cX7_layWay 6 = .ok (.iastore, 1) := by decide +kernel
theorem dX7_layWay_7 : decode cX7_layWay 7 = .ok (.aload_n 0, 1) := by decide +kernel
theorem dX7_layWay_8 : decode cX7_layWay 8 = .ok (.iconst 0, 1) := by decide +kernel
theorem dX7_layWay_9 : decode cX7_layWay 9 = .ok (.putfield 51, 3) := by decide +kernel
theorem dX7_layWay_12 : decode cX7_layWay 12 = .ok (.aload_n 0, 1) := by decide +kernel
theorem dX7_layWay_13 : decode cX7_layWay 13 = .ok (.iload_n 2, 1) := by decide +kernel
theorem dX7_layWay_14 : decode cX7_layWay 14 = .ok (.aload_n 0, 1) := by decide +kernel
theorem dX7_layWay_15 : decode cX7_layWay 15 = .ok (.getfield 29, 3) := by decide +kernel
theorem dX7_layWay_18 : decode cX7_layWay 18 = .ok (.aload_n 0, 1) := by decide +kernel
theorem dX7_layWay_19 : decode cX7_layWay 19 = .ok (.getfield 51, 3) := by decide +kernel
theorem dX7_layWay_22 : decode cX7_layWay 22 = .ok (.iaload, 1) := by decide +kernel
theorem dX7_layWay_23 : decode cX7_layWay 23 = .ok (.invokevirtual 54, 3) := by decide +kernel
theorem dX7_layWay_26 : decode cX7_layWay 26 = .ok (.ifCond .ne 45, 3) := by decide +kernel
theorem dX7_layWay_29 : decode cX7_layWay 29 = .ok (.aload_n 0, 1) := by decide +kernel
theorem dX7_layWay_30 : decode cX7_layWay 30 = .ok (.getfield 29, 3) := by decide +kernel
theorem dX7_layWay_33 : decode cX7_layWay 33 = .ok (.aload_n 0, 1) := by decide +kernel
theorem dX7_layWay_34 : decode cX7_layWay 34 = .ok (.getfield 51, 3) := by decide +kernel
theorem dX7_layWay_37 : decode cX7_layWay 37 = .ok (.iconst 1, 1) := by decide +kernel
theorem dX7_layWay_38 : decode cX7_layWay 38 = .ok (.iadd, 1) := by decide +kernel
theorem dX7_layWay_39 : decode cX7_layWay 39 = .ok (.aload_n 0, 1) := by decide +kernel
theorem dX7_layWay_40 : decode cX7_layWay 40 = .ok (.getfield 7, 3) := by decide +kernel
theorem dX7_layWay_43 : decode cX7_layWay 43 = .ok (.aload_n 0, 1) := by decide +kernel
theorem dX7_layWay_44 : decode cX7_layWay 44 = .ok (.getfield 29, 3) := by decide +kernel
theorem dX7_layWay_47 : decode cX7_layWay 47 = .ok (.aload_n 0, 1) := by decide +kernel
theorem dX7_layWay_48 : decode cX7_layWay 48 = .ok (.getfield 51, 3) := by decide +kernel
theorem dX7_layWay_51 : decode cX7_layWay 51 = .ok (.iaload, 1) := by decide +kernel
theorem dX7_layWay_52 : decode cX7_layWay 52 = .ok (.iconst 1, 1) := by decide +kernel
theorem dX7_layWay_53 : decode cX7_layWay 53 = .ok (.invokestatic 32, 3) := by decide +kernel
theorem dX7_layWay_56 : decode cX7_layWay 56 = .ok (.iaload, 1) := by decide +kernel
theorem dX7_layWay_57 : decode cX7_layWay 57 = .ok (.iastore, 1) := by decide +kernel
theorem dX7_layWay_58 : decode cX7_layWay 58 = .ok (.aload_n 0, 1) := by decide +kernel
theorem dX7_layWay_59 : decode cX7_layWay 59 = .ok (.dup, 1) := by decide +kernel
theorem dX7_layWay_60 : decode cX7_layWay 60 = .ok (.getfield 51, 3) := by decide +kernel
theorem dX7_layWay_63 : decode cX7_layWay 63 = .ok (.iconst 1, 1) := by decide +kernel
theorem dX7_layWay_64 : decode cX7_layWay 64 = .ok (.iadd, 1) := by decide +kernel
theorem dX7_layWay_65 : decode cX7_layWay 65 = .ok (.putfield 51, 3) := by decide +kernel
theorem dX7_layWay_68 : decode cX7_layWay 68 = .ok (.goto (-56), 3) := by decide +kernel
theorem dX7_layWay_71 : decode cX7_layWay 71 = .ok (.aload_n 0, 1) := by decide +kernel
theorem dX7_layWay_72 : decode cX7_layWay 72 = .ok (.getfield 29, 3) := by decide +kernel
theorem dX7_layWay_75 : decode cX7_layWay 75 = .ok (.aload_n 0, 1) := by decide +kernel
theorem dX7_layWay_76 : decode cX7_layWay 76 = .ok (.getfield 51, 3) := by decide +kernel
theorem dX7_layWay_79 : decode cX7_layWay 79 = .ok (.iaload, 1) := by decide +kernel
theorem dX7_layWay_80 : decode cX7_layWay 80 = .ok (.istore_n 3, 1) := by decide +kernel
theorem dX7_layWay_81 : decode cX7_layWay 81 = .ok (.iconst 0, 1) := by decide +kernel
theorem dX7_layWay_82 : decode cX7_layWay 82 = .ok (.istore 4, 2) := by decide +kernel
theorem dX7_layWay_84 : decode cX7_layWay 84 = .ok (.iload_n 2, 1) := by decide +kernel
theorem dX7_layWay_85 : decode cX7_layWay 85 = .ok (.istore 5, 2) := by decide +kernel
theorem dX7_layWay_87 : decode cX7_layWay 87 = .ok (.iload 5, 2) := by decide +kernel
theorem dX7_layWay_89 : decode cX7_layWay 89 = .ok (.iload_n 3, 1) := by decide +kernel
theorem dX7_layWay_90 : decode cX7_layWay 90 = .ok (.if_icmp .eq 22, 3) := by decide +kernel
theorem dX7_layWay_93 : decode cX7_layWay 93 = .ok (.iinc 4 1, 3) := by decide +kernel
theorem dX7_layWay_96 : decode cX7_layWay 96 = .ok (.aload_n 0, 1) := by decide +kernel
theorem dX7_layWay_97 : decode cX7_layWay 97 = .ok (.getfield 7, 3) := by decide +kernel
theorem dX7_layWay_100 : decode cX7_layWay 100 = .ok (.iload 5, 2) := by decide +kernel
theorem dX7_layWay_102 : decode cX7_layWay 102 = .ok (.iconst 1, 1) := by decide +kernel
theorem dX7_layWay_103 : decode cX7_layWay 103 = .ok (.invokestatic 32, 3) := by decide +kernel
theorem dX7_layWay_106 : decode cX7_layWay 106 = .ok (.iaload, 1) := by decide +kernel
theorem dX7_layWay_107 : decode cX7_layWay 107 = .ok (.istore 5, 2) := by decide +kernel
theorem dX7_layWay_109 : decode cX7_layWay 109 = .ok (.goto (-22), 3) := by decide +kernel
theorem dX7_layWay_112 : decode cX7_layWay 112 = .ok (.aload_n 0, 1) := by decide +kernel
theorem dX7_layWay_113 : decode cX7_layWay 113 = .ok (.getfield 51, 3) := by decide +kernel
theorem dX7_layWay_116 : decode cX7_layWay 116 = .ok (.iload 4, 2) := by decide +kernel
theorem dX7_layWay_118 : decode cX7_layWay 118 = .ok (.iadd, 1) := by decide +kernel
theorem dX7_layWay_119 : decode cX7_layWay 119 = .ok (.istore 5, 2) := by decide +kernel
theorem dX7_layWay_121 : decode cX7_layWay 121 = .ok (.iload_n 2, 1) := by decide +kernel
theorem dX7_layWay_122 : decode cX7_layWay 122 = .ok (.istore 6, 2) := by decide +kernel
theorem dX7_layWay_124 : decode cX7_layWay 124 = .ok (.iload 6, 2) := by decide +kernel
theorem dX7_layWay_126 : decode cX7_layWay 126 = .ok (.iload_n 3, 1) := by decide +kernel
theorem dX7_layWay_127 : decode cX7_layWay 127 = .ok (.if_icmp .eq 31, 3) := by decide +kernel
theorem dX7_layWay_130 : decode cX7_layWay 130 = .ok (.aload_n 0, 1) := by decide +kernel
theorem dX7_layWay_131 : decode cX7_layWay 131 = .ok (.getfield 29, 3) := by decide +kernel
theorem dX7_layWay_134 : decode cX7_layWay 134 = .ok (.iload 5, 2) := by decide +kernel
theorem dX7_layWay_136 : decode cX7_layWay 136 = .ok (.iload 6, 2) := by decide +kernel
theorem dX7_layWay_138 : decode cX7_layWay 138 = .ok (.iastore, 1) := by decide +kernel
theorem dX7_layWay_139 : decode cX7_layWay 139 = .ok (.iinc 5 (-1), 3) := by decide +kernel
theorem dX7_layWay_142 : decode cX7_layWay 142 = .ok (.aload_n 0, 1) := by decide +kernel
theorem dX7_layWay_143 : decode cX7_layWay 143 = .ok (.getfield 7, 3) := by decide +kernel
theorem dX7_layWay_146 : decode cX7_layWay 146 = .ok (.iload 6, 2) := by decide +kernel
theorem dX7_layWay_148 : decode cX7_layWay 148 = .ok (.iconst 1, 1) := by decide +kernel
theorem dX7_layWay_149 : decode cX7_layWay 149 = .ok (.invokestatic 32, 3) := by decide +kernel
theorem dX7_layWay_152 : decode cX7_layWay 152 = .ok (.iaload, 1) := by decide +kernel
theorem dX7_layWay_153 : decode cX7_layWay 153 = .ok (.istore 6, 2) := by decide +kernel
theorem dX7_layWay_155 : decode cX7_layWay 155 = .ok (.goto (-31), 3) := by decide +kernel
theorem dX7_layWay_158 : decode cX7_layWay 158 = .ok (.aload_n 0, 1) := by decide +kernel
theorem dX7_layWay_159 : decode cX7_layWay 159 = .ok (.dup, 1) := by decide +kernel
theorem dX7_layWay_160 : decode cX7_layWay 160 = .ok (.getfield 51, 3) := by decide +kernel
theorem dX7_layWay_163 : decode cX7_layWay 163 = .ok (.iload 4, 2) := by decide +kernel
theorem dX7_layWay_165 : decode cX7_layWay 165 = .ok (.iadd, 1) := by decide +kernel
theorem dX7_layWay_166 : decode cX7_layWay 166 = .ok (.putfield 51, 3) := by decide +kernel
theorem dX7_layWay_169 : decode cX7_layWay 169 = .ok (.aload_n 0, 1) := by decide +kernel
theorem dX7_layWay_170 : decode cX7_layWay 170 = .ok (.iconst 0, 1) := by decide +kernel
theorem dX7_layWay_171 : decode cX7_layWay 171 = .ok (.putfield 58, 3) := by decide +kernel
theorem dX7_layWay_174 : decode cX7_layWay 174 = .ok (.iconst 0, 1) := by decide +kernel
theorem dX7_layWay_175 : decode cX7_layWay 175 = .ok (.istore 6, 2) := by decide +kernel
theorem dX7_layWay_177 : decode cX7_layWay 177 = .ok (.iload 6, 2) := by decide +kernel
theorem dX7_layWay_179 : decode cX7_layWay 179 = .ok (.aload_n 0, 1) := by decide +kernel
theorem dX7_layWay_180 : decode cX7_layWay 180 = .ok (.getfield 51, 3) := by decide +kernel
theorem dX7_layWay_183 : decode cX7_layWay 183 = .ok (.if_icmp .ge 38, 3) := by decide +kernel
theorem dX7_layWay_186 : decode cX7_layWay 186 = .ok (.aload_n 0, 1) := by decide +kernel
theorem dX7_layWay_187 : decode cX7_layWay 187 = .ok (.dup, 1) := by decide +kernel
theorem dX7_layWay_188 : decode cX7_layWay 188 = .ok (.getfield 58, 3) := by decide +kernel
theorem dX7_layWay_191 : decode cX7_layWay 191 = .ok (.aload_n 0, 1) := by decide +kernel
theorem dX7_layWay_192 : decode cX7_layWay 192 = .ok (.aload_n 0, 1) := by decide +kernel
theorem dX7_layWay_193 : decode cX7_layWay 193 = .ok (.getfield 29, 3) := by decide +kernel
theorem dX7_layWay_196 : decode cX7_layWay 196 = .ok (.iload 6, 2) := by decide +kernel
theorem dX7_layWay_198 : decode cX7_layWay 198 = .ok (.iaload, 1) := by decide +kernel
theorem dX7_layWay_199 : decode cX7_layWay 199 = .ok (.aload_n 0, 1) := by decide +kernel
theorem dX7_layWay_200 : decode cX7_layWay 200 = .ok (.getfield 29, 3) := by decide +kernel
theorem dX7_layWay_203 : decode cX7_layWay 203 = .ok (.iload 6, 2) := by decide +kernel
theorem dX7_layWay_205 : decode cX7_layWay 205 = .ok (.iconst 1, 1) := by decide +kernel
theorem dX7_layWay_206 : decode cX7_layWay 206 = .ok (.iadd, 1) := by decide +kernel
theorem dX7_layWay_207 : decode cX7_layWay 207 = .ok (.iaload, 1) := by decide +kernel
theorem dX7_layWay_208 : decode cX7_layWay 208 = .ok (.invokevirtual 61, 3) := by decide +kernel
theorem dX7_layWay_211 : decode cX7_layWay 211 = .ok (.iadd, 1) := by decide +kernel
theorem dX7_layWay_212 : decode cX7_layWay 212 = .ok (.putfield 58, 3) := by decide +kernel
theorem dX7_layWay_215 : decode cX7_layWay 215 = .ok (.iinc 6 1, 3) := by decide +kernel
theorem dX7_layWay_218 : decode cX7_layWay 218 = .ok (.goto (-41), 3) := by decide +kernel
theorem dX7_layWay_221 : decode cX7_layWay 221 = .ok (.return_, 1) := by decide +kernel
theorem dX7_cellsBetween_0 : decode cX7_cellsBetween 0 = .ok (.aload_n 0, 1) := by decide +kernel
theorem dX7_cellsBetween_1 : decode cX7_cellsBetween 1 = .ok (.iload_n 1, 1) := by decide +kernel
theorem dX7_cellsBetween_2 : decode cX7_cellsBetween 2 = .ok (.iload_n 2, 1) := by decide +kernel
theorem dX7_cellsBetween_3 : decode cX7_cellsBetween 3 = .ok (.invokevirtual 64, 3) := by decide +kernel
theorem dX7_cellsBetween_6 : decode cX7_cellsBetween 6 = .ok (.aload_n 0, 1) := by decide +kernel
theorem dX7_cellsBetween_7 : decode cX7_cellsBetween 7 = .ok (.getfield 58, 3) := by decide +kernel
theorem dX7_cellsBetween_10 : decode cX7_cellsBetween 10 = .ok (.ireturn, 1) := by decide +kernel
theorem dX7_versions_0 : decode cX7_versions 0 = .ok (.iconst 0, 1) := by decide +kernel
theorem dX7_versions_1 : decode cX7_versions 1 = .ok (.istore_n 2, 1) := by decide +kernel
theorem dX7_versions_2 : decode cX7_versions 2 = .ok (.iconst 0, 1) := by decide +kernel
theorem dX7_versions_3 : decode cX7_versions 3 = .ok (.istore_n 3, 1) := by decide +kernel
theorem dX7_versions_4 : decode cX7_versions 4 = .ok (.iload_n 3, 1) := by decide +kernel
theorem dX7_versions_5 : decode cX7_versions 5 = .ok (.bipush 24, 2) := by decide +kernel
theorem dX7_versions_7 : decode cX7_versions 7 = .ok (.if_icmp .ge 107, 3) := by decide +kernel
theorem dX7_versions_10 : decode cX7_versions 10 = .ok (.iload_n 1, 1) := by decide +kernel
theorem dX7_versions_11 : decode cX7_versions 11 = .ok (.ifCond .eq 63, 3) := by decide +kernel
theorem dX7_versions_14 : decode cX7_versions 14 = .ok (.iload_n 1, 1) := by decide +kernel
theorem dX7_versions_15 : decode cX7_versions 15 = .ok (.iconst 1, 1) := by decide +kernel
theorem dX7_versions_16 : decode cX7_versions 16 = .ok (.if_icmp .ne 20, 3) := by decide +kernel
theorem dX7_versions_19 : decode cX7_versions 19 = .ok (.aload_n 0, 1) := by decide +kernel
theorem dX7_versions_20 : decode cX7_versions 20 = .ok (.getfield 7, 3) := by decide +kernel
theorem dX7_versions_23 : decode cX7_versions 23 = .ok (.iload_n 3, 1) := by decide +kernel
theorem dX7_versions_24 : decode cX7_versions 24 = .ok (.iconst 3, 1) := by decide +kernel
theorem dX7_versions_25 : decode cX7_versions 25 = .ok (.invokestatic 32, 3) := by decide +kernel
theorem dX7_versions_28 : decode cX7_versions 28 = .ok (.iaload, 1) := by decide +kernel
theorem dX7_versions_29 : decode cX7_versions 29 = .ok (.iconst 1, 1) := by decide +kernel
theorem dX7_versions_30 : decode cX7_versions 30 = .ok (.if_icmp .ne 48, 3) := by decide +kernel
theorem dX7_versions_33 : decode cX7_versions 33 = .ok (.goto 41, 3) := by decide +kernel
theorem dX7_versions_36 : decode cX7_versions 36 = .ok (.iload_n 1, 1) := by decide +kernel
theorem dX7_versions_37 : decode cX7_versions 37 = .ok (.iconst 5, 1) := by decide +kernel
theorem dX7_versions_38 : decode cX7_versions 38 = .ok (.if_icmp .ne 19, 3) := by decide +kernel
theorem dX7_versions_41 : decode cX7_versions 41 = .ok (.aload_n 0, 1) := by decide +kernel
theorem dX7_versions_42 : decode cX7_versions 42 = .ok (.getfield 7, 3) := by decide +kernel
theorem dX7_versions_45 : decode cX7_versions 45 = .ok (.iload_n 3, 1) := by decide +kernel
theorem dX7_versions_46 : decode cX7_versions 46 = .ok (.iconst 4, 1) := by decide +kernel
theorem dX7_versions_47 : decode cX7_versions 47 = .ok (.invokestatic 32, 3) := by decide +kernel
theorem dX7_versions_50 : decode cX7_versions 50 = .ok (.iaload, 1) := by decide +kernel
theorem dX7_versions_51 : decode cX7_versions 51 = .ok (.ifCond .ne 27, 3) := by decide +kernel
theorem dX7_versions_54 : decode cX7_versions 54 = .ok (.goto 20, 3) := by decide +kernel
theorem dX7_versions_57 : decode cX7_versions 57 = .ok (.iload_n 3, 1) := by decide +kernel
theorem dX7_versions_58 : decode cX7_versions 58 = .ok (.ifCond .le 20, 3) := by decide +kernel
theorem dX7_versions_61 : decode cX7_versions 61 = .ok (.aload_n 0, 1) := by decide +kernel
theorem dX7_versions_62 : decode cX7_versions 62 = .ok (.getfield 7, 3) := by decide +kernel
theorem dX7_versions_65 : decode cX7_versions 65 = .ok (.iload_n 3, 1) := by decide +kernel
theorem dX7_versions_66 : decode cX7_versions 66 = .ok (.iconst 2, 1) := by decide +kernel
theorem dX7_versions_67 : decode cX7_versions 67 = .ok (.invokestatic 32, 3) := by decide +kernel
theorem dX7_versions_70 : decode cX7_versions 70 = .ok (.iaload, 1) := by decide +kernel
theorem dX7_versions_71 : decode cX7_versions 71 = .ok (.ifCond .ne 7, 3) := by decide +kernel
theorem dX7_versions_74 : decode cX7_versions 74 = .ok (.iconst 1, 1) := by decide +kernel
theorem dX7_versions_75 : decode cX7_versions 75 = .ok (.goto 4, 3) := by decide +kernel
theorem dX7_versions_78 : decode cX7_versions 78 = .ok (.iconst 0, 1) := by decide +kernel
theorem dX7_versions_79 : decode cX7_versions 79 = .ok (.istore 4, 2) := by decide +kernel
theorem dX7_versions_81 : decode cX7_versions 81 = .ok (.iload_n 2, 1) := by decide +kernel
theorem dX7_versions_82 : decode cX7_versions 82 = .ok (.aload_n 0, 1) := by decide +kernel
theorem dX7_versions_83 : decode cX7_versions 83 = .ok (.getfield 7, 3) := by decide +kernel
theorem dX7_versions_86 : decode cX7_versions 86 = .ok (.iload_n 3, 1) := by decide +kernel
theorem dX7_versions_87 : decode cX7_versions 87 = .ok (.iconst 0, 1) := by decide +kernel
theorem dX7_versions_88 : decode cX7_versions 88 = .ok (.invokestatic 32, 3) := by decide +kernel
theorem dX7_versions_91 : decode cX7_versions 91 = .ok (.iaload, 1) := by decide +kernel
theorem dX7_versions_92 : decode cX7_versions 92 = .ok (.iconst 1, 1) := by decide +kernel
theorem dX7_versions_93 : decode cX7_versions 93 = .ok (.if_icmp .ne 12, 3) := by decide +kernel
theorem dX7_versions_96 : decode cX7_versions 96 = .ok (.iload 4, 2) := by decide +kernel
theorem dX7_versions_98 : decode cX7_versions 98 = .ok (.ifCond .eq 7, 3) := by decide +kernel
theorem dX7_versions_101 : decode cX7_versions 101 = .ok (.iconst 1, 1) := by decide +kernel
theorem dX7_versions_102 : decode cX7_versions 102 = .ok (.goto 4, 3) := by decide +kernel
theorem dX7_versions_105 : decode cX7_versions 105 = .ok (.iconst 0, 1) := by decide +kernel
theorem dX7_versions_106 : decode cX7_versions 106 = .ok (.iadd, 1) := by decide +kernel
theorem dX7_versions_107 : decode cX7_versions 107 = .ok (.istore_n 2, 1) := by decide +kernel
theorem dX7_versions_108 : decode cX7_versions 108 = .ok (.iinc 3 1, 3) := by decide +kernel
theorem dX7_versions_111 : decode cX7_versions 111 = .ok (.goto (-107), 3) := by decide +kernel
theorem dX7_versions_114 : decode cX7_versions 114 = .ok (.iload_n 2, 1) := by decide +kernel
theorem dX7_versions_115 : decode cX7_versions 115 = .ok (.ireturn, 1) := by decide +kernel
theorem dX7_madeOf_0 : decode cX7_madeOf 0 = .ok (.iconst 0, 1) := by decide +kernel
theorem dX7_madeOf_1 : decode cX7_madeOf 1 = .ok (.istore_n 2, 1) := by decide +kernel
theorem dX7_madeOf_2 : decode cX7_madeOf 2 = .ok (.iconst 1, 1) := by decide +kernel
theorem dX7_madeOf_3 : decode cX7_madeOf 3 = .ok (.istore_n 3, 1) := by decide +kernel
theorem dX7_madeOf_4 : decode cX7_madeOf 4 = .ok (.iload_n 3, 1) := by decide +kernel
theorem dX7_madeOf_5 : decode cX7_madeOf 5 = .ok (.bipush 24, 2) := by decide +kernel
theorem dX7_madeOf_7 : decode cX7_madeOf 7 = .ok (.if_icmp .ge 45, 3) := by decide +kernel
theorem dX7_madeOf_10 : decode cX7_madeOf 10 = .ok (.iload_n 2, 1) := by decide +kernel
theorem dX7_madeOf_11 : decode cX7_madeOf 11 = .ok (.aload_n 0, 1) := by decide +kernel
theorem dX7_madeOf_12 : decode cX7_madeOf 12 = .ok (.getfield 7, 3) := by decide +kernel
theorem dX7_madeOf_15 : decode cX7_madeOf 15 = .ok (.iload_n 3, 1) := by decide +kernel
theorem dX7_madeOf_16 : decode cX7_madeOf 16 = .ok (.iconst 0, 1) := by decide +kernel
theorem dX7_madeOf_17 : decode cX7_madeOf 17 = .ok (.invokestatic 32, 3) := by decide +kernel
theorem dX7_madeOf_20 : decode cX7_madeOf 20 = .ok (.iaload, 1) := by decide +kernel
theorem dX7_madeOf_21 : decode cX7_madeOf 21 = .ok (.iconst 1, 1) := by decide +kernel
theorem dX7_madeOf_22 : decode cX7_madeOf 22 = .ok (.if_icmp .ne 21, 3) := by decide +kernel
theorem dX7_madeOf_25 : decode cX7_madeOf 25 = .ok (.aload_n 0, 1) := by decide +kernel
theorem dX7_madeOf_26 : decode cX7_madeOf 26 = .ok (.getfield 7, 3) := by decide +kernel
theorem dX7_madeOf_29 : decode cX7_madeOf 29 = .ok (.iload_n 3, 1) := by decide +kernel
theorem dX7_madeOf_30 : decode cX7_madeOf 30 = .ok (.iconst 1, 1) := by decide +kernel
theorem dX7_madeOf_31 : decode cX7_madeOf 31 = .ok (.invokestatic 32, 3) := by decide +kernel
theorem dX7_madeOf_34 : decode cX7_madeOf 34 = .ok (.iaload, 1) := by decide +kernel
theorem dX7_madeOf_35 : decode cX7_madeOf 35 = .ok (.iload_n 1, 1) := by decide +kernel
theorem dX7_madeOf_36 : decode cX7_madeOf 36 = .ok (.if_icmp .ne 7, 3) := by decide +kernel
theorem dX7_madeOf_39 : decode cX7_madeOf 39 = .ok (.iconst 1, 1) := by decide +kernel
theorem dX7_madeOf_40 : decode cX7_madeOf 40 = .ok (.goto 4, 3) := by decide +kernel
theorem dX7_madeOf_43 : decode cX7_madeOf 43 = .ok (.iconst 0, 1) := by decide +kernel
theorem dX7_madeOf_44 : decode cX7_madeOf 44 = .ok (.iadd, 1) := by decide +kernel
theorem dX7_madeOf_45 : decode cX7_madeOf 45 = .ok (.istore_n 2, 1) := by decide +kernel
theorem dX7_madeOf_46 : decode cX7_madeOf 46 = .ok (.iinc 3 1, 3) := by decide +kernel
theorem dX7_madeOf_49 : decode cX7_madeOf 49 = .ok (.goto (-45), 3) := by decide +kernel
theorem dX7_madeOf_52 : decode cX7_madeOf 52 = .ok (.iload_n 2, 1) := by decide +kernel
theorem dX7_madeOf_53 : decode cX7_madeOf 53 = .ok (.ireturn, 1) := by decide +kernel
theorem dX7_size_0 : decode cX7_size 0 = .ok (.aload_n 0, 1) := by decide +kernel
theorem dX7_size_1 : decode cX7_size 1 = .ok (.iload_n 1, 1) := by decide +kernel
theorem dX7_size_2 : decode cX7_size 2 = .ok (.invokevirtual 47, 3) := by decide +kernel
theorem dX7_size_5 : decode cX7_size 5 = .ok (.istore_n 2, 1) := by decide +kernel
theorem dX7_size_6 : decode cX7_size 6 = .ok (.iconst 0, 1) := by decide +kernel
theorem dX7_size_7 : decode cX7_size 7 = .ok (.istore_n 3, 1) := by decide +kernel
theorem dX7_size_8 : decode cX7_size 8 = .ok (.iconst 0, 1) := by decide +kernel
theorem dX7_size_9 : decode cX7_size 9 = .ok (.istore 4, 2) := by decide +kernel
theorem dX7_size_11 : decode cX7_size 11 = .ok (.iload 4, 2) := by decide +kernel
theorem dX7_size_13 : decode cX7_size 13 = .ok (.bipush 24, 2) := by decide +kernel
theorem dX7_size_15 : decode cX7_size 15 = .ok (.if_icmp .ge 42, 3) := by decide +kernel
theorem dX7_size_18 : decode cX7_size 18 = .ok (.iload_n 3, 1) := by decide +kernel
theorem dX7_size_19 : decode cX7_size 19 = .ok (.aload_n 0, 1) := by decide +kernel
theorem dX7_size_20 : decode cX7_size 20 = .ok (.getfield 7, 3) := by decide +kernel
theorem dX7_size_23 : decode cX7_size 23 = .ok (.iload 4, 2) := by decide +kernel
theorem dX7_size_25 : decode cX7_size 25 = .ok (.iconst 0, 1) := by decide +kernel
theorem dX7_size_26 : decode cX7_size 26 = .ok (.invokestatic 32, 3) := by decide +kernel
theorem dX7_size_29 : decode cX7_size 29 = .ok (.iaload, 1) := by decide +kernel
theorem dX7_size_30 : decode cX7_size 30 = .ok (.iconst 1, 1) := by decide +kernel
theorem dX7_size_31 : decode cX7_size 31 = .ok (.if_icmp .ne 17, 3) := by decide +kernel
theorem dX7_size_34 : decode cX7_size 34 = .ok (.aload_n 0, 1) := by decide +kernel
theorem dX7_size_35 : decode cX7_size 35 = .ok (.iload 4, 2) := by decide +kernel
theorem dX7_size_37 : decode cX7_size 37 = .ok (.invokevirtual 47, 3) := by decide +kernel
theorem dX7_size_40 : decode cX7_size 40 = .ok (.iload_n 2, 1) := by decide +kernel
theorem dX7_size_41 : decode cX7_size 41 = .ok (.if_icmp .ne 7, 3) := by decide +kernel
theorem dX7_size_44 : decode cX7_size 44 = .ok (.iconst 1, 1) := by decide +kernel
theorem dX7_size_45 : decode cX7_size 45 = .ok (.goto 4, 3) := by decide +kernel
theorem dX7_size_48 : decode cX7_size 48 = .ok (.iconst 0, 1) := by decide +kernel
theorem dX7_size_49 : decode cX7_size 49 = .ok (.iadd, 1) := by decide +kernel
theorem dX7_size_50 : decode cX7_size 50 = .ok (.istore_n 3, 1) := by decide +kernel
theorem dX7_size_51 : decode cX7_size 51 = .ok (.iinc 4 1, 3) := by decide +kernel
theorem dX7_size_54 : decode cX7_size 54 = .ok (.goto (-43), 3) := by decide +kernel
theorem dX7_size_57 : decode cX7_size 57 = .ok (.iload_n 3, 1) := by decide +kernel
theorem dX7_size_58 : decode cX7_size 58 = .ok (.ireturn, 1) := by decide +kernel
theorem dX7_room_0 : decode cX7_room 0 = .ok (.iconst 0, 1) := by decide +kernel
theorem dX7_room_1 : decode cX7_room 1 = .ok (.istore_n 1, 1) := by decide +kernel
theorem dX7_room_2 : decode cX7_room 2 = .ok (.iconst 0, 1) := by decide +kernel
theorem dX7_room_3 : decode cX7_room 3 = .ok (.istore_n 2, 1) := by decide +kernel
theorem dX7_room_4 : decode cX7_room 4 = .ok (.iload_n 2, 1) := by decide +kernel
theorem dX7_room_5 : decode cX7_room 5 = .ok (.bipush 24, 2) := by decide +kernel
theorem dX7_room_7 : decode cX7_room 7 = .ok (.if_icmp .ge 94, 3) := by decide +kernel
theorem dX7_room_10 : decode cX7_room 10 = .ok (.iload_n 1, 1) := by decide +kernel
theorem dX7_room_11 : decode cX7_room 11 = .ok (.aload_n 0, 1) := by decide +kernel
theorem dX7_room_12 : decode cX7_room 12 = .ok (.getfield 7, 3) := by decide +kernel
theorem dX7_room_15 : decode cX7_room 15 = .ok (.iload_n 2, 1) := by decide +kernel
theorem dX7_room_16 : decode cX7_room 16 = .ok (.iconst 0, 1) := by decide +kernel
theorem dX7_room_17 : decode cX7_room 17 = .ok (.invokestatic 32, 3) := by decide +kernel
theorem dX7_room_20 : decode cX7_room 20 = .ok (.iaload, 1) := by decide +kernel
theorem dX7_room_21 : decode cX7_room 21 = .ok (.iconst 1, 1) := by decide +kernel
theorem dX7_room_22 : decode cX7_room 22 = .ok (.if_icmp .ne 22, 3) := by decide +kernel
theorem dX7_room_25 : decode cX7_room 25 = .ok (.aload_n 0, 1) := by decide +kernel
theorem dX7_room_26 : decode cX7_room 26 = .ok (.getfield 7, 3) := by decide +kernel
theorem dX7_room_29 : decode cX7_room 29 = .ok (.iload_n 2, 1) := by decide +kernel
theorem dX7_room_30 : decode cX7_room 30 = .ok (.iconst 3, 1) := by decide +kernel
theorem dX7_room_31 : decode cX7_room 31 = .ok (.invokestatic 32, 3) := by decide +kernel
theorem dX7_room_34 : decode cX7_room 34 = .ok (.iaload, 1) := by decide +kernel
theorem dX7_room_35 : decode cX7_room 35 = .ok (.iconst 1, 1) := by decide +kernel
theorem dX7_room_36 : decode cX7_room 36 = .ok (.if_icmp .ne 8, 3) := by decide +kernel
theorem dX7_room_39 : decode cX7_room 39 = .ok (.bipush 8, 2) := by decide +kernel
theorem dX7_room_41 : decode cX7_room 41 = .ok (.goto 4, 3) := by decide +kernel
theorem dX7_room_44 : decode cX7_room 44 = .ok (.iconst 0, 1) := by decide +kernel
theorem dX7_room_45 : decode cX7_room 45 = .ok (.iadd, 1) := by decide +kernel
theorem dX7_room_46 : decode cX7_room 46 = .ok (.istore_n 1, 1) := by decide +kernel
theorem dX7_room_47 : decode cX7_room 47 = .ok (.iload_n 1, 1) := by decide +kernel
theorem dX7_room_48 : decode cX7_room 48 = .ok (.aload_n 0, 1) := by decide +kernel
theorem dX7_room_49 : decode cX7_room 49 = .ok (.getfield 7, 3) := by decide +kernel
theorem dX7_room_52 : decode cX7_room 52 = .ok (.iload_n 2, 1) := by decide +kernel
theorem dX7_room_53 : decode cX7_room 53 = .ok (.iconst 0, 1) := by decide +kernel
theorem dX7_room_54 : decode cX7_room 54 = .ok (.invokestatic 32, 3) := by decide +kernel
theorem dX7_room_57 : decode cX7_room 57 = .ok (.iaload, 1) := by decide +kernel
theorem dX7_room_58 : decode cX7_room 58 = .ok (.iconst 1, 1) := by decide +kernel
theorem dX7_room_59 : decode cX7_room 59 = .ok (.if_icmp .ne 33, 3) := by decide +kernel
theorem dX7_room_62 : decode cX7_room 62 = .ok (.aload_n 0, 1) := by decide +kernel
theorem dX7_room_63 : decode cX7_room 63 = .ok (.iload_n 2, 1) := by decide +kernel
theorem dX7_room_64 : decode cX7_room 64 = .ok (.invokevirtual 43, 3) := by decide +kernel
theorem dX7_room_67 : decode cX7_room 67 = .ok (.ifCond .eq 25, 3) := by decide +kernel
theorem dX7_room_70 : decode cX7_room 70 = .ok (.iconst 1, 1) := by decide +kernel
theorem dX7_room_71 : decode cX7_room 71 = .ok (.iconst 2, 1) := by decide +kernel
theorem dX7_room_72 : decode cX7_room 72 = .ok (.aload_n 0, 1) := by decide +kernel
theorem dX7_room_73 : decode cX7_room 73 = .ok (.iload_n 2, 1) := by decide +kernel
theorem dX7_room_74 : decode cX7_room 74 = .ok (.aload_n 0, 1) := by decide +kernel
theorem dX7_room_75 : decode cX7_room 75 = .ok (.getfield 7, 3) := by decide +kernel
theorem dX7_room_78 : decode cX7_room 78 = .ok (.iload_n 2, 1) := by decide +kernel
theorem dX7_room_79 : decode cX7_room 79 = .ok (.iconst 1, 1) := by decide +kernel
theorem dX7_room_80 : decode cX7_room 80 = .ok (.invokestatic 32, 3) := by decide +kernel
theorem dX7_room_83 : decode cX7_room 83 = .ok (.iaload, 1) := by decide +kernel
theorem dX7_room_84 : decode cX7_room 84 = .ok (.invokevirtual 61, 3) := by decide +kernel
theorem dX7_room_87 : decode cX7_room 87 = .ok (.imul, 1) := by decide +kernel
theorem dX7_room_88 : decode cX7_room 88 = .ok (.iadd, 1) := by decide +kernel
theorem dX7_room_89 : decode cX7_room 89 = .ok (.goto 4, 3) := by decide +kernel
theorem dX7_room_92 : decode cX7_room 92 = .ok (.iconst 0, 1) := by decide +kernel
theorem dX7_room_93 : decode cX7_room 93 = .ok (.iadd, 1) := by decide +kernel
theorem dX7_room_94 : decode cX7_room 94 = .ok (.istore_n 1, 1) := by decide +kernel
theorem dX7_room_95 : decode cX7_room 95 = .ok (.iinc 2 1, 3) := by decide +kernel
theorem dX7_room_98 : decode cX7_room 98 = .ok (.goto (-94), 3) := by decide +kernel
theorem dX7_room_101 : decode cX7_room 101 = .ok (.iload_n 1, 1) := by decide +kernel
theorem dX7_room_102 : decode cX7_room 102 = .ok (.ireturn, 1) := by decide +kernel
theorem dX7_free_0 : decode cX7_free 0 = .ok (.iconst 0, 1) := by decide +kernel
theorem dX7_free_1 : decode cX7_free 1 = .ok (.istore_n 1, 1) := by decide +kernel
theorem dX7_free_2 : decode cX7_free 2 = .ok (.iload_n 1, 1) := by decide +kernel
theorem dX7_free_3 : decode cX7_free 3 = .ok (.bipush 24, 2) := by decide +kernel
theorem dX7_free_5 : decode cX7_free 5 = .ok (.if_icmp .ge 24, 3) := by decide +kernel
theorem dX7_free_8 : decode cX7_free 8 = .ok (.aload_n 0, 1) := by decide +kernel
theorem dX7_free_9 : decode cX7_free 9 = .ok (.getfield 7, 3) := by decide +kernel
theorem dX7_free_12 : decode cX7_free 12 = .ok (.iload_n 1, 1) := by decide +kernel
theorem dX7_free_13 : decode cX7_free 13 = .ok (.iconst 0, 1) := by decide +kernel
theorem dX7_free_14 : decode cX7_free 14 = .ok (.invokestatic 32, 3) := by decide +kernel
theorem dX7_free_17 : decode cX7_free 17 = .ok (.iaload, 1) := by decide +kernel
theorem dX7_free_18 : decode cX7_free 18 = .ok (.ifCond .ne 5, 3) := by decide +kernel
theorem dX7_free_21 : decode cX7_free 21 = .ok (.iload_n 1, 1) := by decide +kernel
theorem dX7_free_22 : decode cX7_free 22 = .ok (.ireturn, 1) := by decide +kernel
theorem dX7_free_23 : decode cX7_free 23 = .ok (.iinc 1 1, 3) := by decide +kernel
theorem dX7_free_26 : decode cX7_free 26 = .ok (.goto (-24), 3) := by decide +kernel
theorem dX7_free_29 : decode cX7_free 29 = .ok (.bipush (-5), 2) := by decide +kernel
theorem dX7_free_31 : decode cX7_free 31 = .ok (.ireturn, 1) := by decide +kernel
theorem dX7_comes_0 : decode cX7_comes 0 = .ok (.aload_n 0, 1) := by decide +kernel
theorem dX7_comes_1 : decode cX7_comes 1 = .ok (.invokevirtual 68, 3) := by decide +kernel
theorem dX7_comes_4 : decode cX7_comes 4 = .ok (.istore_n 2, 1) := by decide +kernel
theorem dX7_comes_5 : decode cX7_comes 5 = .ok (.iconst 0, 1) := by decide +kernel
theorem dX7_comes_6 : decode cX7_comes 6 = .ok (.istore_n 3, 1) := by decide +kernel
theorem dX7_comes_7 : decode cX7_comes 7 = .ok (.iload_n 3, 1) := by decide +kernel
theorem dX7_comes_8 : decode cX7_comes 8 = .ok (.bipush 13, 2) := by decide +kernel
theorem dX7_comes_10 : decode cX7_comes 10 = .ok (.if_icmp .ge 38, 3) := by decide +kernel
theorem dX7_comes_13 : decode cX7_comes 13 = .ok (.aload_n 0, 1) := by decide +kernel
theorem dX7_comes_14 : decode cX7_comes 14 = .ok (.getfield 7, 3) := by decide +kernel
theorem dX7_comes_17 : decode cX7_comes 17 = .ok (.iload_n 2, 1) := by decide +kernel
theorem dX7_comes_18 : decode cX7_comes 18 = .ok (.iload_n 3, 1) := by decide +kernel
theorem dX7_comes_19 : decode cX7_comes 19 = .ok (.invokestatic 32, 3) := by decide +kernel
theorem dX7_comes_22 : decode cX7_comes 22 = .ok (.iload_n 3, 1) := by decide +kernel
theorem dX7_comes_23 : decode cX7_comes 23 = .ok (.iconst 5, 1) := by decide +kernel
theorem dX7_comes_24 : decode cX7_comes 24 = .ok (.if_icmp .ge 7, 3) := by decide +kernel
theorem dX7_comes_27 : decode cX7_comes 27 = .ok (.iconst 0, 1) := by decide +kernel
theorem dX7_comes_28 : decode cX7_comes 28 = .ok (.goto 13, 3) := by decide +kernel
theorem dX7_comes_31 : decode cX7_comes 31 = .ok (.aload_n 0, 1) := by decide +kernel
theorem dX7_comes_32 : decode cX7_comes 32 = .ok (.getfield 7, 3) := by decide +kernel
theorem dX7_comes_35 : decode cX7_comes 35 = .ok (.iload_n 1, 1) := by decide +kernel
theorem dX7_comes_36 : decode cX7_comes 36 = .ok (.iload_n 3, 1) := by decide +kernel
theorem dX7_comes_37 : decode cX7_comes 37 = .ok (.invokestatic 32, 3) := by decide +kernel
theorem dX7_comes_40 : decode cX7_comes 40 = .ok (.iaload, 1) := by decide +kernel
theorem dX7_comes_41 : decode cX7_comes 41 = .ok (.iastore, 1) := by decide +kernel
theorem dX7_comes_42 : decode cX7_comes 42 = .ok (.iinc 3 1, 3) := by decide +kernel
theorem dX7_comes_45 : decode cX7_comes 45 = .ok (.goto (-38), 3) := by decide +kernel
theorem dX7_comes_48 : decode cX7_comes 48 = .ok (.aload_n 0, 1) := by decide +kernel
theorem dX7_comes_49 : decode cX7_comes 49 = .ok (.getfield 7, 3) := by decide +kernel
theorem dX7_comes_52 : decode cX7_comes 52 = .ok (.iload_n 2, 1) := by decide +kernel
theorem dX7_comes_53 : decode cX7_comes 53 = .ok (.iconst 0, 1) := by decide +kernel
theorem dX7_comes_54 : decode cX7_comes 54 = .ok (.invokestatic 32, 3) := by decide +kernel
theorem dX7_comes_57 : decode cX7_comes 57 = .ok (.iconst 1, 1) := by decide +kernel
theorem dX7_comes_58 : decode cX7_comes 58 = .ok (.iastore, 1) := by decide +kernel
theorem dX7_comes_59 : decode cX7_comes 59 = .ok (.aload_n 0, 1) := by decide +kernel
theorem dX7_comes_60 : decode cX7_comes 60 = .ok (.getfield 7, 3) := by decide +kernel
theorem dX7_comes_63 : decode cX7_comes 63 = .ok (.iload_n 2, 1) := by decide +kernel
theorem dX7_comes_64 : decode cX7_comes 64 = .ok (.iconst 1, 1) := by decide +kernel
theorem dX7_comes_65 : decode cX7_comes 65 = .ok (.invokestatic 32, 3) := by decide +kernel
theorem dX7_comes_68 : decode cX7_comes 68 = .ok (.iload_n 1, 1) := by decide +kernel
theorem dX7_comes_69 : decode cX7_comes 69 = .ok (.iastore, 1) := by decide +kernel
theorem dX7_comes_70 : decode cX7_comes 70 = .ok (.aload_n 0, 1) := by decide +kernel
theorem dX7_comes_71 : decode cX7_comes 71 = .ok (.getfield 7, 3) := by decide +kernel
theorem dX7_comes_74 : decode cX7_comes 74 = .ok (.iload_n 2, 1) := by decide +kernel
theorem dX7_comes_75 : decode cX7_comes 75 = .ok (.iconst 2, 1) := by decide +kernel
theorem dX7_comes_76 : decode cX7_comes 76 = .ok (.invokestatic 32, 3) := by decide +kernel
theorem dX7_comes_79 : decode cX7_comes 79 = .ok (.iconst 1, 1) := by decide +kernel
theorem dX7_comes_80 : decode cX7_comes 80 = .ok (.iastore, 1) := by decide +kernel
theorem dX7_comes_81 : decode cX7_comes 81 = .ok (.iload_n 2, 1) := by decide +kernel
theorem dX7_comes_82 : decode cX7_comes 82 = .ok (.ireturn, 1) := by decide +kernel
theorem dX7_makes_0 : decode cX7_makes 0 = .ok (.aload_n 0, 1) := by decide +kernel
theorem dX7_makes_1 : decode cX7_makes 1 = .ok (.iload_n 1, 1) := by decide +kernel
theorem dX7_makes_2 : decode cX7_makes 2 = .ok (.invokevirtual 72, 3) := by decide +kernel
theorem dX7_makes_5 : decode cX7_makes 5 = .ok (.ifCond .eq 13, 3) := by decide +kernel
theorem dX7_makes_8 : decode cX7_makes 8 = .ok (.iload_n 2, 1) := by decide +kernel
theorem dX7_makes_9 : decode cX7_makes 9 = .ok (.iconst 0, 1) := by decide +kernel
theorem dX7_makes_10 : decode cX7_makes 10 = .ok (.bipush 7, 2) := by decide +kernel
theorem dX7_makes_12 : decode cX7_makes 12 = .ok (.invokestatic 36, 3) := by decide +kernel
theorem dX7_makes_15 : decode cX7_makes 15 = .ok (.ifCond .ne 5, 3) := by decide +kernel
theorem dX7_makes_18 : decode cX7_makes 18 = .ok (.iconst (-1), 1) := by decide +kernel
theorem dX7_makes_19 : decode cX7_makes 19 = .ok (.ireturn, 1) := by decide +kernel
theorem dX7_makes_20 : decode cX7_makes 20 = .ok (.iload_n 3, 1) := by decide +kernel
theorem dX7_makes_21 : decode cX7_makes 21 = .ok (.iconst 0, 1) := by decide +kernel
theorem dX7_makes_22 : decode cX7_makes 22 = .ok (.bipush 9, 2) := by decide +kernel
theorem dX7_makes_24 : decode cX7_makes 24 = .ok (.invokestatic 36, 3) := by decide +kernel
theorem dX7_makes_27 : decode cX7_makes 27 = .ok (.ifCond .ne 6, 3) := by decide +kernel
theorem dX7_makes_30 : decode cX7_makes 30 = .ok (.bipush (-2), 2) := by decide +kernel
theorem dX7_makes_32 : decode cX7_makes 32 = .ok (.ireturn, 1) := by decide +kernel
theorem dX7_makes_33 : decode cX7_makes 33 = .ok (.aload_n 0, 1) := by decide +kernel
theorem dX7_makes_34 : decode cX7_makes 34 = .ok (.invokevirtual 68, 3) := by decide +kernel
theorem dX7_makes_37 : decode cX7_makes 37 = .ok (.bipush (-5), 2) := by decide +kernel
theorem dX7_makes_39 : decode cX7_makes 39 = .ok (.if_icmp .ne 6, 3) := by decide +kernel
theorem dX7_makes_42 : decode cX7_makes 42 = .ok (.bipush (-3), 2) := by decide +kernel
theorem dX7_makes_44 : decode cX7_makes 44 = .ok (.ireturn, 1) := by decide +kernel
theorem dX7_makes_45 : decode cX7_makes 45 = .ok (.aload_n 0, 1) := by decide +kernel
theorem dX7_makes_46 : decode cX7_makes 46 = .ok (.iload_n 1, 1) := by decide +kernel
theorem dX7_makes_47 : decode cX7_makes 47 = .ok (.invokevirtual 75, 3) := by decide +kernel
theorem dX7_makes_50 : decode cX7_makes 50 = .ok (.istore 4, 2) := by decide +kernel
theorem dX7_makes_52 : decode cX7_makes 52 = .ok (.aload_n 0, 1) := by decide +kernel
theorem dX7_makes_53 : decode cX7_makes 53 = .ok (.getfield 7, 3) := by decide +kernel
theorem dX7_makes_56 : decode cX7_makes 56 = .ok (.iload 4, 2) := by decide +kernel
theorem dX7_makes_58 : decode cX7_makes 58 = .ok (.iconst 5, 1) := by decide +kernel
theorem dX7_makes_59 : decode cX7_makes 59 = .ok (.iload_n 2, 1) := by decide +kernel
theorem dX7_makes_60 : decode cX7_makes 60 = .ok (.iadd, 1) := by decide +kernel
theorem dX7_makes_61 : decode cX7_makes 61 = .ok (.invokestatic 32, 3) := by decide +kernel
theorem dX7_makes_64 : decode cX7_makes 64 = .ok (.iload_n 3, 1) := by decide +kernel
theorem dX7_makes_65 : decode cX7_makes 65 = .ok (.iastore, 1) := by decide +kernel
theorem dX7_makes_66 : decode cX7_makes 66 = .ok (.iload 4, 2) := by decide +kernel
theorem dX7_makes_68 : decode cX7_makes 68 = .ok (.ireturn, 1) := by decide +kernel
theorem dX7_mixes_0 : decode cX7_mixes 0 = .ok (.aload_n 0, 1) := by decide +kernel
theorem dX7_mixes_1 : decode cX7_mixes 1 = .ok (.iload_n 1, 1) := by decide +kernel
theorem dX7_mixes_2 : decode cX7_mixes 2 = .ok (.invokevirtual 72, 3) := by decide +kernel
theorem dX7_mixes_5 : decode cX7_mixes 5 = .ok (.ifCond .eq 11, 3) := by decide +kernel
theorem dX7_mixes_8 : decode cX7_mixes 8 = .ok (.aload_n 0, 1) := by decide +kernel
theorem dX7_mixes_9 : decode cX7_mixes 9 = .ok (.iload_n 2, 1) := by decide +kernel
theorem dX7_mixes_10 : decode cX7_mixes 10 = .ok (.invokevirtual 72, 3) := by decide +kernel
theorem dX7_mixes_13 : decode cX7_mixes 13 = .ok (.ifCond .ne 5, 3) := by decide +kernel
theorem dX7_mixes_16 : decode cX7_mixes 16 = .ok (.iconst (-1), 1) := by decide +kernel
theorem dX7_mixes_17 : decode cX7_mixes 17 = .ok (.ireturn, 1) := by decide +kernel
theorem dX7_mixes_18 : decode cX7_mixes 18 = .ok (.iload_n 3, 1) := by decide +kernel
theorem dX7_mixes_19 : decode cX7_mixes 19 = .ok (.iconst 1, 1) := by decide +kernel
theorem dX7_mixes_20 : decode cX7_mixes 20 = .ok (.sipush 255, 3) := by decide +kernel
theorem dX7_mixes_23 : decode cX7_mixes 23 = .ok (.invokestatic 36, 3) := by decide +kernel
theorem dX7_mixes_26 : decode cX7_mixes 26 = .ok (.ifCond .ne 6, 3) := by decide +kernel
theorem dX7_mixes_29 : decode cX7_mixes 29 = .ok (.bipush (-2), 2) := by decide +kernel
theorem dX7_mixes_31 : decode cX7_mixes 31 = .ok (.ireturn, 1) := by decide +kernel
theorem dX7_mixes_32 : decode cX7_mixes 32 = .ok (.aload_n 0, 1) := by decide +kernel
theorem dX7_mixes_33 : decode cX7_mixes 33 = .ok (.invokevirtual 68, 3) := by decide +kernel
theorem dX7_mixes_36 : decode cX7_mixes 36 = .ok (.bipush (-5), 2) := by decide +kernel
theorem dX7_mixes_38 : decode cX7_mixes 38 = .ok (.if_icmp .ne 6, 3) := by decide +kernel
theorem dX7_mixes_41 : decode cX7_mixes 41 = .ok (.bipush (-3), 2) := by decide +kernel
theorem dX7_mixes_43 : decode cX7_mixes 43 = .ok (.ireturn, 1) := by decide +kernel
theorem dX7_mixes_44 : decode cX7_mixes 44 = .ok (.aload_n 0, 1) := by decide +kernel
theorem dX7_mixes_45 : decode cX7_mixes 45 = .ok (.iload_n 1, 1) := by decide +kernel
theorem dX7_mixes_46 : decode cX7_mixes 46 = .ok (.invokevirtual 75, 3) := by decide +kernel
theorem dX7_mixes_49 : decode cX7_mixes 49 = .ok (.istore 4, 2) := by decide +kernel
theorem dX7_mixes_51 : decode cX7_mixes 51 = .ok (.iconst 0, 1) := by decide +kernel
theorem dX7_mixes_52 : decode cX7_mixes 52 = .ok (.istore 5, 2) := by decide +kernel
theorem dX7_mixes_54 : decode cX7_mixes 54 = .ok (.iload 5, 2) := by decide +kernel
theorem dX7_mixes_56 : decode cX7_mixes 56 = .ok (.bipush 8, 2) := by decide +kernel
theorem dX7_mixes_58 : decode cX7_mixes 58 = .ok (.if_icmp .ge 63, 3) := by decide +kernel
theorem dX7_mixes_61 : decode cX7_mixes 61 = .ok (.aload_n 0, 1) := by decide +kernel
theorem dX7_mixes_62 : decode cX7_mixes 62 = .ok (.getfield 7, 3) := by decide +kernel
theorem dX7_mixes_65 : decode cX7_mixes 65 = .ok (.iload 4, 2) := by decide +kernel
theorem dX7_mixes_67 : decode cX7_mixes 67 = .ok (.iconst 5, 1) := by decide +kernel
theorem dX7_mixes_68 : decode cX7_mixes 68 = .ok (.iload 5, 2) := by decide +kernel
theorem dX7_mixes_70 : decode cX7_mixes 70 = .ok (.iadd, 1) := by decide +kernel
theorem dX7_mixes_71 : decode cX7_mixes 71 = .ok (.invokestatic 32, 3) := by decide +kernel
theorem dX7_mixes_74 : decode cX7_mixes 74 = .ok (.iload_n 3, 1) := by decide +kernel
theorem dX7_mixes_75 : decode cX7_mixes 75 = .ok (.iload 5, 2) := by decide +kernel
theorem dX7_mixes_77 : decode cX7_mixes 77 = .ok (.ishr, 1) := by decide +kernel
theorem dX7_mixes_78 : decode cX7_mixes 78 = .ok (.iconst 1, 1) := by decide +kernel
theorem dX7_mixes_79 : decode cX7_mixes 79 = .ok (.iand, 1) := by decide +kernel
theorem dX7_mixes_80 : decode cX7_mixes 80 = .ok (.iconst 1, 1) := by decide +kernel
theorem dX7_mixes_81 : decode cX7_mixes 81 = .ok (.if_icmp .ne 19, 3) := by decide +kernel
theorem dX7_mixes_84 : decode cX7_mixes 84 = .ok (.aload_n 0, 1) := by decide +kernel
theorem dX7_mixes_85 : decode cX7_mixes 85 = .ok (.getfield 7, 3) := by decide +kernel
theorem dX7_mixes_88 : decode cX7_mixes 88 = .ok (.iload_n 2, 1) := by decide +kernel
theorem dX7_mixes_89 : decode cX7_mixes 89 = .ok (.iconst 5, 1) := by decide +kernel
theorem dX7_mixes_90 : decode cX7_mixes 90 = .ok (.iload 5, 2) := by decide +kernel
theorem dX7_mixes_92 : decode cX7_mixes 92 = .ok (.iadd, 1) := by decide +kernel
theorem dX7_mixes_93 : decode cX7_mixes 93 = .ok (.invokestatic 32, 3) := by decide +kernel
theorem dX7_mixes_96 : decode cX7_mixes 96 = .ok (.iaload, 1) := by decide +kernel
theorem dX7_mixes_97 : decode cX7_mixes 97 = .ok (.goto 17, 3) := by decide +kernel
theorem dX7_mixes_100 : decode cX7_mixes 100 = .ok (.aload_n 0, 1) := by decide +kernel
theorem dX7_mixes_101 : decode cX7_mixes 101 = .ok (.getfield 7, 3) := by decide +kernel
theorem dX7_mixes_104 : decode cX7_mixes 104 = .ok (.iload 4, 2) := by decide +kernel
theorem dX7_mixes_106 : decode cX7_mixes 106 = .ok (.iconst 5, 1) := by decide +kernel
theorem dX7_mixes_107 : decode cX7_mixes 107 = .ok (.iload 5, 2) := by decide +kernel
theorem dX7_mixes_109 : decode cX7_mixes 109 = .ok (.iadd, 1) := by decide +kernel
theorem dX7_mixes_110 : decode cX7_mixes 110 = .ok (.invokestatic 32, 3) := by decide +kernel
theorem dX7_mixes_113 : decode cX7_mixes 113 = .ok (.iaload, 1) := by decide +kernel
theorem dX7_mixes_114 : decode cX7_mixes 114 = .ok (.iastore, 1) := by decide +kernel
theorem dX7_mixes_115 : decode cX7_mixes 115 = .ok (.iinc 5 1, 3) := by decide +kernel
theorem dX7_mixes_118 : decode cX7_mixes 118 = .ok (.goto (-64), 3) := by decide +kernel
theorem dX7_mixes_121 : decode cX7_mixes 121 = .ok (.iload 4, 2) := by decide +kernel
theorem dX7_mixes_123 : decode cX7_mixes 123 = .ok (.ireturn, 1) := by decide +kernel
theorem dX7_removes_0 : decode cX7_removes 0 = .ok (.aload_n 0, 1) := by decide +kernel
theorem dX7_removes_1 : decode cX7_removes 1 = .ok (.iload_n 1, 1) := by decide +kernel
theorem dX7_removes_2 : decode cX7_removes 2 = .ok (.invokevirtual 72, 3) := by decide +kernel
theorem dX7_removes_5 : decode cX7_removes 5 = .ok (.ifCond .ne 5, 3) := by decide +kernel
theorem dX7_removes_8 : decode cX7_removes 8 = .ok (.iconst (-1), 1) := by decide +kernel
theorem dX7_removes_9 : decode cX7_removes 9 = .ok (.ireturn, 1) := by decide +kernel
theorem dX7_removes_10 : decode cX7_removes 10 = .ok (.iload_n 1, 1) := by decide +kernel
theorem dX7_removes_11 : decode cX7_removes 11 = .ok (.ifCond .eq 11, 3) := by decide +kernel
theorem dX7_removes_14 : decode cX7_removes 14 = .ok (.aload_n 0, 1) := by decide +kernel
theorem dX7_removes_15 : decode cX7_removes 15 = .ok (.iload_n 1, 1) := by decide +kernel
theorem dX7_removes_16 : decode cX7_removes 16 = .ok (.invokevirtual 78, 3) := by decide +kernel
theorem dX7_removes_19 : decode cX7_removes 19 = .ok (.ifCond .le 6, 3) := by decide +kernel
theorem dX7_removes_22 : decode cX7_removes 22 = .ok (.bipush (-4), 2) := by decide +kernel
theorem dX7_removes_24 : decode cX7_removes 24 = .ok (.ireturn, 1) := by decide +kernel
theorem dX7_removes_25 : decode cX7_removes 25 = .ok (.aload_n 0, 1) := by decide +kernel
theorem dX7_removes_26 : decode cX7_removes 26 = .ok (.getfield 7, 3) := by decide +kernel
theorem dX7_removes_29 : decode cX7_removes 29 = .ok (.iload_n 1, 1) := by decide +kernel
theorem dX7_removes_30 : decode cX7_removes 30 = .ok (.iconst 3, 1) := by decide +kernel
theorem dX7_removes_31 : decode cX7_removes 31 = .ok (.invokestatic 32, 3) := by decide +kernel
theorem dX7_removes_34 : decode cX7_removes 34 = .ok (.iaload, 1) := by decide +kernel
theorem dX7_removes_35 : decode cX7_removes 35 = .ok (.iconst 1, 1) := by decide +kernel
theorem dX7_removes_36 : decode cX7_removes 36 = .ok (.if_icmp .ne 31, 3) := by decide +kernel
theorem dX7_removes_39 : decode cX7_removes 39 = .ok (.aload_n 0, 1) := by decide +kernel
theorem dX7_removes_40 : decode cX7_removes 40 = .ok (.iload_n 1, 1) := by decide +kernel
theorem dX7_removes_41 : decode cX7_removes 41 = .ok (.invokevirtual 43, 3) := by decide +kernel
theorem dX7_removes_44 : decode cX7_removes 44 = .ok (.ifCond .eq 23, 3) := by decide +kernel
theorem dX7_removes_47 : decode cX7_removes 47 = .ok (.aload_n 0, 1) := by decide +kernel
theorem dX7_removes_48 : decode cX7_removes 48 = .ok (.getfield 7, 3) := by decide +kernel
theorem dX7_removes_51 : decode cX7_removes 51 = .ok (.aload_n 0, 1) := by decide +kernel
theorem dX7_removes_52 : decode cX7_removes 52 = .ok (.getfield 7, 3) := by decide +kernel
theorem dX7_removes_55 : decode cX7_removes 55 = .ok (.iload_n 1, 1) := by decide +kernel
theorem dX7_removes_56 : decode cX7_removes 56 = .ok (.iconst 1, 1) := by decide +kernel
theorem dX7_removes_57 : decode cX7_removes 57 = .ok (.invokestatic 32, 3) := by decide +kernel
theorem dX7_removes_60 : decode cX7_removes 60 = .ok (.iaload, 1) := by decide +kernel
theorem dX7_removes_61 : decode cX7_removes 61 = .ok (.iconst 3, 1) := by decide +kernel
theorem dX7_removes_62 : decode cX7_removes 62 = .ok (.invokestatic 32, 3) := by decide +kernel
theorem dX7_removes_65 : decode cX7_removes 65 = .ok (.iconst 1, 1) := by decide +kernel
theorem dX7_removes_66 : decode cX7_removes 66 = .ok (.iastore, 1) := by decide +kernel
theorem dX7_removes_67 : decode cX7_removes 67 = .ok (.iconst 0, 1) := by decide +kernel
theorem dX7_removes_68 : decode cX7_removes 68 = .ok (.istore_n 2, 1) := by decide +kernel
theorem dX7_removes_69 : decode cX7_removes 69 = .ok (.iload_n 2, 1) := by decide +kernel
theorem dX7_removes_70 : decode cX7_removes 70 = .ok (.bipush 13, 2) := by decide +kernel
theorem dX7_removes_72 : decode cX7_removes 72 = .ok (.if_icmp .ge 20, 3) := by decide +kernel
theorem dX7_removes_75 : decode cX7_removes 75 = .ok (.aload_n 0, 1) := by decide +kernel
theorem dX7_removes_76 : decode cX7_removes 76 = .ok (.getfield 7, 3) := by decide +kernel
theorem dX7_removes_79 : decode cX7_removes 79 = .ok (.iload_n 1, 1) := by decide +kernel
theorem dX7_removes_80 : decode cX7_removes 80 = .ok (.iload_n 2, 1) := by decide +kernel
theorem dX7_removes_81 : decode cX7_removes 81 = .ok (.invokestatic 32, 3) := by decide +kernel
theorem dX7_removes_84 : decode cX7_removes 84 = .ok (.iconst 0, 1) := by decide +kernel
theorem dX7_removes_85 : decode cX7_removes 85 = .ok (.iastore, 1) := by decide +kernel
theorem dX7_removes_86 : decode cX7_removes 86 = .ok (.iinc 2 1, 3) := by decide +kernel
theorem dX7_removes_89 : decode cX7_removes 89 = .ok (.goto (-20), 3) := by decide +kernel
theorem dX7_removes_92 : decode cX7_removes 92 = .ok (.aload_n 0, 1) := by decide +kernel
theorem dX7_removes_93 : decode cX7_removes 93 = .ok (.iconst 0, 1) := by decide +kernel
theorem dX7_removes_94 : decode cX7_removes 94 = .ok (.invokevirtual 81, 3) := by decide +kernel
theorem dX7_removes_97 : decode cX7_removes 97 = .ok (.ireturn, 1) := by decide +kernel
theorem dX7_becomesRoot_0 : decode cX7_becomesRoot 0 = .ok (.aload_n 0, 1) := by decide +kernel
theorem dX7_becomesRoot_1 : decode cX7_becomesRoot 1 = .ok (.getfield 7, 3) := by decide +kernel
theorem dX7_becomesRoot_4 : decode cX7_becomesRoot 4 = .ok (.aload_n 0, 1) := by decide +kernel
theorem dX7_becomesRoot_5 : decode cX7_becomesRoot 5 = .ok (.iload_n 1, 1) := by decide +kernel
theorem dX7_becomesRoot_6 : decode cX7_becomesRoot 6 = .ok (.invokevirtual 84, 3) := by decide +kernel
theorem dX7_becomesRoot_9 : decode cX7_becomesRoot 9 = .ok (.iconst 3, 1) := by decide +kernel
theorem dX7_becomesRoot_10 : decode cX7_becomesRoot 10 = .ok (.invokestatic 32, 3) := by decide +kernel
theorem dX7_becomesRoot_13 : decode cX7_becomesRoot 13 = .ok (.iconst 0, 1) := by decide +kernel
theorem dX7_becomesRoot_14 : decode cX7_becomesRoot 14 = .ok (.iastore, 1) := by decide +kernel
theorem dX7_becomesRoot_15 : decode cX7_becomesRoot 15 = .ok (.aload_n 0, 1) := by decide +kernel
theorem dX7_becomesRoot_16 : decode cX7_becomesRoot 16 = .ok (.getfield 7, 3) := by decide +kernel
theorem dX7_becomesRoot_19 : decode cX7_becomesRoot 19 = .ok (.iload_n 1, 1) := by decide +kernel
theorem dX7_becomesRoot_20 : decode cX7_becomesRoot 20 = .ok (.iconst 3, 1) := by decide +kernel
theorem dX7_becomesRoot_21 : decode cX7_becomesRoot 21 = .ok (.invokestatic 32, 3) := by decide +kernel
theorem dX7_becomesRoot_24 : decode cX7_becomesRoot 24 = .ok (.iconst 1, 1) := by decide +kernel
theorem dX7_becomesRoot_25 : decode cX7_becomesRoot 25 = .ok (.iastore, 1) := by decide +kernel
theorem dX7_becomesRoot_26 : decode cX7_becomesRoot 26 = .ok (.return_, 1) := by decide +kernel
theorem dX7_asks_0 : decode cX7_asks 0 = .ok (.aload_n 0, 1) := by decide +kernel
theorem dX7_asks_1 : decode cX7_asks 1 = .ok (.iload_n 1, 1) := by decide +kernel
theorem dX7_asks_2 : decode cX7_asks 2 = .ok (.invokevirtual 72, 3) := by decide +kernel
theorem dX7_asks_5 : decode cX7_asks 5 = .ok (.ifCond .ne 5, 3) := by decide +kernel
theorem dX7_asks_8 : decode cX7_asks 8 = .ok (.iconst (-1), 1) := by decide +kernel
theorem dX7_asks_9 : decode cX7_asks 9 = .ok (.ireturn, 1) := by decide +kernel
theorem dX7_asks_10 : decode cX7_asks 10 = .ok (.aload_n 0, 1) := by decide +kernel
theorem dX7_asks_11 : decode cX7_asks 11 = .ok (.iload_n 1, 1) := by decide +kernel
theorem dX7_asks_12 : decode cX7_asks 12 = .ok (.invokevirtual 84, 3) := by decide +kernel
theorem dX7_asks_15 : decode cX7_asks 15 = .ok (.istore_n 2, 1) := by decide +kernel
theorem dX7_asks_16 : decode cX7_asks 16 = .ok (.iconst 1, 1) := by decide +kernel
theorem dX7_asks_17 : decode cX7_asks 17 = .ok (.aload_n 0, 1) := by decide +kernel
theorem dX7_asks_18 : decode cX7_asks 18 = .ok (.iload_n 2, 1) := by decide +kernel
theorem dX7_asks_19 : decode cX7_asks 19 = .ok (.iload_n 1, 1) := by decide +kernel
theorem dX7_asks_20 : decode cX7_asks 20 = .ok (.invokevirtual 87, 3) := by decide +kernel
theorem dX7_asks_23 : decode cX7_asks 23 = .ok (.iadd, 1) := by decide +kernel
theorem dX7_asks_24 : decode cX7_asks 24 = .ok (.istore_n 3, 1) := by decide +kernel
theorem dX7_asks_25 : decode cX7_asks 25 = .ok (.aload_n 0, 1) := by decide +kernel
theorem dX7_asks_26 : decode cX7_asks 26 = .ok (.getfield 7, 3) := by decide +kernel
theorem dX7_asks_29 : decode cX7_asks 29 = .ok (.iload_n 1, 1) := by decide +kernel
theorem dX7_asks_30 : decode cX7_asks 30 = .ok (.iconst 4, 1) := by decide +kernel
theorem dX7_asks_31 : decode cX7_asks 31 = .ok (.invokestatic 32, 3) := by decide +kernel
theorem dX7_asks_34 : decode cX7_asks 34 = .ok (.dup2, 1) := by decide +kernel
theorem dX7_asks_35 : decode cX7_asks 35 = .ok (.iaload, 1) := by decide +kernel
theorem dX7_asks_36 : decode cX7_asks 36 = .ok (.iconst 1, 1) := by decide +kernel
theorem dX7_asks_37 : decode cX7_asks 37 = .ok (.iadd, 1) := by decide +kernel
theorem dX7_asks_38 : decode cX7_asks 38 = .ok (.iastore, 1) := by decide +kernel
theorem dX7_asks_39 : decode cX7_asks 39 = .ok (.aload_n 0, 1) := by decide +kernel
theorem dX7_asks_40 : decode cX7_asks 40 = .ok (.getfield 7, 3) := by decide +kernel
theorem dX7_asks_43 : decode cX7_asks 43 = .ok (.sipush 314, 3) := by decide +kernel
theorem dX7_asks_46 : decode cX7_asks 46 = .ok (.dup2, 1) := by decide +kernel
theorem dX7_asks_47 : decode cX7_asks 47 = .ok (.iaload, 1) := by decide +kernel
theorem dX7_asks_48 : decode cX7_asks 48 = .ok (.iconst 1, 1) := by decide +kernel
theorem dX7_asks_49 : decode cX7_asks 49 = .ok (.iadd, 1) := by decide +kernel
theorem dX7_asks_50 : decode cX7_asks 50 = .ok (.iastore, 1) := by decide +kernel
theorem dX7_asks_51 : decode cX7_asks 51 = .ok (.aload_n 0, 1) := by decide +kernel
theorem dX7_asks_52 : decode cX7_asks 52 = .ok (.getfield 7, 3) := by decide +kernel
theorem dX7_asks_55 : decode cX7_asks 55 = .ok (.sipush 315, 3) := by decide +kernel
theorem dX7_asks_58 : decode cX7_asks 58 = .ok (.dup2, 1) := by decide +kernel
theorem dX7_asks_59 : decode cX7_asks 59 = .ok (.iaload, 1) := by decide +kernel
theorem dX7_asks_60 : decode cX7_asks 60 = .ok (.iload_n 3, 1) := by decide +kernel
theorem dX7_asks_61 : decode cX7_asks 61 = .ok (.iadd, 1) := by decide +kernel
theorem dX7_asks_62 : decode cX7_asks 62 = .ok (.iastore, 1) := by decide +kernel
theorem dX7_asks_63 : decode cX7_asks 63 = .ok (.aload_n 0, 1) := by decide +kernel
theorem dX7_asks_64 : decode cX7_asks 64 = .ok (.getfield 51, 3) := by decide +kernel
theorem dX7_asks_67 : decode cX7_asks 67 = .ok (.aload_n 0, 1) := by decide +kernel
theorem dX7_asks_68 : decode cX7_asks 68 = .ok (.getfield 7, 3) := by decide +kernel
theorem dX7_asks_71 : decode cX7_asks 71 = .ok (.sipush 313, 3) := by decide +kernel
theorem dX7_asks_74 : decode cX7_asks 74 = .ok (.iaload, 1) := by decide +kernel
theorem dX7_asks_75 : decode cX7_asks 75 = .ok (.if_icmp .le 81, 3) := by decide +kernel
theorem dX7_asks_78 : decode cX7_asks 78 = .ok (.aload_n 0, 1) := by decide +kernel
theorem dX7_asks_79 : decode cX7_asks 79 = .ok (.getfield 29, 3) := by decide +kernel
theorem dX7_asks_82 : decode cX7_asks 82 = .ok (.aload_n 0, 1) := by decide +kernel
theorem dX7_asks_83 : decode cX7_asks 83 = .ok (.getfield 51, 3) := by decide +kernel
theorem dX7_asks_86 : decode cX7_asks 86 = .ok (.iconst 1, 1) := by decide +kernel
theorem dX7_asks_87 : decode cX7_asks 87 = .ok (.isub, 1) := by decide +kernel
theorem dX7_asks_88 : decode cX7_asks 88 = .ok (.iaload, 1) := by decide +kernel
theorem dX7_asks_89 : decode cX7_asks 89 = .ok (.istore 4, 2) := by decide +kernel
theorem dX7_asks_91 : decode cX7_asks 91 = .ok (.aload_n 0, 1) := by decide +kernel
theorem dX7_asks_92 : decode cX7_asks 92 = .ok (.getfield 7, 3) := by decide +kernel
theorem dX7_asks_95 : decode cX7_asks 95 = .ok (.iload_n 1, 1) := by decide +kernel
theorem dX7_asks_96 : decode cX7_asks 96 = .ok (.iconst 1, 1) := by decide +kernel
theorem dX7_asks_97 : decode cX7_asks 97 = .ok (.invokestatic 32, 3) := by decide +kernel
theorem dX7_asks_100 : decode cX7_asks 100 = .ok (.iaload, 1) := by decide +kernel
theorem dX7_asks_101 : decode cX7_asks 101 = .ok (.iload 4, 2) := by decide +kernel
theorem dX7_asks_103 : decode cX7_asks 103 = .ok (.if_icmp .ne 11, 3) := by decide +kernel
theorem dX7_asks_106 : decode cX7_asks 106 = .ok (.iload_n 1, 1) := by decide +kernel
theorem dX7_asks_107 : decode cX7_asks 107 = .ok (.ifCond .le 7, 3) := by decide +kernel
theorem dX7_asks_110 : decode cX7_asks 110 = .ok (.iload_n 1, 1) := by decide +kernel
theorem dX7_asks_111 : decode cX7_asks 111 = .ok (.goto 5, 3) := by decide +kernel
theorem dX7_asks_114 : decode cX7_asks 114 = .ok (.iload 4, 2) := by decide +kernel
theorem dX7_asks_116 : decode cX7_asks 116 = .ok (.istore 5, 2) := by decide +kernel
theorem dX7_asks_118 : decode cX7_asks 118 = .ok (.aload_n 0, 1) := by decide +kernel
theorem dX7_asks_119 : decode cX7_asks 119 = .ok (.getfield 7, 3) := by decide +kernel
theorem dX7_asks_122 : decode cX7_asks 122 = .ok (.iload 5, 2) := by decide +kernel
theorem dX7_asks_124 : decode cX7_asks 124 = .ok (.iconst 2, 1) := by decide +kernel
theorem dX7_asks_125 : decode cX7_asks 125 = .ok (.invokestatic 32, 3) := by decide +kernel
theorem dX7_asks_128 : decode cX7_asks 128 = .ok (.iconst 0, 1) := by decide +kernel
theorem dX7_asks_129 : decode cX7_asks 129 = .ok (.iastore, 1) := by decide +kernel
theorem dX7_asks_130 : decode cX7_asks 130 = .ok (.aload_n 0, 1) := by decide +kernel
theorem dX7_asks_131 : decode cX7_asks 131 = .ok (.getfield 7, 3) := by decide +kernel
theorem dX7_asks_134 : decode cX7_asks 134 = .ok (.iload_n 1, 1) := by decide +kernel
theorem dX7_asks_135 : decode cX7_asks 135 = .ok (.iconst 3, 1) := by decide +kernel
theorem dX7_asks_136 : decode cX7_asks 136 = .ok (.invokestatic 32, 3) := by decide +kernel
theorem dX7_asks_139 : decode cX7_asks 139 = .ok (.iconst 1, 1) := by decide +kernel
theorem dX7_asks_140 : decode cX7_asks 140 = .ok (.iastore, 1) := by decide +kernel
theorem dX7_asks_141 : decode cX7_asks 141 = .ok (.aload_n 0, 1) := by decide +kernel
theorem dX7_asks_142 : decode cX7_asks 142 = .ok (.getfield 7, 3) := by decide +kernel
theorem dX7_asks_145 : decode cX7_asks 145 = .ok (.sipush 317, 3) := by decide +kernel
theorem dX7_asks_148 : decode cX7_asks 148 = .ok (.dup2, 1) := by decide +kernel
theorem dX7_asks_149 : decode cX7_asks 149 = .ok (.iaload, 1) := by decide +kernel
theorem dX7_asks_150 : decode cX7_asks 150 = .ok (.iconst 1, 1) := by decide +kernel
theorem dX7_asks_151 : decode cX7_asks 151 = .ok (.iadd, 1) := by decide +kernel
theorem dX7_asks_152 : decode cX7_asks 152 = .ok (.iastore, 1) := by decide +kernel
theorem dX7_asks_153 : decode cX7_asks 153 = .ok (.goto 72, 3) := by decide +kernel
theorem dX7_asks_156 : decode cX7_asks 156 = .ok (.iload_n 1, 1) := by decide +kernel
theorem dX7_asks_157 : decode cX7_asks 157 = .ok (.iload_n 2, 1) := by decide +kernel
theorem dX7_asks_158 : decode cX7_asks 158 = .ok (.if_icmp .eq 67, 3) := by decide +kernel
theorem dX7_asks_161 : decode cX7_asks 161 = .ok (.aload_n 0, 1) := by decide +kernel
theorem dX7_asks_162 : decode cX7_asks 162 = .ok (.getfield 7, 3) := by decide +kernel
theorem dX7_asks_165 : decode cX7_asks 165 = .ok (.sipush 312, 3) := by decide +kernel
theorem dX7_asks_168 : decode cX7_asks 168 = .ok (.iaload, 1) := by decide +kernel
theorem dX7_asks_169 : decode cX7_asks 169 = .ok (.iconst 1, 1) := by decide +kernel
theorem dX7_asks_170 : decode cX7_asks 170 = .ok (.if_icmp .eq 38, 3) := by decide +kernel
theorem dX7_asks_173 : decode cX7_asks 173 = .ok (.aload_n 0, 1) := by decide +kernel
theorem dX7_asks_174 : decode cX7_asks 174 = .ok (.getfield 7, 3) := by decide +kernel
theorem dX7_asks_177 : decode cX7_asks 177 = .ok (.sipush 312, 3) := by decide +kernel
theorem dX7_asks_180 : decode cX7_asks 180 = .ok (.iaload, 1) := by decide +kernel
theorem dX7_asks_181 : decode cX7_asks 181 = .ok (.iconst 2, 1) := by decide +kernel
theorem dX7_asks_182 : decode cX7_asks 182 = .ok (.if_icmp .ne 43, 3) := by decide +kernel
theorem dX7_asks_185 : decode cX7_asks 185 = .ok (.aload_n 0, 1) := by decide +kernel
theorem dX7_asks_186 : decode cX7_asks 186 = .ok (.getfield 7, 3) := by decide +kernel
theorem dX7_asks_189 : decode cX7_asks 189 = .ok (.iload_n 1, 1) := by decide +kernel
theorem dX7_asks_190 : decode cX7_asks 190 = .ok (.iconst 4, 1) := by decide +kernel
theorem dX7_asks_191 : decode cX7_asks 191 = .ok (.invokestatic 32, 3) := by decide +kernel
theorem dX7_asks_194 : decode cX7_asks 194 = .ok (.iaload, 1) := by decide +kernel
theorem dX7_asks_195 : decode cX7_asks 195 = .ok (.aload_n 0, 1) := by decide +kernel
theorem dX7_asks_196 : decode cX7_asks 196 = .ok (.getfield 7, 3) := by decide +kernel
theorem dX7_asks_199 : decode cX7_asks 199 = .ok (.iload_n 2, 1) := by decide +kernel
theorem dX7_asks_200 : decode cX7_asks 200 = .ok (.iconst 4, 1) := by decide +kernel
theorem dX7_asks_201 : decode cX7_asks 201 = .ok (.invokestatic 32, 3) := by decide +kernel
theorem dX7_asks_204 : decode cX7_asks 204 = .ok (.iaload, 1) := by decide +kernel
theorem dX7_asks_205 : decode cX7_asks 205 = .ok (.if_icmp .le 20, 3) := by decide +kernel
theorem dX7_asks_208 : decode cX7_asks 208 = .ok (.aload_n 0, 1) := by decide +kernel
theorem dX7_asks_209 : decode cX7_asks 209 = .ok (.iload_n 1, 1) := by decide +kernel
theorem dX7_asks_210 : decode cX7_asks 210 = .ok (.invokevirtual 90, 3) := by decide +kernel
theorem dX7_asks_213 : decode cX7_asks 213 = .ok (.aload_n 0, 1) := by decide +kernel
theorem dX7_asks_214 : decode cX7_asks 214 = .ok (.getfield 7, 3) := by decide +kernel
theorem dX7_asks_217 : decode cX7_asks 217 = .ok (.sipush 316, 3) := by decide +kernel
theorem dX7_asks_220 : decode cX7_asks 220 = .ok (.dup2, 1) := by decide +kernel
theorem dX7_asks_221 : decode cX7_asks 221 = .ok (.iaload, 1) := by decide +kernel
theorem dX7_asks_222 : decode cX7_asks 222 = .ok (.iconst 1, 1) := by decide +kernel
theorem dX7_asks_223 : decode cX7_asks 223 = .ok (.iadd, 1) := by decide +kernel
theorem dX7_asks_224 : decode cX7_asks 224 = .ok (.iastore, 1) := by decide +kernel
theorem dX7_asks_225 : decode cX7_asks 225 = .ok (.iload_n 3, 1) := by decide +kernel
theorem dX7_asks_226 : decode cX7_asks 226 = .ok (.ireturn, 1) := by decide +kernel
theorem dX7_roots_0 : decode cX7_roots 0 = .ok (.aload_n 0, 1) := by decide +kernel
theorem dX7_roots_1 : decode cX7_roots 1 = .ok (.iload_n 1, 1) := by decide +kernel
theorem dX7_roots_2 : decode cX7_roots 2 = .ok (.invokevirtual 72, 3) := by decide +kernel
theorem dX7_roots_5 : decode cX7_roots 5 = .ok (.ifCond .ne 5, 3) := by decide +kernel
theorem dX7_roots_8 : decode cX7_roots 8 = .ok (.iconst (-1), 1) := by decide +kernel
theorem dX7_roots_9 : decode cX7_roots 9 = .ok (.ireturn, 1) := by decide +kernel
theorem dX7_roots_10 : decode cX7_roots 10 = .ok (.aload_n 0, 1) := by decide +kernel
theorem dX7_roots_11 : decode cX7_roots 11 = .ok (.iload_n 1, 1) := by decide +kernel
theorem dX7_roots_12 : decode cX7_roots 12 = .ok (.invokevirtual 84, 3) := by decide +kernel
theorem dX7_roots_15 : decode cX7_roots 15 = .ok (.istore_n 2, 1) := by decide +kernel
theorem dX7_roots_16 : decode cX7_roots 16 = .ok (.iload_n 2, 1) := by decide +kernel
theorem dX7_roots_17 : decode cX7_roots 17 = .ok (.iload_n 1, 1) := by decide +kernel
theorem dX7_roots_18 : decode cX7_roots 18 = .ok (.if_icmp .ne 6, 3) := by decide +kernel
theorem dX7_roots_21 : decode cX7_roots 21 = .ok (.bipush (-5), 2) := by decide +kernel
theorem dX7_roots_23 : decode cX7_roots 23 = .ok (.ireturn, 1) := by decide +kernel
theorem dX7_roots_24 : decode cX7_roots 24 = .ok (.aload_n 0, 1) := by decide +kernel
theorem dX7_roots_25 : decode cX7_roots 25 = .ok (.iload_n 1, 1) := by decide +kernel
theorem dX7_roots_26 : decode cX7_roots 26 = .ok (.invokevirtual 90, 3) := by decide +kernel
theorem dX7_roots_29 : decode cX7_roots 29 = .ok (.aload_n 0, 1) := by decide +kernel
theorem dX7_roots_30 : decode cX7_roots 30 = .ok (.iload_n 1, 1) := by decide +kernel
theorem dX7_roots_31 : decode cX7_roots 31 = .ok (.iload_n 2, 1) := by decide +kernel
theorem dX7_roots_32 : decode cX7_roots 32 = .ok (.invokevirtual 64, 3) := by decide +kernel
theorem dX7_roots_35 : decode cX7_roots 35 = .ok (.aload_n 0, 1) := by decide +kernel
theorem dX7_roots_36 : decode cX7_roots 36 = .ok (.getfield 51, 3) := by decide +kernel
theorem dX7_roots_39 : decode cX7_roots 39 = .ok (.ireturn, 1) := by decide +kernel
theorem dX7_cuts_0 : decode cX7_cuts 0 = .ok (.aload_n 0, 1) := by decide +kernel
theorem dX7_cuts_1 : decode cX7_cuts 1 = .ok (.iload_n 1, 1) := by decide +kernel
theorem dX7_cuts_2 : decode cX7_cuts 2 = .ok (.invokevirtual 72, 3) := by decide +kernel
theorem dX7_cuts_5 : decode cX7_cuts 5 = .ok (.ifCond .ne 5, 3) := by decide +kernel
theorem dX7_cuts_8 : decode cX7_cuts 8 = .ok (.iconst (-1), 1) := by decide +kernel
theorem dX7_cuts_9 : decode cX7_cuts 9 = .ok (.ireturn, 1) := by decide +kernel
theorem dX7_cuts_10 : decode cX7_cuts 10 = .ok (.iload_n 1, 1) := by decide +kernel
theorem dX7_cuts_11 : decode cX7_cuts 11 = .ok (.ifCond .ne 6, 3) := by decide +kernel
theorem dX7_cuts_14 : decode cX7_cuts 14 = .ok (.bipush (-4), 2) := by decide +kernel
theorem dX7_cuts_16 : decode cX7_cuts 16 = .ok (.ireturn, 1) := by decide +kernel
theorem dX7_cuts_17 : decode cX7_cuts 17 = .ok (.aload_n 0, 1) := by decide +kernel
theorem dX7_cuts_18 : decode cX7_cuts 18 = .ok (.iload_n 1, 1) := by decide +kernel
theorem dX7_cuts_19 : decode cX7_cuts 19 = .ok (.invokevirtual 43, 3) := by decide +kernel
theorem dX7_cuts_22 : decode cX7_cuts 22 = .ok (.ifCond .ne 6, 3) := by decide +kernel
theorem dX7_cuts_25 : decode cX7_cuts 25 = .ok (.bipush (-5), 2) := by decide +kernel
theorem dX7_cuts_27 : decode cX7_cuts 27 = .ok (.ireturn, 1) := by decide +kernel
theorem dX7_cuts_28 : decode cX7_cuts 28 = .ok (.aload_n 0, 1) := by decide +kernel
theorem dX7_cuts_29 : decode cX7_cuts 29 = .ok (.getfield 7, 3) := by decide +kernel
theorem dX7_cuts_32 : decode cX7_cuts 32 = .ok (.iload_n 1, 1) := by decide +kernel
theorem dX7_cuts_33 : decode cX7_cuts 33 = .ok (.iconst 2, 1) := by decide +kernel
theorem dX7_cuts_34 : decode cX7_cuts 34 = .ok (.invokestatic 32, 3) := by decide +kernel
theorem dX7_cuts_37 : decode cX7_cuts 37 = .ok (.iconst 0, 1) := by decide +kernel
theorem dX7_cuts_38 : decode cX7_cuts 38 = .ok (.iastore, 1) := by decide +kernel
theorem dX7_cuts_39 : decode cX7_cuts 39 = .ok (.aload_n 0, 1) := by decide +kernel
theorem dX7_cuts_40 : decode cX7_cuts 40 = .ok (.getfield 7, 3) := by decide +kernel
theorem dX7_cuts_43 : decode cX7_cuts 43 = .ok (.iload_n 1, 1) := by decide +kernel
theorem dX7_cuts_44 : decode cX7_cuts 44 = .ok (.iconst 1, 1) := by decide +kernel
theorem dX7_cuts_45 : decode cX7_cuts 45 = .ok (.invokestatic 32, 3) := by decide +kernel
theorem dX7_cuts_48 : decode cX7_cuts 48 = .ok (.iaload, 1) := by decide +kernel
theorem dX7_cuts_49 : decode cX7_cuts 49 = .ok (.istore_n 2, 1) := by decide +kernel
theorem dX7_cuts_50 : decode cX7_cuts 50 = .ok (.aload_n 0, 1) := by decide +kernel
theorem dX7_cuts_51 : decode cX7_cuts 51 = .ok (.getfield 7, 3) := by decide +kernel
theorem dX7_cuts_54 : decode cX7_cuts 54 = .ok (.aload_n 0, 1) := by decide +kernel
theorem dX7_cuts_55 : decode cX7_cuts 55 = .ok (.iload_n 1, 1) := by decide +kernel
theorem dX7_cuts_56 : decode cX7_cuts 56 = .ok (.invokevirtual 84, 3) := by decide +kernel
theorem dX7_cuts_59 : decode cX7_cuts 59 = .ok (.bipush (-5), 2) := by decide +kernel
theorem dX7_cuts_61 : decode cX7_cuts 61 = .ok (.if_icmp .ne 7, 3) := by decide +kernel
theorem dX7_cuts_64 : decode cX7_cuts 64 = .ok (.iload_n 1, 1) := by decide +kernel
theorem dX7_cuts_65 : decode cX7_cuts 65 = .ok (.goto 4, 3) := by decide +kernel
theorem dX7_cuts_68 : decode cX7_cuts 68 = .ok (.iload_n 2, 1) := by decide +kernel
theorem dX7_cuts_69 : decode cX7_cuts 69 = .ok (.iconst 3, 1) := by decide +kernel
theorem dX7_cuts_70 : decode cX7_cuts 70 = .ok (.invokestatic 32, 3) := by decide +kernel
theorem dX7_cuts_73 : decode cX7_cuts 73 = .ok (.iconst 1, 1) := by decide +kernel
theorem dX7_cuts_74 : decode cX7_cuts 74 = .ok (.iastore, 1) := by decide +kernel
theorem dX7_cuts_75 : decode cX7_cuts 75 = .ok (.aload_n 0, 1) := by decide +kernel
theorem dX7_cuts_76 : decode cX7_cuts 76 = .ok (.iconst 1, 1) := by decide +kernel
theorem dX7_cuts_77 : decode cX7_cuts 77 = .ok (.invokevirtual 81, 3) := by decide +kernel
theorem dX7_cuts_80 : decode cX7_cuts 80 = .ok (.ireturn, 1) := by decide +kernel
theorem dX7_joins_0 : decode cX7_joins 0 = .ok (.aload_n 0, 1) := by decide +kernel
theorem dX7_joins_1 : decode cX7_joins 1 = .ok (.iload_n 1, 1) := by decide +kernel
theorem dX7_joins_2 : decode cX7_joins 2 = .ok (.invokevirtual 72, 3) := by decide +kernel
theorem dX7_joins_5 : decode cX7_joins 5 = .ok (.ifCond .ne 5, 3) := by decide +kernel
theorem dX7_joins_8 : decode cX7_joins 8 = .ok (.iconst (-1), 1) := by decide +kernel
theorem dX7_joins_9 : decode cX7_joins 9 = .ok (.ireturn, 1) := by decide +kernel
theorem dX7_joins_10 : decode cX7_joins 10 = .ok (.iload_n 1, 1) := by decide +kernel
theorem dX7_joins_11 : decode cX7_joins 11 = .ok (.ifCond .ne 6, 3) := by decide +kernel
theorem dX7_joins_14 : decode cX7_joins 14 = .ok (.bipush (-4), 2) := by decide +kernel
theorem dX7_joins_16 : decode cX7_joins 16 = .ok (.ireturn, 1) := by decide +kernel
theorem dX7_joins_17 : decode cX7_joins 17 = .ok (.aload_n 0, 1) := by decide +kernel
theorem dX7_joins_18 : decode cX7_joins 18 = .ok (.iload_n 1, 1) := by decide +kernel
theorem dX7_joins_19 : decode cX7_joins 19 = .ok (.invokevirtual 43, 3) := by decide +kernel
theorem dX7_joins_22 : decode cX7_joins 22 = .ok (.ifCond .eq 6, 3) := by decide +kernel
theorem dX7_joins_25 : decode cX7_joins 25 = .ok (.bipush (-5), 2) := by decide +kernel
theorem dX7_joins_27 : decode cX7_joins 27 = .ok (.ireturn, 1) := by decide +kernel
theorem dX7_joins_28 : decode cX7_joins 28 = .ok (.aload_n 0, 1) := by decide +kernel
theorem dX7_joins_29 : decode cX7_joins 29 = .ok (.getfield 7, 3) := by decide +kernel
theorem dX7_joins_32 : decode cX7_joins 32 = .ok (.aload_n 0, 1) := by decide +kernel
theorem dX7_joins_33 : decode cX7_joins 33 = .ok (.iload_n 1, 1) := by decide +kernel
theorem dX7_joins_34 : decode cX7_joins 34 = .ok (.invokevirtual 84, 3) := by decide +kernel
theorem dX7_joins_37 : decode cX7_joins 37 = .ok (.iconst 3, 1) := by decide +kernel
theorem dX7_joins_38 : decode cX7_joins 38 = .ok (.invokestatic 32, 3) := by decide +kernel
theorem dX7_joins_41 : decode cX7_joins 41 = .ok (.iconst 0, 1) := by decide +kernel
theorem dX7_joins_42 : decode cX7_joins 42 = .ok (.iastore, 1) := by decide +kernel
theorem dX7_joins_43 : decode cX7_joins 43 = .ok (.aload_n 0, 1) := by decide +kernel
theorem dX7_joins_44 : decode cX7_joins 44 = .ok (.getfield 7, 3) := by decide +kernel
theorem dX7_joins_47 : decode cX7_joins 47 = .ok (.iload_n 1, 1) := by decide +kernel
theorem dX7_joins_48 : decode cX7_joins 48 = .ok (.iconst 2, 1) := by decide +kernel
theorem dX7_joins_49 : decode cX7_joins 49 = .ok (.invokestatic 32, 3) := by decide +kernel
theorem dX7_joins_52 : decode cX7_joins 52 = .ok (.iconst 1, 1) := by decide +kernel
theorem dX7_joins_53 : decode cX7_joins 53 = .ok (.iastore, 1) := by decide +kernel
theorem dX7_joins_54 : decode cX7_joins 54 = .ok (.aload_n 0, 1) := by decide +kernel
theorem dX7_joins_55 : decode cX7_joins 55 = .ok (.iconst 1, 1) := by decide +kernel
theorem dX7_joins_56 : decode cX7_joins 56 = .ok (.invokevirtual 81, 3) := by decide +kernel
theorem dX7_joins_59 : decode cX7_joins 59 = .ok (.ireturn, 1) := by decide +kernel
theorem dX7_sets_0 : decode cX7_sets 0 = .ok (.iload_n 1, 1) := by decide +kernel
theorem dX7_sets_1 : decode cX7_sets 1 = .ok (.iconst 0, 1) := by decide +kernel
theorem dX7_sets_2 : decode cX7_sets 2 = .ok (.iconst 1, 1) := by decide +kernel
theorem dX7_sets_3 : decode cX7_sets 3 = .ok (.invokestatic 36, 3) := by decide +kernel
theorem dX7_sets_6 : decode cX7_sets 6 = .ok (.ifCond .ne 5, 3) := by decide +kernel
theorem dX7_sets_9 : decode cX7_sets 9 = .ok (.iconst (-1), 1) := by decide +kernel
theorem dX7_sets_10 : decode cX7_sets 10 = .ok (.ireturn, 1) := by decide +kernel
theorem dX7_sets_11 : decode cX7_sets 11 = .ok (.iload_n 2, 1) := by decide +kernel
theorem dX7_sets_12 : decode cX7_sets 12 = .ok (.iload_n 1, 1) := by decide +kernel
theorem dX7_sets_13 : decode cX7_sets 13 = .ok (.iload_n 1, 1) := by decide +kernel
theorem dX7_sets_14 : decode cX7_sets 14 = .ok (.ifCond .ne 7, 3) := by decide +kernel
theorem dX7_sets_17 : decode cX7_sets 17 = .ok (.iconst 2, 1) := by decide +kernel
theorem dX7_sets_18 : decode cX7_sets 18 = .ok (.goto 5, 3) := by decide +kernel
theorem dX7_sets_21 : decode cX7_sets 21 = .ok (.bipush 30, 2) := by decide +kernel
theorem dX7_sets_23 : decode cX7_sets 23 = .ok (.invokestatic 36, 3) := by decide +kernel
theorem dX7_sets_26 : decode cX7_sets 26 = .ok (.ifCond .ne 6, 3) := by decide +kernel
theorem dX7_sets_29 : decode cX7_sets 29 = .ok (.bipush (-2), 2) := by decide +kernel
theorem dX7_sets_31 : decode cX7_sets 31 = .ok (.ireturn, 1) := by decide +kernel
theorem dX7_sets_32 : decode cX7_sets 32 = .ok (.aload_n 0, 1) := by decide +kernel
theorem dX7_sets_33 : decode cX7_sets 33 = .ok (.getfield 7, 3) := by decide +kernel
theorem dX7_sets_36 : decode cX7_sets 36 = .ok (.sipush 312, 3) := by decide +kernel
theorem dX7_sets_39 : decode cX7_sets 39 = .ok (.iload_n 1, 1) := by decide +kernel
theorem dX7_sets_40 : decode cX7_sets 40 = .ok (.iadd, 1) := by decide +kernel
theorem dX7_sets_41 : decode cX7_sets 41 = .ok (.iaload, 1) := by decide +kernel
theorem dX7_sets_42 : decode cX7_sets 42 = .ok (.istore_n 3, 1) := by decide +kernel
theorem dX7_sets_43 : decode cX7_sets 43 = .ok (.aload_n 0, 1) := by decide +kernel
theorem dX7_sets_44 : decode cX7_sets 44 = .ok (.getfield 7, 3) := by decide +kernel
theorem dX7_sets_47 : decode cX7_sets 47 = .ok (.sipush 312, 3) := by decide +kernel
theorem dX7_sets_50 : decode cX7_sets 50 = .ok (.iload_n 1, 1) := by decide +kernel
theorem dX7_sets_51 : decode cX7_sets 51 = .ok (.iadd, 1) := by decide +kernel
theorem dX7_sets_52 : decode cX7_sets 52 = .ok (.iload_n 2, 1) := by decide +kernel
theorem dX7_sets_53 : decode cX7_sets 53 = .ok (.iastore, 1) := by decide +kernel
theorem dX7_sets_54 : decode cX7_sets 54 = .ok (.iload_n 3, 1) := by decide +kernel
theorem dX7_sets_55 : decode cX7_sets 55 = .ok (.iload_n 2, 1) := by decide +kernel
theorem dX7_sets_56 : decode cX7_sets 56 = .ok (.if_icmp .ne 8, 3) := by decide +kernel
theorem dX7_sets_59 : decode cX7_sets 59 = .ok (.bipush (-5), 2) := by decide +kernel
theorem dX7_sets_61 : decode cX7_sets 61 = .ok (.goto 4, 3) := by decide +kernel
theorem dX7_sets_64 : decode cX7_sets 64 = .ok (.iload_n 3, 1) := by decide +kernel
theorem dX7_sets_65 : decode cX7_sets 65 = .ok (.ireturn, 1) := by decide +kernel
theorem dX7_make_0 : decode cX7_make 0 = .ok (.aload_n 0, 1) := by decide +kernel
theorem dX7_make_1 : decode cX7_make 1 = .ok (.invokevirtual 94, 3) := by decide +kernel
theorem dX7_make_4 : decode cX7_make 4 = .ok (.aload_n 0, 1) := by decide +kernel
theorem dX7_make_5 : decode cX7_make 5 = .ok (.aload_n 0, 1) := by decide +kernel
theorem dX7_make_6 : decode cX7_make 6 = .ok (.iload_n 1, 1) := by decide +kernel
theorem dX7_make_7 : decode cX7_make 7 = .ok (.iload_n 2, 1) := by decide +kernel
theorem dX7_make_8 : decode cX7_make 8 = .ok (.iload_n 3, 1) := by decide +kernel
theorem dX7_make_9 : decode cX7_make 9 = .ok (.invokevirtual 97, 3) := by decide +kernel
theorem dX7_make_12 : decode cX7_make 12 = .ok (.invokevirtual 101, 3) := by decide +kernel
theorem dX7_make_15 : decode cX7_make 15 = .ok (.ireturn, 1) := by decide +kernel
theorem dX7_mix_0 : decode cX7_mix 0 = .ok (.aload_n 0, 1) := by decide +kernel
theorem dX7_mix_1 : decode cX7_mix 1 = .ok (.invokevirtual 94, 3) := by decide +kernel
theorem dX7_mix_4 : decode cX7_mix 4 = .ok (.aload_n 0, 1) := by decide +kernel
theorem dX7_mix_5 : decode cX7_mix 5 = .ok (.aload_n 0, 1) := by decide +kernel
theorem dX7_mix_6 : decode cX7_mix 6 = .ok (.iload_n 1, 1) := by decide +kernel
theorem dX7_mix_7 : decode cX7_mix 7 = .ok (.iload_n 2, 1) := by decide +kernel
theorem dX7_mix_8 : decode cX7_mix 8 = .ok (.iload_n 3, 1) := by decide +kernel
theorem dX7_mix_9 : decode cX7_mix 9 = .ok (.invokevirtual 104, 3) := by decide +kernel
theorem dX7_mix_12 : decode cX7_mix 12 = .ok (.invokevirtual 101, 3) := by decide +kernel
theorem dX7_mix_15 : decode cX7_mix 15 = .ok (.ireturn, 1) := by decide +kernel
theorem dX7_remove_0 : decode cX7_remove 0 = .ok (.aload_n 0, 1) := by decide +kernel
theorem dX7_remove_1 : decode cX7_remove 1 = .ok (.invokevirtual 94, 3) := by decide +kernel
theorem dX7_remove_4 : decode cX7_remove 4 = .ok (.aload_n 0, 1) := by decide +kernel
theorem dX7_remove_5 : decode cX7_remove 5 = .ok (.aload_n 0, 1) := by decide +kernel
theorem dX7_remove_6 : decode cX7_remove 6 = .ok (.iload_n 1, 1) := by decide +kernel
theorem dX7_remove_7 : decode cX7_remove 7 = .ok (.invokevirtual 107, 3) := by decide +kernel
theorem dX7_remove_10 : decode cX7_remove 10 = .ok (.invokevirtual 101, 3) := by decide +kernel
theorem dX7_remove_13 : decode cX7_remove 13 = .ok (.ireturn, 1) := by decide +kernel
theorem dX7_ask_0 : decode cX7_ask 0 = .ok (.aload_n 0, 1) := by decide +kernel
theorem dX7_ask_1 : decode cX7_ask 1 = .ok (.invokevirtual 94, 3) := by decide +kernel
theorem dX7_ask_4 : decode cX7_ask 4 = .ok (.aload_n 0, 1) := by decide +kernel
theorem dX7_ask_5 : decode cX7_ask 5 = .ok (.aload_n 0, 1) := by decide +kernel
theorem dX7_ask_6 : decode cX7_ask 6 = .ok (.iload_n 1, 1) := by decide +kernel
theorem dX7_ask_7 : decode cX7_ask 7 = .ok (.invokevirtual 110, 3) := by decide +kernel
theorem dX7_ask_10 : decode cX7_ask 10 = .ok (.invokevirtual 101, 3) := by decide +kernel
theorem dX7_ask_13 : decode cX7_ask 13 = .ok (.ireturn, 1) := by decide +kernel
theorem dX7_root_0 : decode cX7_root 0 = .ok (.aload_n 0, 1) := by decide +kernel
theorem dX7_root_1 : decode cX7_root 1 = .ok (.invokevirtual 94, 3) := by decide +kernel
theorem dX7_root_4 : decode cX7_root 4 = .ok (.aload_n 0, 1) := by decide +kernel
theorem dX7_root_5 : decode cX7_root 5 = .ok (.aload_n 0, 1) := by decide +kernel
theorem dX7_root_6 : decode cX7_root 6 = .ok (.iload_n 1, 1) := by decide +kernel
theorem dX7_root_7 : decode cX7_root 7 = .ok (.invokevirtual 113, 3) := by decide +kernel
theorem dX7_root_10 : decode cX7_root 10 = .ok (.invokevirtual 101, 3) := by decide +kernel
theorem dX7_root_13 : decode cX7_root 13 = .ok (.ireturn, 1) := by decide +kernel
theorem dX7_cut_0 : decode cX7_cut 0 = .ok (.aload_n 0, 1) := by decide +kernel
theorem dX7_cut_1 : decode cX7_cut 1 = .ok (.invokevirtual 94, 3) := by decide +kernel
theorem dX7_cut_4 : decode cX7_cut 4 = .ok (.aload_n 0, 1) := by decide +kernel
theorem dX7_cut_5 : decode cX7_cut 5 = .ok (.aload_n 0, 1) := by decide +kernel
theorem dX7_cut_6 : decode cX7_cut 6 = .ok (.iload_n 1, 1) := by decide +kernel
theorem dX7_cut_7 : decode cX7_cut 7 = .ok (.invokevirtual 116, 3) := by decide +kernel
theorem dX7_cut_10 : decode cX7_cut 10 = .ok (.invokevirtual 101, 3) := by decide +kernel
theorem dX7_cut_13 : decode cX7_cut 13 = .ok (.ireturn, 1) := by decide +kernel
theorem dX7_join_0 : decode cX7_join 0 = .ok (.aload_n 0, 1) := by decide +kernel
theorem dX7_join_1 : decode cX7_join 1 = .ok (.invokevirtual 94, 3) := by decide +kernel
theorem dX7_join_4 : decode cX7_join 4 = .ok (.aload_n 0, 1) := by decide +kernel
theorem dX7_join_5 : decode cX7_join 5 = .ok (.aload_n 0, 1) := by decide +kernel
theorem dX7_join_6 : decode cX7_join 6 = .ok (.iload_n 1, 1) := by decide +kernel
theorem dX7_join_7 : decode cX7_join 7 = .ok (.invokevirtual 119, 3) := by decide +kernel
theorem dX7_join_10 : decode cX7_join 10 = .ok (.invokevirtual 101, 3) := by decide +kernel
theorem dX7_join_13 : decode cX7_join 13 = .ok (.ireturn, 1) := by decide +kernel
theorem dX7_set_0 : decode cX7_set 0 = .ok (.aload_n 0, 1) := by decide +kernel
theorem dX7_set_1 : decode cX7_set 1 = .ok (.invokevirtual 94, 3) := by decide +kernel
theorem dX7_set_4 : decode cX7_set 4 = .ok (.aload_n 0, 1) := by decide +kernel
theorem dX7_set_5 : decode cX7_set 5 = .ok (.aload_n 0, 1) := by decide +kernel
theorem dX7_set_6 : decode cX7_set 6 = .ok (.iload_n 1, 1) := by decide +kernel
theorem dX7_set_7 : decode cX7_set 7 = .ok (.iload_n 2, 1) := by decide +kernel
theorem dX7_set_8 : decode cX7_set 8 = .ok (.invokevirtual 122, 3) := by decide +kernel
theorem dX7_set_11 : decode cX7_set 11 = .ok (.invokevirtual 101, 3) := by decide +kernel
theorem dX7_set_14 : decode cX7_set 14 = .ok (.ireturn, 1) := by decide +kernel
theorem dX7_type_0 : decode cX7_type 0 = .ok (.aload_n 0, 1) := by decide +kernel
theorem dX7_type_1 : decode cX7_type 1 = .ok (.getfield 125, 3) := by decide +kernel
theorem dX7_type_4 : decode cX7_type 4 = .ok (.bipush 80, 2) := by decide +kernel
theorem dX7_type_6 : decode cX7_type 6 = .ok (.if_icmp .ne 6, 3) := by decide +kernel
theorem dX7_type_9 : decode cX7_type 9 = .ok (.bipush (-3), 2) := by decide +kernel
theorem dX7_type_11 : decode cX7_type 11 = .ok (.ireturn, 1) := by decide +kernel
theorem dX7_type_12 : decode cX7_type 12 = .ok (.aload_n 0, 1) := by decide +kernel
theorem dX7_type_13 : decode cX7_type 13 = .ok (.getfield 22, 3) := by decide +kernel
theorem dX7_type_16 : decode cX7_type 16 = .ok (.aload_n 0, 1) := by decide +kernel
theorem dX7_type_17 : decode cX7_type 17 = .ok (.getfield 125, 3) := by decide +kernel
theorem dX7_type_20 : decode cX7_type 20 = .ok (.iload_n 1, 1) := by decide +kernel
theorem dX7_type_21 : decode cX7_type 21 = .ok (.iastore, 1) := by decide +kernel
theorem dX7_type_22 : decode cX7_type 22 = .ok (.aload_n 0, 1) := by decide +kernel
theorem dX7_type_23 : decode cX7_type 23 = .ok (.dup, 1) := by decide +kernel
theorem dX7_type_24 : decode cX7_type 24 = .ok (.getfield 125, 3) := by decide +kernel
theorem dX7_type_27 : decode cX7_type 27 = .ok (.iconst 1, 1) := by decide +kernel
theorem dX7_type_28 : decode cX7_type 28 = .ok (.iadd, 1) := by decide +kernel
theorem dX7_type_29 : decode cX7_type 29 = .ok (.putfield 125, 3) := by decide +kernel
theorem dX7_type_32 : decode cX7_type 32 = .ok (.aload_n 0, 1) := by decide +kernel
theorem dX7_type_33 : decode cX7_type 33 = .ok (.getfield 125, 3) := by decide +kernel
theorem dX7_type_36 : decode cX7_type 36 = .ok (.ireturn, 1) := by decide +kernel
theorem dX7_clearText_0 : decode cX7_clearText 0 = .ok (.aload_n 0, 1) := by decide +kernel
theorem dX7_clearText_1 : decode cX7_clearText 1 = .ok (.getfield 125, 3) := by decide +kernel
theorem dX7_clearText_4 : decode cX7_clearText 4 = .ok (.istore_n 1, 1) := by decide +kernel
theorem dX7_clearText_5 : decode cX7_clearText 5 = .ok (.aload_n 0, 1) := by decide +kernel
theorem dX7_clearText_6 : decode cX7_clearText 6 = .ok (.iconst 0, 1) := by decide +kernel
theorem dX7_clearText_7 : decode cX7_clearText 7 = .ok (.putfield 125, 3) := by decide +kernel
theorem dX7_clearText_10 : decode cX7_clearText 10 = .ok (.iload_n 1, 1) := by decide +kernel
theorem dX7_clearText_11 : decode cX7_clearText 11 = .ok (.ireturn, 1) := by decide +kernel
theorem dX7_sign_0 : decode cX7_sign 0 = .ok (.aload_n 0, 1) := by decide +kernel
theorem dX7_sign_1 : decode cX7_sign 1 = .ok (.aload_n 0, 1) := by decide +kernel
theorem dX7_sign_2 : decode cX7_sign 2 = .ok (.getfield 128, 3) := by decide +kernel
theorem dX7_sign_5 : decode cX7_sign 5 = .ok (.ifCond .ne 27, 3) := by decide +kernel
theorem dX7_sign_8 : decode cX7_sign 8 = .ok (.aload_n 0, 1) := by decide +kernel
theorem dX7_sign_9 : decode cX7_sign 9 = .ok (.getfield 132, 3) := by decide +kernel
theorem dX7_sign_12 : decode cX7_sign 12 = .ok (.aload_n 0, 1) := by decide +kernel
theorem dX7_sign_13 : decode cX7_sign 13 = .ok (.getfield 125, 3) := by decide +kernel
theorem dX7_sign_16 : decode cX7_sign 16 = .ok (.if_icmp .ge 16, 3) := by decide +kernel
theorem dX7_sign_19 : decode cX7_sign 19 = .ok (.aload_n 0, 1) := by decide +kernel
theorem dX7_sign_20 : decode cX7_sign 20 = .ok (.getfield 22, 3) := by decide +kernel
theorem dX7_sign_23 : decode cX7_sign 23 = .ok (.aload_n 0, 1) := by decide +kernel
theorem dX7_sign_24 : decode cX7_sign 24 = .ok (.getfield 132, 3) := by decide +kernel
theorem dX7_sign_27 : decode cX7_sign 27 = .ok (.iaload, 1) := by decide +kernel
theorem dX7_sign_28 : decode cX7_sign 28 = .ok (.iload_n 1, 1) := by decide +kernel
theorem dX7_sign_29 : decode cX7_sign 29 = .ok (.if_icmp .eq 7, 3) := by decide +kernel
theorem dX7_sign_32 : decode cX7_sign 32 = .ok (.iconst 1, 1) := by decide +kernel
theorem dX7_sign_33 : decode cX7_sign 33 = .ok (.goto 4, 3) := by decide +kernel
theorem dX7_sign_36 : decode cX7_sign 36 = .ok (.iconst 0, 1) := by decide +kernel
theorem dX7_sign_37 : decode cX7_sign 37 = .ok (.putfield 128, 3) := by decide +kernel
theorem dX7_sign_40 : decode cX7_sign 40 = .ok (.aload_n 0, 1) := by decide +kernel
theorem dX7_sign_41 : decode cX7_sign 41 = .ok (.dup, 1) := by decide +kernel
theorem dX7_sign_42 : decode cX7_sign 42 = .ok (.getfield 132, 3) := by decide +kernel
theorem dX7_sign_45 : decode cX7_sign 45 = .ok (.aload_n 0, 1) := by decide +kernel
theorem dX7_sign_46 : decode cX7_sign 46 = .ok (.getfield 128, 3) := by decide +kernel
theorem dX7_sign_49 : decode cX7_sign 49 = .ok (.ifCond .eq 7, 3) := by decide +kernel
theorem dX7_sign_52 : decode cX7_sign 52 = .ok (.iconst 0, 1) := by decide +kernel
theorem dX7_sign_53 : decode cX7_sign 53 = .ok (.goto 4, 3) := by decide +kernel
theorem dX7_sign_56 : decode cX7_sign 56 = .ok (.iconst 1, 1) := by decide +kernel
theorem dX7_sign_57 : decode cX7_sign 57 = .ok (.iadd, 1) := by decide +kernel
theorem dX7_sign_58 : decode cX7_sign 58 = .ok (.putfield 132, 3) := by decide +kernel
theorem dX7_sign_61 : decode cX7_sign 61 = .ok (.return_, 1) := by decide +kernel
theorem dX7_isNext_0 : decode cX7_isNext 0 = .ok (.aload_n 0, 1) := by decide +kernel
theorem dX7_isNext_1 : decode cX7_isNext 1 = .ok (.getfield 128, 3) := by decide +kernel
theorem dX7_isNext_4 : decode cX7_isNext 4 = .ok (.ifCond .ne 35, 3) := by decide +kernel
theorem dX7_isNext_7 : decode cX7_isNext 7 = .ok (.aload_n 0, 1) := by decide +kernel
theorem dX7_isNext_8 : decode cX7_isNext 8 = .ok (.getfield 132, 3) := by decide +kernel
theorem dX7_isNext_11 : decode cX7_isNext 11 = .ok (.aload_n 0, 1) := by decide +kernel
theorem dX7_isNext_12 : decode cX7_isNext 12 = .ok (.getfield 125, 3) := by decide +kernel
theorem dX7_isNext_15 : decode cX7_isNext 15 = .ok (.if_icmp .ge 24, 3) := by decide +kernel
theorem dX7_isNext_18 : decode cX7_isNext 18 = .ok (.aload_n 0, 1) := by decide +kernel
theorem dX7_isNext_19 : decode cX7_isNext 19 = .ok (.getfield 22, 3) := by decide +kernel
theorem dX7_isNext_22 : decode cX7_isNext 22 = .ok (.aload_n 0, 1) := by decide +kernel
theorem dX7_isNext_23 : decode cX7_isNext 23 = .ok (.getfield 132, 3) := by decide +kernel
theorem dX7_isNext_26 : decode cX7_isNext 26 = .ok (.iaload, 1) := by decide +kernel
theorem dX7_isNext_27 : decode cX7_isNext 27 = .ok (.iload_n 1, 1) := by decide +kernel
theorem dX7_isNext_28 : decode cX7_isNext 28 = .ok (.iload_n 2, 1) := by decide +kernel
theorem dX7_isNext_29 : decode cX7_isNext 29 = .ok (.invokestatic 36, 3) := by decide +kernel
theorem dX7_isNext_32 : decode cX7_isNext 32 = .ok (.ifCond .eq 7, 3) := by decide +kernel
theorem dX7_isNext_35 : decode cX7_isNext 35 = .ok (.iconst 1, 1) := by decide +kernel
theorem dX7_isNext_36 : decode cX7_isNext 36 = .ok (.goto 4, 3) := by decide +kernel
theorem dX7_isNext_39 : decode cX7_isNext 39 = .ok (.iconst 0, 1) := by decide +kernel
theorem dX7_isNext_40 : decode cX7_isNext 40 = .ok (.ireturn, 1) := by decide +kernel
theorem dX7_signs_0 : decode cX7_signs 0 = .ok (.aload_n 0, 1) := by decide +kernel
theorem dX7_signs_1 : decode cX7_signs 1 = .ok (.iload_n 1, 1) := by decide +kernel
theorem dX7_signs_2 : decode cX7_signs 2 = .ok (.invokevirtual 135, 3) := by decide +kernel
theorem dX7_signs_5 : decode cX7_signs 5 = .ok (.aload_n 0, 1) := by decide +kernel
theorem dX7_signs_6 : decode cX7_signs 6 = .ok (.iload_n 2, 1) := by decide +kernel
theorem dX7_signs_7 : decode cX7_signs 7 = .ok (.invokevirtual 135, 3) := by decide +kernel
theorem dX7_signs_10 : decode cX7_signs 10 = .ok (.aload_n 0, 1) := by decide +kernel
theorem dX7_signs_11 : decode cX7_signs 11 = .ok (.iload_n 3, 1) := by decide +kernel
theorem dX7_signs_12 : decode cX7_signs 12 = .ok (.invokevirtual 135, 3) := by decide +kernel
theorem dX7_signs_15 : decode cX7_signs 15 = .ok (.return_, 1) := by decide +kernel
theorem dX7_number_0 : decode cX7_number 0 = .ok (.aload_n 0, 1) := by decide +kernel
theorem dX7_number_1 : decode cX7_number 1 = .ok (.bipush 32, 2) := by decide +kernel
theorem dX7_number_3 : decode cX7_number 3 = .ok (.invokevirtual 135, 3) := by decide +kernel
theorem dX7_number_6 : decode cX7_number 6 = .ok (.aload_n 0, 1) := by decide +kernel
theorem dX7_number_7 : decode cX7_number 7 = .ok (.aload_n 0, 1) := by decide +kernel
theorem dX7_number_8 : decode cX7_number 8 = .ok (.getfield 128, 3) := by decide +kernel
theorem dX7_number_11 : decode cX7_number 11 = .ok (.ifCond .ne 30, 3) := by decide +kernel
theorem dX7_number_14 : decode cX7_number 14 = .ok (.aload_n 0, 1) := by decide +kernel
theorem dX7_number_15 : decode cX7_number 15 = .ok (.bipush 48, 2) := by decide +kernel
theorem dX7_number_17 : decode cX7_number 17 = .ok (.bipush 57, 2) := by decide +kernel
theorem dX7_number_19 : decode cX7_number 19 = .ok (.invokevirtual 138, 3) := by decide +kernel
theorem dX7_number_22 : decode cX7_number 22 = .ok (.ifCond .eq 19, 3) := by decide +kernel
theorem dX7_number_25 : decode cX7_number 25 = .ok (.aload_n 0, 1) := by decide +kernel
theorem dX7_number_26 : decode cX7_number 26 = .ok (.getfield 22, 3) := by decide +kernel
theorem dX7_number_29 : decode cX7_number 29 = .ok (.aload_n 0, 1) := by decide +kernel
theorem dX7_number_30 : decode cX7_number 30 = .ok (.getfield 132, 3) := by decide +kernel
theorem dX7_number_33 : decode cX7_number 33 = .ok (.iaload, 1) := by decide +kernel
theorem dX7_number_34 : decode cX7_number 34 = .ok (.bipush 48, 2) := by decide +kernel
theorem dX7_number_36 : decode cX7_number 36 = .ok (.isub, 1) := by decide +kernel
theorem dX7_number_37 : decode cX7_number 37 = .ok (.iload_n 1, 1) := by decide +kernel
theorem dX7_number_38 : decode cX7_number 38 = .ok (.if_icmp .le 7, 3) := by decide +kernel
theorem dX7_number_41 : decode cX7_number 41 = .ok (.iconst 1, 1) := by decide +kernel
theorem dX7_number_42 : decode cX7_number 42 = .ok (.goto 4, 3) := by decide +kernel
theorem dX7_number_45 : decode cX7_number 45 = .ok (.iconst 0, 1) := by decide +kernel
theorem dX7_number_46 : decode cX7_number 46 = .ok (.putfield 128, 3) := by decide +kernel
theorem dX7_number_49 : decode cX7_number 49 = .ok (.aload_n 0, 1) := by decide +kernel
theorem dX7_number_50 : decode cX7_number 50 = .ok (.getfield 128, 3) := by decide +kernel
theorem dX7_number_53 : decode cX7_number 53 = .ok (.ifCond .eq 5, 3) := by decide +kernel
theorem dX7_number_56 : decode cX7_number 56 = .ok (.iconst 0, 1) := by decide +kernel
theorem dX7_number_57 : decode cX7_number 57 = .ok (.ireturn, 1) := by decide +kernel
theorem dX7_number_58 : decode cX7_number 58 = .ok (.aload_n 0, 1) := by decide +kernel
theorem dX7_number_59 : decode cX7_number 59 = .ok (.getfield 22, 3) := by decide +kernel
theorem dX7_number_62 : decode cX7_number 62 = .ok (.aload_n 0, 1) := by decide +kernel
theorem dX7_number_63 : decode cX7_number 63 = .ok (.getfield 132, 3) := by decide +kernel
theorem dX7_number_66 : decode cX7_number 66 = .ok (.iaload, 1) := by decide +kernel
theorem dX7_number_67 : decode cX7_number 67 = .ok (.bipush 48, 2) := by decide +kernel
theorem dX7_number_69 : decode cX7_number 69 = .ok (.isub, 1) := by decide +kernel
theorem dX7_number_70 : decode cX7_number 70 = .ok (.istore_n 2, 1) := by decide +kernel
theorem dX7_number_71 : decode cX7_number 71 = .ok (.aload_n 0, 1) := by decide +kernel
theorem dX7_number_72 : decode cX7_number 72 = .ok (.dup, 1) := by decide +kernel
theorem dX7_number_73 : decode cX7_number 73 = .ok (.getfield 132, 3) := by decide +kernel
theorem dX7_number_76 : decode cX7_number 76 = .ok (.iconst 1, 1) := by decide +kernel
theorem dX7_number_77 : decode cX7_number 77 = .ok (.iadd, 1) := by decide +kernel
theorem dX7_number_78 : decode cX7_number 78 = .ok (.putfield 132, 3) := by decide +kernel
theorem dX7_number_81 : decode cX7_number 81 = .ok (.iload_n 2, 1) := by decide +kernel
theorem dX7_number_82 : decode cX7_number 82 = .ok (.ifCond .le 66, 3) := by decide +kernel
theorem dX7_number_85 : decode cX7_number 85 = .ok (.aload_n 0, 1) := by decide +kernel
theorem dX7_number_86 : decode cX7_number 86 = .ok (.bipush 48, 2) := by decide +kernel
theorem dX7_number_88 : decode cX7_number 88 = .ok (.bipush 57, 2) := by decide +kernel
theorem dX7_number_90 : decode cX7_number 90 = .ok (.invokevirtual 138, 3) := by decide +kernel
theorem dX7_number_93 : decode cX7_number 93 = .ok (.ifCond .eq 55, 3) := by decide +kernel
theorem dX7_number_96 : decode cX7_number 96 = .ok (.bipush 10, 2) := by decide +kernel
theorem dX7_number_98 : decode cX7_number 98 = .ok (.iload_n 2, 1) := by decide +kernel
theorem dX7_number_99 : decode cX7_number 99 = .ok (.imul, 1) := by decide +kernel
theorem dX7_number_100 : decode cX7_number 100 = .ok (.aload_n 0, 1) := by decide +kernel
theorem dX7_number_101 : decode cX7_number 101 = .ok (.getfield 22, 3) := by decide +kernel
theorem dX7_number_104 : decode cX7_number 104 = .ok (.aload_n 0, 1) := by decide +kernel
theorem dX7_number_105 : decode cX7_number 105 = .ok (.getfield 132, 3) := by decide +kernel
theorem dX7_number_108 : decode cX7_number 108 = .ok (.iaload, 1) := by decide +kernel
theorem dX7_number_109 : decode cX7_number 109 = .ok (.iadd, 1) := by decide +kernel
theorem dX7_number_110 : decode cX7_number 110 = .ok (.bipush 48, 2) := by decide +kernel
theorem dX7_number_112 : decode cX7_number 112 = .ok (.isub, 1) := by decide +kernel
theorem dX7_number_113 : decode cX7_number 113 = .ok (.iload_n 1, 1) := by decide +kernel
theorem dX7_number_114 : decode cX7_number 114 = .ok (.if_icmp .gt 34, 3) := by decide +kernel
theorem dX7_number_117 : decode cX7_number 117 = .ok (.bipush 10, 2) := by decide +kernel
theorem dX7_number_119 : decode cX7_number 119 = .ok (.iload_n 2, 1) := by decide +kernel
theorem dX7_number_120 : decode cX7_number 120 = .ok (.imul, 1) := by decide +kernel
theorem dX7_number_121 : decode cX7_number 121 = .ok (.aload_n 0, 1) := by decide +kernel
theorem dX7_number_122 : decode cX7_number 122 = .ok (.getfield 22, 3) := by decide +kernel
theorem dX7_number_125 : decode cX7_number 125 = .ok (.aload_n 0, 1) := by decide +kernel
theorem dX7_number_126 : decode cX7_number 126 = .ok (.getfield 132, 3) := by decide +kernel
theorem dX7_number_129 : decode cX7_number 129 = .ok (.iaload, 1) := by decide +kernel
theorem dX7_number_130 : decode cX7_number 130 = .ok (.iadd, 1) := by decide +kernel
theorem dX7_number_131 : decode cX7_number 131 = .ok (.bipush 48, 2) := by decide +kernel
theorem dX7_number_133 : decode cX7_number 133 = .ok (.isub, 1) := by decide +kernel
theorem dX7_number_134 : decode cX7_number 134 = .ok (.istore_n 2, 1) := by decide +kernel
theorem dX7_number_135 : decode cX7_number 135 = .ok (.aload_n 0, 1) := by decide +kernel
theorem dX7_number_136 : decode cX7_number 136 = .ok (.dup, 1) := by decide +kernel
theorem dX7_number_137 : decode cX7_number 137 = .ok (.getfield 132, 3) := by decide +kernel
theorem dX7_number_140 : decode cX7_number 140 = .ok (.iconst 1, 1) := by decide +kernel
theorem dX7_number_141 : decode cX7_number 141 = .ok (.iadd, 1) := by decide +kernel
theorem dX7_number_142 : decode cX7_number 142 = .ok (.putfield 132, 3) := by decide +kernel
theorem dX7_number_145 : decode cX7_number 145 = .ok (.goto (-64), 3) := by decide +kernel
theorem dX7_number_148 : decode cX7_number 148 = .ok (.iload_n 2, 1) := by decide +kernel
theorem dX7_number_149 : decode cX7_number 149 = .ok (.ireturn, 1) := by decide +kernel
theorem dX7_cells_0 : decode cX7_cells 0 = .ok (.aload_n 0, 1) := by decide +kernel
theorem dX7_cells_1 : decode cX7_cells 1 = .ok (.bipush 32, 2) := by decide +kernel
theorem dX7_cells_3 : decode cX7_cells 3 = .ok (.invokevirtual 135, 3) := by decide +kernel
theorem dX7_cells_6 : decode cX7_cells 6 = .ok (.iconst 0, 1) := by decide +kernel
theorem dX7_cells_7 : decode cX7_cells 7 = .ok (.istore_n 1, 1) := by decide +kernel
theorem dX7_cells_8 : decode cX7_cells 8 = .ok (.bipush 47, 2) := by decide +kernel
theorem dX7_cells_10 : decode cX7_cells 10 = .ok (.istore_n 2, 1) := by decide +kernel
theorem dX7_cells_11 : decode cX7_cells 11 = .ok (.aload_n 0, 1) := by decide +kernel
theorem dX7_cells_12 : decode cX7_cells 12 = .ok (.aload_n 0, 1) := by decide +kernel
theorem dX7_cells_13 : decode cX7_cells 13 = .ok (.getfield 128, 3) := by decide +kernel
theorem dX7_cells_16 : decode cX7_cells 16 = .ok (.ifCond .ne 14, 3) := by decide +kernel
theorem dX7_cells_19 : decode cX7_cells 19 = .ok (.aload_n 0, 1) := by decide +kernel
theorem dX7_cells_20 : decode cX7_cells 20 = .ok (.bipush 48, 2) := by decide +kernel
theorem dX7_cells_22 : decode cX7_cells 22 = .ok (.bipush 55, 2) := by decide +kernel
theorem dX7_cells_24 : decode cX7_cells 24 = .ok (.invokevirtual 138, 3) := by decide +kernel
theorem dX7_cells_27 : decode cX7_cells 27 = .ok (.ifCond .ne 7, 3) := by decide +kernel
theorem dX7_cells_30 : decode cX7_cells 30 = .ok (.iconst 1, 1) := by decide +kernel
theorem dX7_cells_31 : decode cX7_cells 31 = .ok (.goto 4, 3) := by decide +kernel
theorem dX7_cells_34 : decode cX7_cells 34 = .ok (.iconst 0, 1) := by decide +kernel
theorem dX7_cells_35 : decode cX7_cells 35 = .ok (.putfield 128, 3) := by decide +kernel
theorem dX7_cells_38 : decode cX7_cells 38 = .ok (.aload_n 0, 1) := by decide +kernel
theorem dX7_cells_39 : decode cX7_cells 39 = .ok (.iload_n 2, 1) := by decide +kernel
theorem dX7_cells_40 : decode cX7_cells 40 = .ok (.iconst 1, 1) := by decide +kernel
theorem dX7_cells_41 : decode cX7_cells 41 = .ok (.iadd, 1) := by decide +kernel
theorem dX7_cells_42 : decode cX7_cells 42 = .ok (.bipush 55, 2) := by decide +kernel
theorem dX7_cells_44 : decode cX7_cells 44 = .ok (.invokevirtual 138, 3) := by decide +kernel
theorem dX7_cells_47 : decode cX7_cells 47 = .ok (.ifCond .eq 35, 3) := by decide +kernel
theorem dX7_cells_50 : decode cX7_cells 50 = .ok (.aload_n 0, 1) := by decide +kernel
theorem dX7_cells_51 : decode cX7_cells 51 = .ok (.getfield 22, 3) := by decide +kernel
theorem dX7_cells_54 : decode cX7_cells 54 = .ok (.aload_n 0, 1) := by decide +kernel
theorem dX7_cells_55 : decode cX7_cells 55 = .ok (.getfield 132, 3) := by decide +kernel
theorem dX7_cells_58 : decode cX7_cells 58 = .ok (.iaload, 1) := by decide +kernel
theorem dX7_cells_59 : decode cX7_cells 59 = .ok (.istore_n 2, 1) := by decide +kernel
theorem dX7_cells_60 : decode cX7_cells 60 = .ok (.iload_n 1, 1) := by decide +kernel
theorem dX7_cells_61 : decode cX7_cells 61 = .ok (.iconst 1, 1) := by decide +kernel
theorem dX7_cells_62 : decode cX7_cells 62 = .ok (.iload_n 2, 1) := by decide +kernel
theorem dX7_cells_63 : decode cX7_cells 63 = .ok (.bipush 48, 2) := by decide +kernel
theorem dX7_cells_65 : decode cX7_cells 65 = .ok (.isub, 1) := by decide +kernel
theorem dX7_cells_66 : decode cX7_cells 66 = .ok (.ishl, 1) := by decide +kernel
theorem dX7_cells_67 : decode cX7_cells 67 = .ok (.ior, 1) := by decide +kernel
theorem dX7_cells_68 : decode cX7_cells 68 = .ok (.istore_n 1, 1) := by decide +kernel
theorem dX7_cells_69 : decode cX7_cells 69 = .ok (.aload_n 0, 1) := by decide +kernel
theorem dX7_cells_70 : decode cX7_cells 70 = .ok (.dup, 1) := by decide +kernel
theorem dX7_cells_71 : decode cX7_cells 71 = .ok (.getfield 132, 3) := by decide +kernel
theorem dX7_cells_74 : decode cX7_cells 74 = .ok (.iconst 1, 1) := by decide +kernel
theorem dX7_cells_75 : decode cX7_cells 75 = .ok (.iadd, 1) := by decide +kernel
theorem dX7_cells_76 : decode cX7_cells 76 = .ok (.putfield 132, 3) := by decide +kernel
theorem dX7_cells_79 : decode cX7_cells 79 = .ok (.goto (-41), 3) := by decide +kernel
theorem dX7_cells_82 : decode cX7_cells 82 = .ok (.iload_n 1, 1) := by decide +kernel
theorem dX7_cells_83 : decode cX7_cells 83 = .ok (.ireturn, 1) := by decide +kernel
theorem dX7_order_0 : decode cX7_order 0 = .ok (.aload_n 0, 1) := by decide +kernel
theorem dX7_order_1 : decode cX7_order 1 = .ok (.aload_n 0, 1) := by decide +kernel
theorem dX7_order_2 : decode cX7_order 2 = .ok (.getfield 132, 3) := by decide +kernel
theorem dX7_order_5 : decode cX7_order 5 = .ok (.aload_n 0, 1) := by decide +kernel
theorem dX7_order_6 : decode cX7_order 6 = .ok (.getfield 125, 3) := by decide +kernel
theorem dX7_order_9 : decode cX7_order 9 = .ok (.if_icmp .ge 15, 3) := by decide +kernel
theorem dX7_order_12 : decode cX7_order 12 = .ok (.aload_n 0, 1) := by decide +kernel
theorem dX7_order_13 : decode cX7_order 13 = .ok (.getfield 22, 3) := by decide +kernel
theorem dX7_order_16 : decode cX7_order 16 = .ok (.aload_n 0, 1) := by decide +kernel
theorem dX7_order_17 : decode cX7_order 17 = .ok (.getfield 132, 3) := by decide +kernel
theorem dX7_order_20 : decode cX7_order 20 = .ok (.iaload, 1) := by decide +kernel
theorem dX7_order_21 : decode cX7_order 21 = .ok (.goto 4, 3) := by decide +kernel
theorem dX7_order_24 : decode cX7_order 24 = .ok (.iconst 0, 1) := by decide +kernel
theorem dX7_order_25 : decode cX7_order 25 = .ok (.putfield 141, 3) := by decide +kernel
theorem dX7_order_28 : decode cX7_order 28 = .ok (.aload_n 0, 1) := by decide +kernel
theorem dX7_order_29 : decode cX7_order 29 = .ok (.getfield 141, 3) := by decide +kernel
theorem dX7_order_32 : decode cX7_order 32 = .ok (.lookupswitch 87 #[(97, 36), (106, 68), (114, 49)], 36) := by decide +kernel
theorem dX7_order_68 : decode cX7_order 68 = .ok (.aload_n 0, 1) := by decide +kernel
theorem dX7_order_69 : decode cX7_order 69 = .ok (.bipush 97, 2) := by decide +kernel
theorem dX7_order_71 : decode cX7_order 71 = .ok (.bipush 115, 2) := by decide +kernel
theorem dX7_order_73 : decode cX7_order 73 = .ok (.bipush 107, 2) := by decide +kernel
theorem dX7_order_75 : decode cX7_order 75 = .ok (.invokevirtual 144, 3) := by decide +kernel
theorem dX7_order_78 : decode cX7_order 78 = .ok (.goto 124, 3) := by decide +kernel
theorem dX7_order_81 : decode cX7_order 81 = .ok (.aload_n 0, 1) := by decide +kernel
theorem dX7_order_82 : decode cX7_order 82 = .ok (.bipush 114, 2) := by decide +kernel
theorem dX7_order_84 : decode cX7_order 84 = .ok (.bipush 111, 2) := by decide +kernel
theorem dX7_order_86 : decode cX7_order 86 = .ok (.bipush 111, 2) := by decide +kernel
theorem dX7_order_88 : decode cX7_order 88 = .ok (.invokevirtual 144, 3) := by decide +kernel
theorem dX7_order_91 : decode cX7_order 91 = .ok (.aload_n 0, 1) := by decide +kernel
theorem dX7_order_92 : decode cX7_order 92 = .ok (.bipush 116, 2) := by decide +kernel
theorem dX7_order_94 : decode cX7_order 94 = .ok (.invokevirtual 135, 3) := by decide +kernel
theorem dX7_order_97 : decode cX7_order 97 = .ok (.goto 105, 3) := by decide +kernel
theorem dX7_order_100 : decode cX7_order 100 = .ok (.aload_n 0, 1) := by decide +kernel
theorem dX7_order_101 : decode cX7_order 101 = .ok (.bipush 106, 2) := by decide +kernel
theorem dX7_order_103 : decode cX7_order 103 = .ok (.bipush 111, 2) := by decide +kernel
theorem dX7_order_105 : decode cX7_order 105 = .ok (.bipush 105, 2) := by decide +kernel
theorem dX7_order_107 : decode cX7_order 107 = .ok (.invokevirtual 144, 3) := by decide +kernel
theorem dX7_order_110 : decode cX7_order 110 = .ok (.aload_n 0, 1) := by decide +kernel
theorem dX7_order_111 : decode cX7_order 111 = .ok (.bipush 110, 2) := by decide +kernel
theorem dX7_order_113 : decode cX7_order 113 = .ok (.invokevirtual 135, 3) := by decide +kernel
theorem dX7_order_116 : decode cX7_order 116 = .ok (.goto 86, 3) := by decide +kernel
theorem dX7_order_119 : decode cX7_order 119 = .ok (.aload_n 0, 1) := by decide +kernel
theorem dX7_order_120 : decode cX7_order 120 = .ok (.bipush 109, 2) := by decide +kernel
theorem dX7_order_122 : decode cX7_order 122 = .ok (.invokevirtual 135, 3) := by decide +kernel
theorem dX7_order_125 : decode cX7_order 125 = .ok (.aload_n 0, 1) := by decide +kernel
theorem dX7_order_126 : decode cX7_order 126 = .ok (.aload_n 0, 1) := by decide +kernel
theorem dX7_order_127 : decode cX7_order 127 = .ok (.bipush 105, 2) := by decide +kernel
theorem dX7_order_129 : decode cX7_order 129 = .ok (.bipush 105, 2) := by decide +kernel
theorem dX7_order_131 : decode cX7_order 131 = .ok (.invokevirtual 138, 3) := by decide +kernel
theorem dX7_order_134 : decode cX7_order 134 = .ok (.ifCond .eq 8, 3) := by decide +kernel
theorem dX7_order_137 : decode cX7_order 137 = .ok (.bipush 105, 2) := by decide +kernel
theorem dX7_order_139 : decode cX7_order 139 = .ok (.goto 5, 3) := by decide +kernel
theorem dX7_order_142 : decode cX7_order 142 = .ok (.bipush 109, 2) := by decide +kernel
theorem dX7_order_144 : decode cX7_order 144 = .ok (.putfield 141, 3) := by decide +kernel
theorem dX7_order_147 : decode cX7_order 147 = .ok (.aload_n 0, 1) := by decide +kernel
theorem dX7_order_148 : decode cX7_order 148 = .ok (.aload_n 0, 1) := by decide +kernel
theorem dX7_order_149 : decode cX7_order 149 = .ok (.getfield 141, 3) := by decide +kernel
theorem dX7_order_152 : decode cX7_order 152 = .ok (.bipush 105, 2) := by decide +kernel
theorem dX7_order_154 : decode cX7_order 154 = .ok (.if_icmp .ne 8, 3) := by decide +kernel
theorem dX7_order_157 : decode cX7_order 157 = .ok (.bipush 105, 2) := by decide +kernel
theorem dX7_order_159 : decode cX7_order 159 = .ok (.goto 5, 3) := by decide +kernel
theorem dX7_order_162 : decode cX7_order 162 = .ok (.bipush 97, 2) := by decide +kernel
theorem dX7_order_164 : decode cX7_order 164 = .ok (.invokevirtual 135, 3) := by decide +kernel
theorem dX7_order_167 : decode cX7_order 167 = .ok (.aload_n 0, 1) := by decide +kernel
theorem dX7_order_168 : decode cX7_order 168 = .ok (.aload_n 0, 1) := by decide +kernel
theorem dX7_order_169 : decode cX7_order 169 = .ok (.getfield 141, 3) := by decide +kernel
theorem dX7_order_172 : decode cX7_order 172 = .ok (.bipush 105, 2) := by decide +kernel
theorem dX7_order_174 : decode cX7_order 174 = .ok (.if_icmp .ne 8, 3) := by decide +kernel
theorem dX7_order_177 : decode cX7_order 177 = .ok (.bipush 120, 2) := by decide +kernel
theorem dX7_order_179 : decode cX7_order 179 = .ok (.goto 5, 3) := by decide +kernel
theorem dX7_order_182 : decode cX7_order 182 = .ok (.bipush 107, 2) := by decide +kernel
theorem dX7_order_184 : decode cX7_order 184 = .ok (.invokevirtual 135, 3) := by decide +kernel
theorem dX7_order_187 : decode cX7_order 187 = .ok (.aload_n 0, 1) := by decide +kernel
theorem dX7_order_188 : decode cX7_order 188 = .ok (.getfield 141, 3) := by decide +kernel
theorem dX7_order_191 : decode cX7_order 191 = .ok (.bipush 109, 2) := by decide +kernel
theorem dX7_order_193 : decode cX7_order 193 = .ok (.if_icmp .ne 9, 3) := by decide +kernel
theorem dX7_order_196 : decode cX7_order 196 = .ok (.aload_n 0, 1) := by decide +kernel
theorem dX7_order_197 : decode cX7_order 197 = .ok (.bipush 101, 2) := by decide +kernel
theorem dX7_order_199 : decode cX7_order 199 = .ok (.invokevirtual 135, 3) := by decide +kernel
theorem dX7_order_202 : decode cX7_order 202 = .ok (.aload_n 0, 1) := by decide +kernel
theorem dX7_order_203 : decode cX7_order 203 = .ok (.aload_n 0, 1) := by decide +kernel
theorem dX7_order_204 : decode cX7_order 204 = .ok (.bipush 23, 2) := by decide +kernel
theorem dX7_order_206 : decode cX7_order 206 = .ok (.invokevirtual 148, 3) := by decide +kernel
theorem dX7_order_209 : decode cX7_order 209 = .ok (.putfield 151, 3) := by decide +kernel
theorem dX7_order_212 : decode cX7_order 212 = .ok (.aload_n 0, 1) := by decide +kernel
theorem dX7_order_213 : decode cX7_order 213 = .ok (.getfield 141, 3) := by decide +kernel
theorem dX7_order_216 : decode cX7_order 216 = .ok (.bipush 109, 2) := by decide +kernel
theorem dX7_order_218 : decode cX7_order 218 = .ok (.if_icmp .ne 23, 3) := by decide +kernel
theorem dX7_order_221 : decode cX7_order 221 = .ok (.aload_n 0, 1) := by decide +kernel
theorem dX7_order_222 : decode cX7_order 222 = .ok (.aload_n 0, 1) := by decide +kernel
theorem dX7_order_223 : decode cX7_order 223 = .ok (.bipush 7, 2) := by decide +kernel
theorem dX7_order_225 : decode cX7_order 225 = .ok (.invokevirtual 148, 3) := by decide +kernel
theorem dX7_order_228 : decode cX7_order 228 = .ok (.putfield 154, 3) := by decide +kernel
theorem dX7_order_231 : decode cX7_order 231 = .ok (.aload_n 0, 1) := by decide +kernel
theorem dX7_order_232 : decode cX7_order 232 = .ok (.aload_n 0, 1) := by decide +kernel
theorem dX7_order_233 : decode cX7_order 233 = .ok (.bipush 9, 2) := by decide +kernel
theorem dX7_order_235 : decode cX7_order 235 = .ok (.invokevirtual 148, 3) := by decide +kernel
theorem dX7_order_238 : decode cX7_order 238 = .ok (.putfield 157, 3) := by decide +kernel
theorem dX7_order_241 : decode cX7_order 241 = .ok (.aload_n 0, 1) := by decide +kernel
theorem dX7_order_242 : decode cX7_order 242 = .ok (.getfield 141, 3) := by decide +kernel
theorem dX7_order_245 : decode cX7_order 245 = .ok (.bipush 105, 2) := by decide +kernel
theorem dX7_order_247 : decode cX7_order 247 = .ok (.if_icmp .ne 21, 3) := by decide +kernel
theorem dX7_order_250 : decode cX7_order 250 = .ok (.aload_n 0, 1) := by decide +kernel
theorem dX7_order_251 : decode cX7_order 251 = .ok (.aload_n 0, 1) := by decide +kernel
theorem dX7_order_252 : decode cX7_order 252 = .ok (.bipush 23, 2) := by decide +kernel
theorem dX7_order_254 : decode cX7_order 254 = .ok (.invokevirtual 148, 3) := by decide +kernel
theorem dX7_order_257 : decode cX7_order 257 = .ok (.putfield 154, 3) := by decide +kernel
theorem dX7_order_260 : decode cX7_order 260 = .ok (.aload_n 0, 1) := by decide +kernel
theorem dX7_order_261 : decode cX7_order 261 = .ok (.aload_n 0, 1) := by decide +kernel
theorem dX7_order_262 : decode cX7_order 262 = .ok (.invokevirtual 160, 3) := by decide +kernel
theorem dX7_order_265 : decode cX7_order 265 = .ok (.putfield 157, 3) := by decide +kernel
theorem dX7_order_268 : decode cX7_order 268 = .ok (.return_, 1) := by decide +kernel
theorem dX7_does_0 : decode cX7_does 0 = .ok (.aload_n 0, 1) := by decide +kernel
theorem dX7_does_1 : decode cX7_does 1 = .ok (.getfield 141, 3) := by decide +kernel
theorem dX7_does_4 : decode cX7_does 4 = .ok (.lookupswitch 88 #[(97, 44), (105, 71), (106, 62), (114, 53)], 44) := by decide +kernel
theorem dX7_does_48 : decode cX7_does 48 = .ok (.aload_n 0, 1) := by decide +kernel
theorem dX7_does_49 : decode cX7_does 49 = .ok (.aload_n 0, 1) := by decide +kernel
theorem dX7_does_50 : decode cX7_does 50 = .ok (.getfield 151, 3) := by decide +kernel
theorem dX7_does_53 : decode cX7_does 53 = .ok (.invokevirtual 110, 3) := by decide +kernel
theorem dX7_does_56 : decode cX7_does 56 = .ok (.ireturn, 1) := by decide +kernel
theorem dX7_does_57 : decode cX7_does 57 = .ok (.aload_n 0, 1) := by decide +kernel
theorem dX7_does_58 : decode cX7_does 58 = .ok (.aload_n 0, 1) := by decide +kernel
theorem dX7_does_59 : decode cX7_does 59 = .ok (.getfield 151, 3) := by decide +kernel
theorem dX7_does_62 : decode cX7_does 62 = .ok (.invokevirtual 113, 3) := by decide +kernel
theorem dX7_does_65 : decode cX7_does 65 = .ok (.ireturn, 1) := by decide +kernel
theorem dX7_does_66 : decode cX7_does 66 = .ok (.aload_n 0, 1) := by decide +kernel
theorem dX7_does_67 : decode cX7_does 67 = .ok (.aload_n 0, 1) := by decide +kernel
theorem dX7_does_68 : decode cX7_does 68 = .ok (.getfield 151, 3) := by decide +kernel
theorem dX7_does_71 : decode cX7_does 71 = .ok (.invokevirtual 119, 3) := by decide +kernel
theorem dX7_does_74 : decode cX7_does 74 = .ok (.ireturn, 1) := by decide +kernel
theorem dX7_does_75 : decode cX7_does 75 = .ok (.aload_n 0, 1) := by decide +kernel
theorem dX7_does_76 : decode cX7_does 76 = .ok (.aload_n 0, 1) := by decide +kernel
theorem dX7_does_77 : decode cX7_does 77 = .ok (.getfield 151, 3) := by decide +kernel
theorem dX7_does_80 : decode cX7_does 80 = .ok (.aload_n 0, 1) := by decide +kernel
theorem dX7_does_81 : decode cX7_does 81 = .ok (.getfield 154, 3) := by decide +kernel
theorem dX7_does_84 : decode cX7_does 84 = .ok (.aload_n 0, 1) := by decide +kernel
theorem dX7_does_85 : decode cX7_does 85 = .ok (.getfield 157, 3) := by decide +kernel
theorem dX7_does_88 : decode cX7_does 88 = .ok (.invokevirtual 104, 3) := by decide +kernel
theorem dX7_does_91 : decode cX7_does 91 = .ok (.ireturn, 1) := by decide +kernel
theorem dX7_does_92 : decode cX7_does 92 = .ok (.aload_n 0, 1) := by decide +kernel
theorem dX7_does_93 : decode cX7_does 93 = .ok (.aload_n 0, 1) := by decide +kernel
theorem dX7_does_94 : decode cX7_does 94 = .ok (.getfield 151, 3) := by decide +kernel
theorem dX7_does_97 : decode cX7_does 97 = .ok (.aload_n 0, 1) := by decide +kernel
theorem dX7_does_98 : decode cX7_does 98 = .ok (.getfield 154, 3) := by decide +kernel
theorem dX7_does_101 : decode cX7_does 101 = .ok (.aload_n 0, 1) := by decide +kernel
theorem dX7_does_102 : decode cX7_does 102 = .ok (.getfield 157, 3) := by decide +kernel
theorem dX7_does_105 : decode cX7_does 105 = .ok (.invokevirtual 97, 3) := by decide +kernel
theorem dX7_does_108 : decode cX7_does 108 = .ok (.ireturn, 1) := by decide +kernel
theorem dX7_go_0 : decode cX7_go 0 = .ok (.aload_n 0, 1) := by decide +kernel
theorem dX7_go_1 : decode cX7_go 1 = .ok (.iconst 0, 1) := by decide +kernel
theorem dX7_go_2 : decode cX7_go 2 = .ok (.putfield 132, 3) := by decide +kernel
theorem dX7_go_5 : decode cX7_go 5 = .ok (.aload_n 0, 1) := by decide +kernel
theorem dX7_go_6 : decode cX7_go 6 = .ok (.iconst 0, 1) := by decide +kernel
theorem dX7_go_7 : decode cX7_go 7 = .ok (.putfield 128, 3) := by decide +kernel
theorem dX7_go_10 : decode cX7_go 10 = .ok (.iconst 0, 1) := by decide +kernel
theorem dX7_go_11 : decode cX7_go 11 = .ok (.istore_n 2, 1) := by decide +kernel
theorem dX7_go_12 : decode cX7_go 12 = .ok (.iconst 1, 1) := by decide +kernel
theorem dX7_go_13 : decode cX7_go 13 = .ok (.istore_n 3, 1) := by decide +kernel
theorem dX7_go_14 : decode cX7_go 14 = .ok (.iload_n 3, 1) := by decide +kernel
theorem dX7_go_15 : decode cX7_go 15 = .ok (.ifCond .eq 100, 3) := by decide +kernel
theorem dX7_go_18 : decode cX7_go 18 = .ok (.aload_n 0, 1) := by decide +kernel
theorem dX7_go_19 : decode cX7_go 19 = .ok (.invokevirtual 163, 3) := by decide +kernel
theorem dX7_go_22 : decode cX7_go 22 = .ok (.iload_n 1, 1) := by decide +kernel
theorem dX7_go_23 : decode cX7_go 23 = .ok (.ifCond .eq 10, 3) := by decide +kernel
theorem dX7_go_26 : decode cX7_go 26 = .ok (.aload_n 0, 1) := by decide +kernel
theorem dX7_go_27 : decode cX7_go 27 = .ok (.invokevirtual 166, 3) := by decide +kernel
theorem dX7_go_30 : decode cX7_go 30 = .ok (.goto 4, 3) := by decide +kernel
theorem dX7_go_33 : decode cX7_go 33 = .ok (.iconst 0, 1) := by decide +kernel
theorem dX7_go_34 : decode cX7_go 34 = .ok (.istore 4, 2) := by decide +kernel
theorem dX7_go_36 : decode cX7_go 36 = .ok (.iload 4, 2) := by decide +kernel
theorem dX7_go_38 : decode cX7_go 38 = .ok (.ifCond .ge 24, 3) := by decide +kernel
theorem dX7_go_41 : decode cX7_go 41 = .ok (.iload 4, 2) := by decide +kernel
theorem dX7_go_43 : decode cX7_go 43 = .ok (.bipush (-5), 2) := by decide +kernel
theorem dX7_go_45 : decode cX7_go 45 = .ok (.if_icmp .eq 17, 3) := by decide +kernel
theorem dX7_go_48 : decode cX7_go 48 = .ok (.aload_n 0, 1) := by decide +kernel
theorem dX7_go_49 : decode cX7_go 49 = .ok (.iload_n 2, 1) := by decide +kernel
theorem dX7_go_50 : decode cX7_go 50 = .ok (.putfield 25, 3) := by decide +kernel
theorem dX7_go_53 : decode cX7_go 53 = .ok (.aload_n 0, 1) := by decide +kernel
theorem dX7_go_54 : decode cX7_go 54 = .ok (.iload 4, 2) := by decide +kernel
theorem dX7_go_56 : decode cX7_go 56 = .ok (.putfield 169, 3) := by decide +kernel
theorem dX7_go_59 : decode cX7_go 59 = .ok (.bipush (-4), 2) := by decide +kernel
theorem dX7_go_61 : decode cX7_go 61 = .ok (.ireturn, 1) := by decide +kernel
theorem dX7_go_62 : decode cX7_go 62 = .ok (.iinc 2 1, 3) := by decide +kernel
theorem dX7_go_65 : decode cX7_go 65 = .ok (.aload_n 0, 1) := by decide +kernel
theorem dX7_go_66 : decode cX7_go 66 = .ok (.getfield 128, 3) := by decide +kernel
theorem dX7_go_69 : decode cX7_go 69 = .ok (.ifCond .ne 18, 3) := by decide +kernel
theorem dX7_go_72 : decode cX7_go 72 = .ok (.aload_n 0, 1) := by decide +kernel
theorem dX7_go_73 : decode cX7_go 73 = .ok (.getfield 132, 3) := by decide +kernel
theorem dX7_go_76 : decode cX7_go 76 = .ok (.aload_n 0, 1) := by decide +kernel
theorem dX7_go_77 : decode cX7_go 77 = .ok (.getfield 125, 3) := by decide +kernel
theorem dX7_go_80 : decode cX7_go 80 = .ok (.if_icmp .ge 7, 3) := by decide +kernel
theorem dX7_go_83 : decode cX7_go 83 = .ok (.iconst 1, 1) := by decide +kernel
theorem dX7_go_84 : decode cX7_go 84 = .ok (.goto 4, 3) := by decide +kernel
theorem dX7_go_87 : decode cX7_go 87 = .ok (.iconst 0, 1) := by decide +kernel
theorem dX7_go_88 : decode cX7_go 88 = .ok (.istore_n 3, 1) := by decide +kernel
theorem dX7_go_89 : decode cX7_go 89 = .ok (.iload_n 3, 1) := by decide +kernel
theorem dX7_go_90 : decode cX7_go 90 = .ok (.ifCond .eq 22, 3) := by decide +kernel
theorem dX7_go_93 : decode cX7_go 93 = .ok (.aload_n 0, 1) := by decide +kernel
theorem dX7_go_94 : decode cX7_go 94 = .ok (.bipush 59, 2) := by decide +kernel
theorem dX7_go_96 : decode cX7_go 96 = .ok (.invokevirtual 135, 3) := by decide +kernel
theorem dX7_go_99 : decode cX7_go 99 = .ok (.aload_n 0, 1) := by decide +kernel
theorem dX7_go_100 : decode cX7_go 100 = .ok (.getfield 128, 3) := by decide +kernel
theorem dX7_go_103 : decode cX7_go 103 = .ok (.ifCond .ne 7, 3) := by decide +kernel
theorem dX7_go_106 : decode cX7_go 106 = .ok (.iconst 1, 1) := by decide +kernel
theorem dX7_go_107 : decode cX7_go 107 = .ok (.goto 4, 3) := by decide +kernel
theorem dX7_go_110 : decode cX7_go 110 = .ok (.iconst 0, 1) := by decide +kernel
theorem dX7_go_111 : decode cX7_go 111 = .ok (.istore_n 3, 1) := by decide +kernel
theorem dX7_go_112 : decode cX7_go 112 = .ok (.goto (-98), 3) := by decide +kernel
theorem dX7_go_115 : decode cX7_go 115 = .ok (.iload_n 2, 1) := by decide +kernel
theorem dX7_go_116 : decode cX7_go 116 = .ok (.ireturn, 1) := by decide +kernel
theorem dX7_perform_0 : decode cX7_perform 0 = .ok (.aload_n 0, 1) := by decide +kernel
theorem dX7_perform_1 : decode cX7_perform 1 = .ok (.iconst 0, 1) := by decide +kernel
theorem dX7_perform_2 : decode cX7_perform 2 = .ok (.invokevirtual 172, 3) := by decide +kernel
theorem dX7_perform_5 : decode cX7_perform 5 = .ok (.istore_n 1, 1) := by decide +kernel
theorem dX7_perform_6 : decode cX7_perform 6 = .ok (.aload_n 0, 1) := by decide +kernel
theorem dX7_perform_7 : decode cX7_perform 7 = .ok (.getfield 128, 3) := by decide +kernel
theorem dX7_perform_10 : decode cX7_perform 10 = .ok (.ifCond .eq 11, 3) := by decide +kernel
theorem dX7_perform_13 : decode cX7_perform 13 = .ok (.bipush (-100), 2) := by decide +kernel
theorem dX7_perform_15 : decode cX7_perform 15 = .ok (.aload_n 0, 1) := by decide +kernel
theorem dX7_perform_16 : decode cX7_perform 16 = .ok (.getfield 132, 3) := by decide +kernel
theorem dX7_perform_19 : decode cX7_perform 19 = .ok (.isub, 1) := by decide +kernel
theorem dX7_perform_20 : decode cX7_perform 20 = .ok (.ireturn, 1) := by decide +kernel
theorem dX7_perform_21 : decode cX7_perform 21 = .ok (.aload_n 0, 1) := by decide +kernel
theorem dX7_perform_22 : decode cX7_perform 22 = .ok (.invokevirtual 94, 3) := by decide +kernel
theorem dX7_perform_25 : decode cX7_perform 25 = .ok (.aload_n 0, 1) := by decide +kernel
theorem dX7_perform_26 : decode cX7_perform 26 = .ok (.iconst 1, 1) := by decide +kernel
theorem dX7_perform_27 : decode cX7_perform 27 = .ok (.invokevirtual 172, 3) := by decide +kernel
theorem dX7_perform_30 : decode cX7_perform 30 = .ok (.istore_n 2, 1) := by decide +kernel
theorem dX7_perform_31 : decode cX7_perform 31 = .ok (.iload_n 2, 1) := by decide +kernel
theorem dX7_perform_32 : decode cX7_perform 32 = .ok (.ifCond .ge 7, 3) := by decide +kernel
theorem dX7_perform_35 : decode cX7_perform 35 = .ok (.aload_n 0, 1) := by decide +kernel
theorem dX7_perform_36 : decode cX7_perform 36 = .ok (.invokevirtual 176, 3) := by decide +kernel
theorem dX7_perform_39 : decode cX7_perform 39 = .ok (.aload_n 0, 1) := by decide +kernel
theorem dX7_perform_40 : decode cX7_perform 40 = .ok (.iload_n 2, 1) := by decide +kernel
theorem dX7_perform_41 : decode cX7_perform 41 = .ok (.invokevirtual 101, 3) := by decide +kernel
theorem dX7_perform_44 : decode cX7_perform 44 = .ok (.ireturn, 1) := by decide +kernel
theorem dX7_stopped_0 : decode cX7_stopped 0 = .ok (.iload_n 1, 1) := by decide +kernel
theorem dX7_stopped_1 : decode cX7_stopped 1 = .ok (.iconst 0, 1) := by decide +kernel
theorem dX7_stopped_2 : decode cX7_stopped 2 = .ok (.iconst 1, 1) := by decide +kernel
theorem dX7_stopped_3 : decode cX7_stopped 3 = .ok (.invokestatic 36, 3) := by decide +kernel
theorem dX7_stopped_6 : decode cX7_stopped 6 = .ok (.ifCond .ne 8, 3) := by decide +kernel
theorem dX7_stopped_9 : decode cX7_stopped 9 = .ok (.bipush (-2), 2) := by decide +kernel
theorem dX7_stopped_11 : decode cX7_stopped 11 = .ok (.goto 32, 3) := by decide +kernel
theorem dX7_stopped_14 : decode cX7_stopped 14 = .ok (.aload_n 0, 1) := by decide +kernel
theorem dX7_stopped_15 : decode cX7_stopped 15 = .ok (.getfield 25, 3) := by decide +kernel
theorem dX7_stopped_18 : decode cX7_stopped 18 = .ok (.bipush (-5), 2) := by decide +kernel
theorem dX7_stopped_20 : decode cX7_stopped 20 = .ok (.if_icmp .ne 8, 3) := by decide +kernel
theorem dX7_stopped_23 : decode cX7_stopped 23 = .ok (.bipush (-5), 2) := by decide +kernel
theorem dX7_stopped_25 : decode cX7_stopped 25 = .ok (.goto 18, 3) := by decide +kernel
theorem dX7_stopped_28 : decode cX7_stopped 28 = .ok (.iload_n 1, 1) := by decide +kernel
theorem dX7_stopped_29 : decode cX7_stopped 29 = .ok (.ifCond .ne 10, 3) := by decide +kernel
theorem dX7_stopped_32 : decode cX7_stopped 32 = .ok (.aload_n 0, 1) := by decide +kernel
theorem dX7_stopped_33 : decode cX7_stopped 33 = .ok (.getfield 25, 3) := by decide +kernel
theorem dX7_stopped_36 : decode cX7_stopped 36 = .ok (.goto 7, 3) := by decide +kernel
theorem dX7_stopped_39 : decode cX7_stopped 39 = .ok (.aload_n 0, 1) := by decide +kernel
theorem dX7_stopped_40 : decode cX7_stopped 40 = .ok (.getfield 169, 3) := by decide +kernel
theorem dX7_stopped_43 : decode cX7_stopped 43 = .ok (.ireturn, 1) := by decide +kernel
theorem dX7_undo_0 : decode cX7_undo 0 = .ok (.aload_n 0, 1) := by decide +kernel
theorem dX7_undo_1 : decode cX7_undo 1 = .ok (.getfield 40, 3) := by decide +kernel
theorem dX7_undo_4 : decode cX7_undo 4 = .ok (.ifCond .ne 6, 3) := by decide +kernel
theorem dX7_undo_7 : decode cX7_undo 7 = .ok (.bipush (-5), 2) := by decide +kernel
theorem dX7_undo_9 : decode cX7_undo 9 = .ok (.ireturn, 1) := by decide +kernel
theorem dX7_undo_10 : decode cX7_undo 10 = .ok (.aload_n 0, 1) := by decide +kernel
theorem dX7_undo_11 : decode cX7_undo 11 = .ok (.dup, 1) := by decide +kernel
theorem dX7_undo_12 : decode cX7_undo 12 = .ok (.getfield 40, 3) := by decide +kernel
theorem dX7_undo_15 : decode cX7_undo 15 = .ok (.iconst 1, 1) := by decide +kernel
theorem dX7_undo_16 : decode cX7_undo 16 = .ok (.isub, 1) := by decide +kernel
theorem dX7_undo_17 : decode cX7_undo 17 = .ok (.putfield 40, 3) := by decide +kernel
theorem dX7_undo_20 : decode cX7_undo 20 = .ok (.iconst 0, 1) := by decide +kernel
theorem dX7_undo_21 : decode cX7_undo 21 = .ok (.istore_n 1, 1) := by decide +kernel
theorem dX7_undo_22 : decode cX7_undo 22 = .ok (.iload_n 1, 1) := by decide +kernel
theorem dX7_undo_23 : decode cX7_undo 23 = .ok (.sipush 318, 3) := by decide +kernel
theorem dX7_undo_26 : decode cX7_undo 26 = .ok (.if_icmp .ge 30, 3) := by decide +kernel
theorem dX7_undo_29 : decode cX7_undo 29 = .ok (.aload_n 0, 1) := by decide +kernel
theorem dX7_undo_30 : decode cX7_undo 30 = .ok (.getfield 7, 3) := by decide +kernel
theorem dX7_undo_33 : decode cX7_undo 33 = .ok (.iload_n 1, 1) := by decide +kernel
theorem dX7_undo_34 : decode cX7_undo 34 = .ok (.aload_n 0, 1) := by decide +kernel
theorem dX7_undo_35 : decode cX7_undo 35 = .ok (.getfield 16, 3) := by decide +kernel
theorem dX7_undo_38 : decode cX7_undo 38 = .ok (.sipush 318, 3) := by decide +kernel
theorem dX7_undo_41 : decode cX7_undo 41 = .ok (.aload_n 0, 1) := by decide +kernel
theorem dX7_undo_42 : decode cX7_undo 42 = .ok (.getfield 40, 3) := by decide +kernel
theorem dX7_undo_45 : decode cX7_undo 45 = .ok (.imul, 1) := by decide +kernel
theorem dX7_undo_46 : decode cX7_undo 46 = .ok (.iload_n 1, 1) := by decide +kernel
theorem dX7_undo_47 : decode cX7_undo 47 = .ok (.iadd, 1) := by decide +kernel
theorem dX7_undo_48 : decode cX7_undo 48 = .ok (.iaload, 1) := by decide +kernel
theorem dX7_undo_49 : decode cX7_undo 49 = .ok (.iastore, 1) := by decide +kernel
theorem dX7_undo_50 : decode cX7_undo 50 = .ok (.iinc 1 1, 3) := by decide +kernel
theorem dX7_undo_53 : decode cX7_undo 53 = .ok (.goto (-31), 3) := by decide +kernel
theorem dX7_undo_56 : decode cX7_undo 56 = .ok (.aload_n 0, 1) := by decide +kernel
theorem dX7_undo_57 : decode cX7_undo 57 = .ok (.getfield 40, 3) := by decide +kernel
theorem dX7_undo_60 : decode cX7_undo 60 = .ok (.ireturn, 1) := by decide +kernel
theorem dX7_keep_0 : decode cX7_keep 0 = .ok (.iconst 0, 1) := by decide +kernel
theorem dX7_keep_1 : decode cX7_keep 1 = .ok (.istore_n 1, 1) := by decide +kernel
theorem dX7_keep_2 : decode cX7_keep 2 = .ok (.iload_n 1, 1) := by decide +kernel
theorem dX7_keep_3 : decode cX7_keep 3 = .ok (.sipush 318, 3) := by decide +kernel
theorem dX7_keep_6 : decode cX7_keep 6 = .ok (.if_icmp .ge 21, 3) := by decide +kernel
theorem dX7_keep_9 : decode cX7_keep 9 = .ok (.aload_n 0, 1) := by decide +kernel
theorem dX7_keep_10 : decode cX7_keep 10 = .ok (.getfield 19, 3) := by decide +kernel
theorem dX7_keep_13 : decode cX7_keep 13 = .ok (.iload_n 1, 1) := by decide +kernel
theorem dX7_keep_14 : decode cX7_keep 14 = .ok (.aload_n 0, 1) := by decide +kernel
theorem dX7_keep_15 : decode cX7_keep 15 = .ok (.getfield 7, 3) := by decide +kernel
theorem dX7_keep_18 : decode cX7_keep 18 = .ok (.iload_n 1, 1) := by decide +kernel
theorem dX7_keep_19 : decode cX7_keep 19 = .ok (.iaload, 1) := by decide +kernel
theorem dX7_keep_20 : decode cX7_keep 20 = .ok (.iastore, 1) := by decide +kernel
theorem dX7_keep_21 : decode cX7_keep 21 = .ok (.iinc 1 1, 3) := by decide +kernel
theorem dX7_keep_24 : decode cX7_keep 24 = .ok (.goto (-22), 3) := by decide +kernel
theorem dX7_keep_27 : decode cX7_keep 27 = .ok (.aload_n 0, 1) := by decide +kernel
theorem dX7_keep_28 : decode cX7_keep 28 = .ok (.iconst 1, 1) := by decide +kernel
theorem dX7_keep_29 : decode cX7_keep 29 = .ok (.putfield 179, 3) := by decide +kernel
theorem dX7_keep_32 : decode cX7_keep 32 = .ok (.aload_n 0, 1) := by decide +kernel
theorem dX7_keep_33 : decode cX7_keep 33 = .ok (.iconst 0, 1) := by decide +kernel
theorem dX7_keep_34 : decode cX7_keep 34 = .ok (.invokevirtual 81, 3) := by decide +kernel
theorem dX7_keep_37 : decode cX7_keep 37 = .ok (.ireturn, 1) := by decide +kernel
theorem dX7_restore_0 : decode cX7_restore 0 = .ok (.aload_n 0, 1) := by decide +kernel
theorem dX7_restore_1 : decode cX7_restore 1 = .ok (.getfield 179, 3) := by decide +kernel
theorem dX7_restore_4 : decode cX7_restore 4 = .ok (.ifCond .ne 6, 3) := by decide +kernel
theorem dX7_restore_7 : decode cX7_restore 7 = .ok (.bipush (-5), 2) := by decide +kernel
theorem dX7_restore_9 : decode cX7_restore 9 = .ok (.ireturn, 1) := by decide +kernel
theorem dX7_restore_10 : decode cX7_restore 10 = .ok (.aload_n 0, 1) := by decide +kernel
theorem dX7_restore_11 : decode cX7_restore 11 = .ok (.invokevirtual 94, 3) := by decide +kernel
theorem dX7_restore_14 : decode cX7_restore 14 = .ok (.iconst 0, 1) := by decide +kernel
theorem dX7_restore_15 : decode cX7_restore 15 = .ok (.istore_n 1, 1) := by decide +kernel
theorem dX7_restore_16 : decode cX7_restore 16 = .ok (.iload_n 1, 1) := by decide +kernel
theorem dX7_restore_17 : decode cX7_restore 17 = .ok (.sipush 318, 3) := by decide +kernel
theorem dX7_restore_20 : decode cX7_restore 20 = .ok (.if_icmp .ge 21, 3) := by decide +kernel
theorem dX7_restore_23 : decode cX7_restore 23 = .ok (.aload_n 0, 1) := by decide +kernel
theorem dX7_restore_24 : decode cX7_restore 24 = .ok (.getfield 7, 3) := by decide +kernel
theorem dX7_restore_27 : decode cX7_restore 27 = .ok (.iload_n 1, 1) := by decide +kernel
theorem dX7_restore_28 : decode cX7_restore 28 = .ok (.aload_n 0, 1) := by decide +kernel
theorem dX7_restore_29 : decode cX7_restore 29 = .ok (.getfield 19, 3) := by decide +kernel
theorem dX7_restore_32 : decode cX7_restore 32 = .ok (.iload_n 1, 1) := by decide +kernel
theorem dX7_restore_33 : decode cX7_restore 33 = .ok (.iaload, 1) := by decide +kernel
theorem dX7_restore_34 : decode cX7_restore 34 = .ok (.iastore, 1) := by decide +kernel
theorem dX7_restore_35 : decode cX7_restore 35 = .ok (.iinc 1 1, 3) := by decide +kernel
theorem dX7_restore_38 : decode cX7_restore 38 = .ok (.goto (-22), 3) := by decide +kernel
theorem dX7_restore_41 : decode cX7_restore 41 = .ok (.aload_n 0, 1) := by decide +kernel
theorem dX7_restore_42 : decode cX7_restore 42 = .ok (.aload_n 0, 1) := by decide +kernel
theorem dX7_restore_43 : decode cX7_restore 43 = .ok (.iconst 0, 1) := by decide +kernel
theorem dX7_restore_44 : decode cX7_restore 44 = .ok (.invokevirtual 81, 3) := by decide +kernel
theorem dX7_restore_47 : decode cX7_restore 47 = .ok (.invokevirtual 101, 3) := by decide +kernel
theorem dX7_restore_50 : decode cX7_restore 50 = .ok (.ireturn, 1) := by decide +kernel
theorem dX7_cell_0 : decode cX7_cell 0 = .ok (.aload_n 0, 1) := by decide +kernel
theorem dX7_cell_1 : decode cX7_cell 1 = .ok (.iload_n 1, 1) := by decide +kernel
theorem dX7_cell_2 : decode cX7_cell 2 = .ok (.invokevirtual 72, 3) := by decide +kernel
theorem dX7_cell_5 : decode cX7_cell 5 = .ok (.ifCond .eq 28, 3) := by decide +kernel
theorem dX7_cell_8 : decode cX7_cell 8 = .ok (.iload_n 2, 1) := by decide +kernel
theorem dX7_cell_9 : decode cX7_cell 9 = .ok (.iconst 0, 1) := by decide +kernel
theorem dX7_cell_10 : decode cX7_cell 10 = .ok (.bipush 7, 2) := by decide +kernel
theorem dX7_cell_12 : decode cX7_cell 12 = .ok (.invokestatic 36, 3) := by decide +kernel
theorem dX7_cell_15 : decode cX7_cell 15 = .ok (.ifCond .eq 18, 3) := by decide +kernel
theorem dX7_cell_18 : decode cX7_cell 18 = .ok (.aload_n 0, 1) := by decide +kernel
theorem dX7_cell_19 : decode cX7_cell 19 = .ok (.getfield 7, 3) := by decide +kernel
theorem dX7_cell_22 : decode cX7_cell 22 = .ok (.iload_n 1, 1) := by decide +kernel
theorem dX7_cell_23 : decode cX7_cell 23 = .ok (.iconst 5, 1) := by decide +kernel
theorem dX7_cell_24 : decode cX7_cell 24 = .ok (.iload_n 2, 1) := by decide +kernel
theorem dX7_cell_25 : decode cX7_cell 25 = .ok (.iadd, 1) := by decide +kernel
theorem dX7_cell_26 : decode cX7_cell 26 = .ok (.invokestatic 32, 3) := by decide +kernel
theorem dX7_cell_29 : decode cX7_cell 29 = .ok (.iaload, 1) := by decide +kernel
theorem dX7_cell_30 : decode cX7_cell 30 = .ok (.goto 4, 3) := by decide +kernel
theorem dX7_cell_33 : decode cX7_cell 33 = .ok (.iconst (-1), 1) := by decide +kernel
theorem dX7_cell_34 : decode cX7_cell 34 = .ok (.ireturn, 1) := by decide +kernel
theorem dX7_version_0 : decode cX7_version 0 = .ok (.aload_n 0, 1) := by decide +kernel
theorem dX7_version_1 : decode cX7_version 1 = .ok (.iload_n 1, 1) := by decide +kernel
theorem dX7_version_2 : decode cX7_version 2 = .ok (.invokevirtual 72, 3) := by decide +kernel
theorem dX7_version_5 : decode cX7_version 5 = .ok (.ifCond .ne 5, 3) := by decide +kernel
theorem dX7_version_8 : decode cX7_version 8 = .ok (.iconst (-1), 1) := by decide +kernel
theorem dX7_version_9 : decode cX7_version 9 = .ok (.ireturn, 1) := by decide +kernel
theorem dX7_version_10 : decode cX7_version 10 = .ok (.aload_n 0, 1) := by decide +kernel
theorem dX7_version_11 : decode cX7_version 11 = .ok (.aload_n 0, 1) := by decide +kernel
theorem dX7_version_12 : decode cX7_version 12 = .ok (.iload_n 1, 1) := by decide +kernel
theorem dX7_version_13 : decode cX7_version 13 = .ok (.invokevirtual 84, 3) := by decide +kernel
theorem dX7_version_16 : decode cX7_version 16 = .ok (.iload_n 1, 1) := by decide +kernel
theorem dX7_version_17 : decode cX7_version 17 = .ok (.invokevirtual 64, 3) := by decide +kernel
theorem dX7_version_20 : decode cX7_version 20 = .ok (.aload_n 0, 1) := by decide +kernel
theorem dX7_version_21 : decode cX7_version 21 = .ok (.getfield 7, 3) := by decide +kernel
theorem dX7_version_24 : decode cX7_version 24 = .ok (.iload_n 1, 1) := by decide +kernel
theorem dX7_version_25 : decode cX7_version 25 = .ok (.iconst 1, 1) := by decide +kernel
theorem dX7_version_26 : decode cX7_version 26 = .ok (.invokestatic 32, 3) := by decide +kernel
theorem dX7_version_29 : decode cX7_version 29 = .ok (.iaload, 1) := by decide +kernel
theorem dX7_version_30 : decode cX7_version 30 = .ok (.istore_n 3, 1) := by decide +kernel
theorem dX7_version_31 : decode cX7_version 31 = .ok (.iload_n 2, 1) := by decide +kernel
theorem dX7_version_32 : decode cX7_version 32 = .ok (.tableswitch 133 0 9 #[56, 58, 72, 87, 93, 98, 103, 114, 120, 126], 56) := by decide +kernel
theorem dX7_version_88 : decode cX7_version 88 = .ok (.iload_n 3, 1) := by decide +kernel
theorem dX7_version_89 : decode cX7_version 89 = .ok (.ireturn, 1) := by decide +kernel
theorem dX7_version_90 : decode cX7_version 90 = .ok (.aload_n 0, 1) := by decide +kernel
theorem dX7_version_91 : decode cX7_version 91 = .ok (.iload_n 1, 1) := by decide +kernel
theorem dX7_version_92 : decode cX7_version 92 = .ok (.invokevirtual 43, 3) := by decide +kernel
theorem dX7_version_95 : decode cX7_version 95 = .ok (.ifCond .eq 7, 3) := by decide +kernel
theorem dX7_version_98 : decode cX7_version 98 = .ok (.iconst 1, 1) := by decide +kernel
theorem dX7_version_99 : decode cX7_version 99 = .ok (.goto 4, 3) := by decide +kernel
theorem dX7_version_102 : decode cX7_version 102 = .ok (.iconst 0, 1) := by decide +kernel
theorem dX7_version_103 : decode cX7_version 103 = .ok (.ireturn, 1) := by decide +kernel
theorem dX7_version_104 : decode cX7_version 104 = .ok (.iload_n 1, 1) := by decide +kernel
theorem dX7_version_105 : decode cX7_version 105 = .ok (.ifCond .ne 7, 3) := by decide +kernel
theorem dX7_version_108 : decode cX7_version 108 = .ok (.iconst 0, 1) := by decide +kernel
theorem dX7_version_109 : decode cX7_version 109 = .ok (.goto 9, 3) := by decide +kernel
theorem dX7_version_112 : decode cX7_version 112 = .ok (.aload_n 0, 1) := by decide +kernel
theorem dX7_version_113 : decode cX7_version 113 = .ok (.iload_n 1, 1) := by decide +kernel
theorem dX7_version_114 : decode cX7_version 114 = .ok (.iload_n 3, 1) := by decide +kernel
theorem dX7_version_115 : decode cX7_version 115 = .ok (.invokevirtual 182, 3) := by decide +kernel
theorem dX7_version_118 : decode cX7_version 118 = .ok (.ireturn, 1) := by decide +kernel
theorem dX7_version_119 : decode cX7_version 119 = .ok (.aload_n 0, 1) := by decide +kernel
theorem dX7_version_120 : decode cX7_version 120 = .ok (.iload_n 1, 1) := by decide +kernel
theorem dX7_version_121 : decode cX7_version 121 = .ok (.invokevirtual 84, 3) := by decide +kernel
theorem dX7_version_124 : decode cX7_version 124 = .ok (.ireturn, 1) := by decide +kernel
theorem dX7_version_125 : decode cX7_version 125 = .ok (.aload_n 0, 1) := by decide +kernel
theorem dX7_version_126 : decode cX7_version 126 = .ok (.getfield 51, 3) := by decide +kernel
theorem dX7_version_129 : decode cX7_version 129 = .ok (.ireturn, 1) := by decide +kernel
theorem dX7_version_130 : decode cX7_version 130 = .ok (.aload_n 0, 1) := by decide +kernel
theorem dX7_version_131 : decode cX7_version 131 = .ok (.getfield 58, 3) := by decide +kernel
theorem dX7_version_134 : decode cX7_version 134 = .ok (.ireturn, 1) := by decide +kernel
theorem dX7_version_135 : decode cX7_version 135 = .ok (.aload_n 0, 1) := by decide +kernel
theorem dX7_version_136 : decode cX7_version 136 = .ok (.getfield 7, 3) := by decide +kernel
theorem dX7_version_139 : decode cX7_version 139 = .ok (.iload_n 1, 1) := by decide +kernel
theorem dX7_version_140 : decode cX7_version 140 = .ok (.iconst 4, 1) := by decide +kernel
theorem dX7_version_141 : decode cX7_version 141 = .ok (.invokestatic 32, 3) := by decide +kernel
theorem dX7_version_144 : decode cX7_version 144 = .ok (.iaload, 1) := by decide +kernel
theorem dX7_version_145 : decode cX7_version 145 = .ok (.ireturn, 1) := by decide +kernel
theorem dX7_version_146 : decode cX7_version 146 = .ok (.aload_n 0, 1) := by decide +kernel
theorem dX7_version_147 : decode cX7_version 147 = .ok (.iload_n 1, 1) := by decide +kernel
theorem dX7_version_148 : decode cX7_version 148 = .ok (.invokevirtual 78, 3) := by decide +kernel
theorem dX7_version_151 : decode cX7_version 151 = .ok (.ireturn, 1) := by decide +kernel
theorem dX7_version_152 : decode cX7_version 152 = .ok (.aload_n 0, 1) := by decide +kernel
theorem dX7_version_153 : decode cX7_version 153 = .ok (.iload_n 1, 1) := by decide +kernel
theorem dX7_version_154 : decode cX7_version 154 = .ok (.invokevirtual 185, 3) := by decide +kernel
theorem dX7_version_157 : decode cX7_version 157 = .ok (.ireturn, 1) := by decide +kernel
theorem dX7_version_158 : decode cX7_version 158 = .ok (.iconst 1, 1) := by decide +kernel
theorem dX7_version_159 : decode cX7_version 159 = .ok (.aload_n 0, 1) := by decide +kernel
theorem dX7_version_160 : decode cX7_version 160 = .ok (.getfield 58, 3) := by decide +kernel
theorem dX7_version_163 : decode cX7_version 163 = .ok (.iadd, 1) := by decide +kernel
theorem dX7_version_164 : decode cX7_version 164 = .ok (.ireturn, 1) := by decide +kernel
theorem dX7_version_165 : decode cX7_version 165 = .ok (.bipush (-2), 2) := by decide +kernel
theorem dX7_version_167 : decode cX7_version 167 = .ok (.ireturn, 1) := by decide +kernel
theorem dX7_way_0 : decode cX7_way 0 = .ok (.aload_n 0, 1) := by decide +kernel
theorem dX7_way_1 : decode cX7_way 1 = .ok (.iload_n 1, 1) := by decide +kernel
theorem dX7_way_2 : decode cX7_way 2 = .ok (.invokevirtual 72, 3) := by decide +kernel
theorem dX7_way_5 : decode cX7_way 5 = .ok (.ifCond .ne 5, 3) := by decide +kernel
theorem dX7_way_8 : decode cX7_way 8 = .ok (.iconst (-1), 1) := by decide +kernel
theorem dX7_way_9 : decode cX7_way 9 = .ok (.ireturn, 1) := by decide +kernel
theorem dX7_way_10 : decode cX7_way 10 = .ok (.iload_n 2, 1) := by decide +kernel
theorem dX7_way_11 : decode cX7_way 11 = .ok (.ifCond .ge 6, 3) := by decide +kernel
theorem dX7_way_14 : decode cX7_way 14 = .ok (.bipush (-2), 2) := by decide +kernel
theorem dX7_way_16 : decode cX7_way 16 = .ok (.ireturn, 1) := by decide +kernel
theorem dX7_way_17 : decode cX7_way 17 = .ok (.aload_n 0, 1) := by decide +kernel
theorem dX7_way_18 : decode cX7_way 18 = .ok (.aload_n 0, 1) := by decide +kernel
theorem dX7_way_19 : decode cX7_way 19 = .ok (.iload_n 1, 1) := by decide +kernel
theorem dX7_way_20 : decode cX7_way 20 = .ok (.invokevirtual 84, 3) := by decide +kernel
theorem dX7_way_23 : decode cX7_way 23 = .ok (.iload_n 1, 1) := by decide +kernel
theorem dX7_way_24 : decode cX7_way 24 = .ok (.invokevirtual 64, 3) := by decide +kernel
theorem dX7_way_27 : decode cX7_way 27 = .ok (.iload_n 2, 1) := by decide +kernel
theorem dX7_way_28 : decode cX7_way 28 = .ok (.aload_n 0, 1) := by decide +kernel
theorem dX7_way_29 : decode cX7_way 29 = .ok (.getfield 51, 3) := by decide +kernel
theorem dX7_way_32 : decode cX7_way 32 = .ok (.if_icmp .le 8, 3) := by decide +kernel
theorem dX7_way_35 : decode cX7_way 35 = .ok (.bipush (-5), 2) := by decide +kernel
theorem dX7_way_37 : decode cX7_way 37 = .ok (.goto 9, 3) := by decide +kernel
theorem dX7_way_40 : decode cX7_way 40 = .ok (.aload_n 0, 1) := by decide +kernel
theorem dX7_way_41 : decode cX7_way 41 = .ok (.getfield 29, 3) := by decide +kernel
theorem dX7_way_44 : decode cX7_way 44 = .ok (.iload_n 2, 1) := by decide +kernel
theorem dX7_way_45 : decode cX7_way 45 = .ok (.iaload, 1) := by decide +kernel
theorem dX7_way_46 : decode cX7_way 46 = .ok (.ireturn, 1) := by decide +kernel
theorem dX7_unlike_0 : decode cX7_unlike 0 = .ok (.aload_n 0, 1) := by decide +kernel
theorem dX7_unlike_1 : decode cX7_unlike 1 = .ok (.iload_n 1, 1) := by decide +kernel
theorem dX7_unlike_2 : decode cX7_unlike 2 = .ok (.invokevirtual 72, 3) := by decide +kernel
theorem dX7_unlike_5 : decode cX7_unlike 5 = .ok (.ifCond .eq 20, 3) := by decide +kernel
theorem dX7_unlike_8 : decode cX7_unlike 8 = .ok (.aload_n 0, 1) := by decide +kernel
theorem dX7_unlike_9 : decode cX7_unlike 9 = .ok (.iload_n 2, 1) := by decide +kernel
theorem dX7_unlike_10 : decode cX7_unlike 10 = .ok (.invokevirtual 72, 3) := by decide +kernel
theorem dX7_unlike_13 : decode cX7_unlike 13 = .ok (.ifCond .eq 12, 3) := by decide +kernel
theorem dX7_unlike_16 : decode cX7_unlike 16 = .ok (.aload_n 0, 1) := by decide +kernel
theorem dX7_unlike_17 : decode cX7_unlike 17 = .ok (.iload_n 1, 1) := by decide +kernel
theorem dX7_unlike_18 : decode cX7_unlike 18 = .ok (.iload_n 2, 1) := by decide +kernel
theorem dX7_unlike_19 : decode cX7_unlike 19 = .ok (.invokevirtual 61, 3) := by decide +kernel
theorem dX7_unlike_22 : decode cX7_unlike 22 = .ok (.goto 4, 3) := by decide +kernel
theorem dX7_unlike_25 : decode cX7_unlike 25 = .ok (.iconst (-1), 1) := by decide +kernel
theorem dX7_unlike_26 : decode cX7_unlike 26 = .ok (.ireturn, 1) := by decide +kernel
theorem dX7_isAhead_0 : decode cX7_isAhead 0 = .ok (.iload_n 2, 1) := by decide +kernel
theorem dX7_isAhead_1 : decode cX7_isAhead 1 = .ok (.istore_n 3, 1) := by decide +kernel
theorem dX7_isAhead_2 : decode cX7_isAhead 2 = .ok (.iload_n 3, 1) := by decide +kernel
theorem dX7_isAhead_3 : decode cX7_isAhead 3 = .ok (.iload_n 1, 1) := by decide +kernel
theorem dX7_isAhead_4 : decode cX7_isAhead 4 = .ok (.if_icmp .eq 21, 3) := by decide +kernel
theorem dX7_isAhead_7 : decode cX7_isAhead 7 = .ok (.iload_n 3, 1) := by decide +kernel
theorem dX7_isAhead_8 : decode cX7_isAhead 8 = .ok (.ifCond .le 17, 3) := by decide +kernel
theorem dX7_isAhead_11 : decode cX7_isAhead 11 = .ok (.aload_n 0, 1) := by decide +kernel
theorem dX7_isAhead_12 : decode cX7_isAhead 12 = .ok (.getfield 7, 3) := by decide +kernel
theorem dX7_isAhead_15 : decode cX7_isAhead 15 = .ok (.iload_n 3, 1) := by decide +kernel
theorem dX7_isAhead_16 : decode cX7_isAhead 16 = .ok (.iconst 1, 1) := by decide +kernel
theorem dX7_isAhead_17 : decode cX7_isAhead 17 = .ok (.invokestatic 32, 3) := by decide +kernel
theorem dX7_isAhead_20 : decode cX7_isAhead 20 = .ok (.iaload, 1) := by decide +kernel
theorem dX7_isAhead_21 : decode cX7_isAhead 21 = .ok (.istore_n 3, 1) := by decide +kernel
theorem dX7_isAhead_22 : decode cX7_isAhead 22 = .ok (.goto (-20), 3) := by decide +kernel
theorem dX7_isAhead_25 : decode cX7_isAhead 25 = .ok (.iload_n 3, 1) := by decide +kernel
theorem dX7_isAhead_26 : decode cX7_isAhead 26 = .ok (.iload_n 1, 1) := by decide +kernel
theorem dX7_isAhead_27 : decode cX7_isAhead 27 = .ok (.if_icmp .ne 7, 3) := by decide +kernel
theorem dX7_isAhead_30 : decode cX7_isAhead 30 = .ok (.iconst 1, 1) := by decide +kernel
theorem dX7_isAhead_31 : decode cX7_isAhead 31 = .ok (.goto 4, 3) := by decide +kernel
theorem dX7_isAhead_34 : decode cX7_isAhead 34 = .ok (.iconst 0, 1) := by decide +kernel
theorem dX7_isAhead_35 : decode cX7_isAhead 35 = .ok (.ireturn, 1) := by decide +kernel
theorem dX7_common_0 : decode cX7_common 0 = .ok (.aload_n 0, 1) := by decide +kernel
theorem dX7_common_1 : decode cX7_common 1 = .ok (.iload_n 1, 1) := by decide +kernel
theorem dX7_common_2 : decode cX7_common 2 = .ok (.invokevirtual 72, 3) := by decide +kernel
theorem dX7_common_5 : decode cX7_common 5 = .ok (.ifCond .eq 11, 3) := by decide +kernel
theorem dX7_common_8 : decode cX7_common 8 = .ok (.aload_n 0, 1) := by decide +kernel
theorem dX7_common_9 : decode cX7_common 9 = .ok (.iload_n 2, 1) := by decide +kernel
theorem dX7_common_10 : decode cX7_common 10 = .ok (.invokevirtual 72, 3) := by decide +kernel
theorem dX7_common_13 : decode cX7_common 13 = .ok (.ifCond .ne 5, 3) := by decide +kernel
theorem dX7_common_16 : decode cX7_common 16 = .ok (.iconst (-1), 1) := by decide +kernel
theorem dX7_common_17 : decode cX7_common 17 = .ok (.ireturn, 1) := by decide +kernel
theorem dX7_common_18 : decode cX7_common 18 = .ok (.iload_n 1, 1) := by decide +kernel
theorem dX7_common_19 : decode cX7_common 19 = .ok (.istore_n 3, 1) := by decide +kernel
theorem dX7_common_20 : decode cX7_common 20 = .ok (.aload_n 0, 1) := by decide +kernel
theorem dX7_common_21 : decode cX7_common 21 = .ok (.iload_n 3, 1) := by decide +kernel
theorem dX7_common_22 : decode cX7_common 22 = .ok (.iload_n 2, 1) := by decide +kernel
theorem dX7_common_23 : decode cX7_common 23 = .ok (.invokevirtual 188, 3) := by decide +kernel
theorem dX7_common_26 : decode cX7_common 26 = .ok (.ifCond .ne 17, 3) := by decide +kernel
theorem dX7_common_29 : decode cX7_common 29 = .ok (.aload_n 0, 1) := by decide +kernel
theorem dX7_common_30 : decode cX7_common 30 = .ok (.getfield 7, 3) := by decide +kernel
theorem dX7_common_33 : decode cX7_common 33 = .ok (.iload_n 3, 1) := by decide +kernel
theorem dX7_common_34 : decode cX7_common 34 = .ok (.iconst 1, 1) := by decide +kernel
theorem dX7_common_35 : decode cX7_common 35 = .ok (.invokestatic 32, 3) := by decide +kernel
theorem dX7_common_38 : decode cX7_common 38 = .ok (.iaload, 1) := by decide +kernel
theorem dX7_common_39 : decode cX7_common 39 = .ok (.istore_n 3, 1) := by decide +kernel
theorem dX7_common_40 : decode cX7_common 40 = .ok (.goto (-20), 3) := by decide +kernel
theorem dX7_common_43 : decode cX7_common 43 = .ok (.iload_n 3, 1) := by decide +kernel
theorem dX7_common_44 : decode cX7_common 44 = .ok (.ireturn, 1) := by decide +kernel
theorem dX7_costOf_0 : decode cX7_costOf 0 = .ok (.aload_n 0, 1) := by decide +kernel
theorem dX7_costOf_1 : decode cX7_costOf 1 = .ok (.iload_n 1, 1) := by decide +kernel
theorem dX7_costOf_2 : decode cX7_costOf 2 = .ok (.invokevirtual 47, 3) := by decide +kernel
theorem dX7_costOf_5 : decode cX7_costOf 5 = .ok (.istore_n 2, 1) := by decide +kernel
theorem dX7_costOf_6 : decode cX7_costOf 6 = .ok (.iconst 0, 1) := by decide +kernel
theorem dX7_costOf_7 : decode cX7_costOf 7 = .ok (.istore_n 3, 1) := by decide +kernel
theorem dX7_costOf_8 : decode cX7_costOf 8 = .ok (.iconst 0, 1) := by decide +kernel
theorem dX7_costOf_9 : decode cX7_costOf 9 = .ok (.istore 4, 2) := by decide +kernel
theorem dX7_costOf_11 : decode cX7_costOf 11 = .ok (.iload 4, 2) := by decide +kernel
theorem dX7_costOf_13 : decode cX7_costOf 13 = .ok (.bipush 24, 2) := by decide +kernel
theorem dX7_costOf_15 : decode cX7_costOf 15 = .ok (.if_icmp .ge 74, 3) := by decide +kernel
theorem dX7_costOf_18 : decode cX7_costOf 18 = .ok (.aload_n 0, 1) := by decide +kernel
theorem dX7_costOf_19 : decode cX7_costOf 19 = .ok (.getfield 7, 3) := by decide +kernel
theorem dX7_costOf_22 : decode cX7_costOf 22 = .ok (.iload 4, 2) := by decide +kernel
theorem dX7_costOf_24 : decode cX7_costOf 24 = .ok (.iconst 0, 1) := by decide +kernel
theorem dX7_costOf_25 : decode cX7_costOf 25 = .ok (.invokestatic 32, 3) := by decide +kernel
theorem dX7_costOf_28 : decode cX7_costOf 28 = .ok (.iaload, 1) := by decide +kernel
theorem dX7_costOf_29 : decode cX7_costOf 29 = .ok (.iconst 1, 1) := by decide +kernel
theorem dX7_costOf_30 : decode cX7_costOf 30 = .ok (.if_icmp .ne 17, 3) := by decide +kernel
theorem dX7_costOf_33 : decode cX7_costOf 33 = .ok (.aload_n 0, 1) := by decide +kernel
theorem dX7_costOf_34 : decode cX7_costOf 34 = .ok (.iload 4, 2) := by decide +kernel
theorem dX7_costOf_36 : decode cX7_costOf 36 = .ok (.invokevirtual 47, 3) := by decide +kernel
theorem dX7_costOf_39 : decode cX7_costOf 39 = .ok (.iload_n 2, 1) := by decide +kernel
theorem dX7_costOf_40 : decode cX7_costOf 40 = .ok (.if_icmp .ne 7, 3) := by decide +kernel
theorem dX7_costOf_43 : decode cX7_costOf 43 = .ok (.iconst 1, 1) := by decide +kernel
theorem dX7_costOf_44 : decode cX7_costOf 44 = .ok (.goto 4, 3) := by decide +kernel
theorem dX7_costOf_47 : decode cX7_costOf 47 = .ok (.iconst 0, 1) := by decide +kernel
theorem dX7_costOf_48 : decode cX7_costOf 48 = .ok (.istore 5, 2) := by decide +kernel
theorem dX7_costOf_50 : decode cX7_costOf 50 = .ok (.iload_n 3, 1) := by decide +kernel
theorem dX7_costOf_51 : decode cX7_costOf 51 = .ok (.iload 5, 2) := by decide +kernel
theorem dX7_costOf_53 : decode cX7_costOf 53 = .ok (.ifCond .eq 27, 3) := by decide +kernel
theorem dX7_costOf_56 : decode cX7_costOf 56 = .ok (.aload_n 0, 1) := by decide +kernel
theorem dX7_costOf_57 : decode cX7_costOf 57 = .ok (.getfield 7, 3) := by decide +kernel
theorem dX7_costOf_60 : decode cX7_costOf 60 = .ok (.iload 4, 2) := by decide +kernel
theorem dX7_costOf_62 : decode cX7_costOf 62 = .ok (.iconst 4, 1) := by decide +kernel
theorem dX7_costOf_63 : decode cX7_costOf 63 = .ok (.invokestatic 32, 3) := by decide +kernel
theorem dX7_costOf_66 : decode cX7_costOf 66 = .ok (.iaload, 1) := by decide +kernel
theorem dX7_costOf_67 : decode cX7_costOf 67 = .ok (.iconst 1, 1) := by decide +kernel
theorem dX7_costOf_68 : decode cX7_costOf 68 = .ok (.aload_n 0, 1) := by decide +kernel
theorem dX7_costOf_69 : decode cX7_costOf 69 = .ok (.iload_n 1, 1) := by decide +kernel
theorem dX7_costOf_70 : decode cX7_costOf 70 = .ok (.iload 4, 2) := by decide +kernel
theorem dX7_costOf_72 : decode cX7_costOf 72 = .ok (.invokevirtual 87, 3) := by decide +kernel
theorem dX7_costOf_75 : decode cX7_costOf 75 = .ok (.iadd, 1) := by decide +kernel
theorem dX7_costOf_76 : decode cX7_costOf 76 = .ok (.imul, 1) := by decide +kernel
theorem dX7_costOf_77 : decode cX7_costOf 77 = .ok (.goto 4, 3) := by decide +kernel
theorem dX7_costOf_80 : decode cX7_costOf 80 = .ok (.iconst 0, 1) := by decide +kernel
theorem dX7_costOf_81 : decode cX7_costOf 81 = .ok (.iadd, 1) := by decide +kernel
theorem dX7_costOf_82 : decode cX7_costOf 82 = .ok (.istore_n 3, 1) := by decide +kernel
theorem dX7_costOf_83 : decode cX7_costOf 83 = .ok (.iinc 4 1, 3) := by decide +kernel
theorem dX7_costOf_86 : decode cX7_costOf 86 = .ok (.goto (-75), 3) := by decide +kernel
theorem dX7_costOf_89 : decode cX7_costOf 89 = .ok (.iload_n 3, 1) := by decide +kernel
theorem dX7_costOf_90 : decode cX7_costOf 90 = .ok (.ireturn, 1) := by decide +kernel
theorem dX7_ifRoot_0 : decode cX7_ifRoot 0 = .ok (.aload_n 0, 1) := by decide +kernel
theorem dX7_ifRoot_1 : decode cX7_ifRoot 1 = .ok (.iload_n 1, 1) := by decide +kernel
theorem dX7_ifRoot_2 : decode cX7_ifRoot 2 = .ok (.invokevirtual 72, 3) := by decide +kernel
theorem dX7_ifRoot_5 : decode cX7_ifRoot 5 = .ok (.ifCond .eq 11, 3) := by decide +kernel
theorem dX7_ifRoot_8 : decode cX7_ifRoot 8 = .ok (.aload_n 0, 1) := by decide +kernel
theorem dX7_ifRoot_9 : decode cX7_ifRoot 9 = .ok (.iload_n 1, 1) := by decide +kernel
theorem dX7_ifRoot_10 : decode cX7_ifRoot 10 = .ok (.invokevirtual 191, 3) := by decide +kernel
theorem dX7_ifRoot_13 : decode cX7_ifRoot 13 = .ok (.goto 4, 3) := by decide +kernel
theorem dX7_ifRoot_16 : decode cX7_ifRoot 16 = .ok (.iconst (-1), 1) := by decide +kernel
theorem dX7_ifRoot_17 : decode cX7_ifRoot 17 = .ok (.ireturn, 1) := by decide +kernel
theorem dX7_bestRoot_0 : decode cX7_bestRoot 0 = .ok (.aload_n 0, 1) := by decide +kernel
theorem dX7_bestRoot_1 : decode cX7_bestRoot 1 = .ok (.iload_n 1, 1) := by decide +kernel
theorem dX7_bestRoot_2 : decode cX7_bestRoot 2 = .ok (.invokevirtual 72, 3) := by decide +kernel
theorem dX7_bestRoot_5 : decode cX7_bestRoot 5 = .ok (.ifCond .ne 5, 3) := by decide +kernel
theorem dX7_bestRoot_8 : decode cX7_bestRoot 8 = .ok (.iconst (-1), 1) := by decide +kernel
theorem dX7_bestRoot_9 : decode cX7_bestRoot 9 = .ok (.ireturn, 1) := by decide +kernel
theorem dX7_bestRoot_10 : decode cX7_bestRoot 10 = .ok (.aload_n 0, 1) := by decide +kernel
theorem dX7_bestRoot_11 : decode cX7_bestRoot 11 = .ok (.iload_n 1, 1) := by decide +kernel
theorem dX7_bestRoot_12 : decode cX7_bestRoot 12 = .ok (.invokevirtual 47, 3) := by decide +kernel
theorem dX7_bestRoot_15 : decode cX7_bestRoot 15 = .ok (.istore_n 2, 1) := by decide +kernel
theorem dX7_bestRoot_16 : decode cX7_bestRoot 16 = .ok (.bipush (-5), 2) := by decide +kernel
theorem dX7_bestRoot_18 : decode cX7_bestRoot 18 = .ok (.istore_n 3, 1) := by decide +kernel
theorem dX7_bestRoot_19 : decode cX7_bestRoot 19 = .ok (.ldc 194, 2) := by decide +kernel
theorem dX7_bestRoot_21 : decode cX7_bestRoot 21 = .ok (.istore 4, 2) := by decide +kernel
theorem dX7_bestRoot_23 : decode cX7_bestRoot 23 = .ok (.iconst 0, 1) := by decide +kernel
theorem dX7_bestRoot_24 : decode cX7_bestRoot 24 = .ok (.istore 5, 2) := by decide +kernel
theorem dX7_bestRoot_26 : decode cX7_bestRoot 26 = .ok (.iload 5, 2) := by decide +kernel
theorem dX7_bestRoot_28 : decode cX7_bestRoot 28 = .ok (.bipush 24, 2) := by decide +kernel
theorem dX7_bestRoot_30 : decode cX7_bestRoot 30 = .ok (.if_icmp .ge 77, 3) := by decide +kernel
theorem dX7_bestRoot_33 : decode cX7_bestRoot 33 = .ok (.aload_n 0, 1) := by decide +kernel
theorem dX7_bestRoot_34 : decode cX7_bestRoot 34 = .ok (.getfield 7, 3) := by decide +kernel
theorem dX7_bestRoot_37 : decode cX7_bestRoot 37 = .ok (.iload 5, 2) := by decide +kernel
theorem dX7_bestRoot_39 : decode cX7_bestRoot 39 = .ok (.iconst 0, 1) := by decide +kernel
theorem dX7_bestRoot_40 : decode cX7_bestRoot 40 = .ok (.invokestatic 32, 3) := by decide +kernel
theorem dX7_bestRoot_43 : decode cX7_bestRoot 43 = .ok (.iaload, 1) := by decide +kernel
theorem dX7_bestRoot_44 : decode cX7_bestRoot 44 = .ok (.iconst 1, 1) := by decide +kernel
theorem dX7_bestRoot_45 : decode cX7_bestRoot 45 = .ok (.if_icmp .ne 22, 3) := by decide +kernel
theorem dX7_bestRoot_48 : decode cX7_bestRoot 48 = .ok (.aload_n 0, 1) := by decide +kernel
theorem dX7_bestRoot_49 : decode cX7_bestRoot 49 = .ok (.iload 5, 2) := by decide +kernel
theorem dX7_bestRoot_51 : decode cX7_bestRoot 51 = .ok (.invokevirtual 47, 3) := by decide +kernel
theorem dX7_bestRoot_54 : decode cX7_bestRoot 54 = .ok (.iload_n 2, 1) := by decide +kernel
theorem dX7_bestRoot_55 : decode cX7_bestRoot 55 = .ok (.if_icmp .ne 12, 3) := by decide +kernel
theorem dX7_bestRoot_58 : decode cX7_bestRoot 58 = .ok (.aload_n 0, 1) := by decide +kernel
theorem dX7_bestRoot_59 : decode cX7_bestRoot 59 = .ok (.iload 5, 2) := by decide +kernel
theorem dX7_bestRoot_61 : decode cX7_bestRoot 61 = .ok (.invokevirtual 191, 3) := by decide +kernel
theorem dX7_bestRoot_64 : decode cX7_bestRoot 64 = .ok (.goto 5, 3) := by decide +kernel
theorem dX7_bestRoot_67 : decode cX7_bestRoot 67 = .ok (.ldc 194, 2) := by decide +kernel
theorem dX7_bestRoot_69 : decode cX7_bestRoot 69 = .ok (.istore 6, 2) := by decide +kernel
theorem dX7_bestRoot_71 : decode cX7_bestRoot 71 = .ok (.iload 6, 2) := by decide +kernel
theorem dX7_bestRoot_73 : decode cX7_bestRoot 73 = .ok (.iload 4, 2) := by decide +kernel
theorem dX7_bestRoot_75 : decode cX7_bestRoot 75 = .ok (.if_icmp .ge 8, 3) := by decide +kernel
theorem dX7_bestRoot_78 : decode cX7_bestRoot 78 = .ok (.iload 5, 2) := by decide +kernel
theorem dX7_bestRoot_80 : decode cX7_bestRoot 80 = .ok (.goto 4, 3) := by decide +kernel
theorem dX7_bestRoot_83 : decode cX7_bestRoot 83 = .ok (.iload_n 3, 1) := by decide +kernel
theorem dX7_bestRoot_84 : decode cX7_bestRoot 84 = .ok (.istore_n 3, 1) := by decide +kernel
theorem dX7_bestRoot_85 : decode cX7_bestRoot 85 = .ok (.iload 6, 2) := by decide +kernel
theorem dX7_bestRoot_87 : decode cX7_bestRoot 87 = .ok (.iload 4, 2) := by decide +kernel
theorem dX7_bestRoot_89 : decode cX7_bestRoot 89 = .ok (.if_icmp .ge 8, 3) := by decide +kernel
theorem dX7_bestRoot_92 : decode cX7_bestRoot 92 = .ok (.iload 6, 2) := by decide +kernel
theorem dX7_bestRoot_94 : decode cX7_bestRoot 94 = .ok (.goto 5, 3) := by decide +kernel
theorem dX7_bestRoot_97 : decode cX7_bestRoot 97 = .ok (.iload 4, 2) := by decide +kernel
theorem dX7_bestRoot_99 : decode cX7_bestRoot 99 = .ok (.istore 4, 2) := by decide +kernel
theorem dX7_bestRoot_101 : decode cX7_bestRoot 101 = .ok (.iinc 5 1, 3) := by decide +kernel
theorem dX7_bestRoot_104 : decode cX7_bestRoot 104 = .ok (.goto (-78), 3) := by decide +kernel
theorem dX7_bestRoot_107 : decode cX7_bestRoot 107 = .ok (.iload_n 3, 1) := by decide +kernel
theorem dX7_bestRoot_108 : decode cX7_bestRoot 108 = .ok (.ireturn, 1) := by decide +kernel
theorem dX7_ifCut_0 : decode cX7_ifCut 0 = .ok (.aload_n 0, 1) := by decide +kernel
theorem dX7_ifCut_1 : decode cX7_ifCut 1 = .ok (.iload_n 1, 1) := by decide +kernel
theorem dX7_ifCut_2 : decode cX7_ifCut 2 = .ok (.invokevirtual 72, 3) := by decide +kernel
theorem dX7_ifCut_5 : decode cX7_ifCut 5 = .ok (.ifCond .ne 5, 3) := by decide +kernel
theorem dX7_ifCut_8 : decode cX7_ifCut 8 = .ok (.iconst (-1), 1) := by decide +kernel
theorem dX7_ifCut_9 : decode cX7_ifCut 9 = .ok (.ireturn, 1) := by decide +kernel
theorem dX7_ifCut_10 : decode cX7_ifCut 10 = .ok (.iload_n 1, 1) := by decide +kernel
theorem dX7_ifCut_11 : decode cX7_ifCut 11 = .ok (.ifCond .ne 6, 3) := by decide +kernel
theorem dX7_ifCut_14 : decode cX7_ifCut 14 = .ok (.bipush (-4), 2) := by decide +kernel
theorem dX7_ifCut_16 : decode cX7_ifCut 16 = .ok (.ireturn, 1) := by decide +kernel
theorem dX7_ifCut_17 : decode cX7_ifCut 17 = .ok (.bipush 7, 2) := by decide +kernel
theorem dX7_ifCut_19 : decode cX7_ifCut 19 = .ok (.iconst 2, 1) := by decide +kernel
theorem dX7_ifCut_20 : decode cX7_ifCut 20 = .ok (.aload_n 0, 1) := by decide +kernel
theorem dX7_ifCut_21 : decode cX7_ifCut 21 = .ok (.iload_n 1, 1) := by decide +kernel
theorem dX7_ifCut_22 : decode cX7_ifCut 22 = .ok (.aload_n 0, 1) := by decide +kernel
theorem dX7_ifCut_23 : decode cX7_ifCut 23 = .ok (.getfield 7, 3) := by decide +kernel
theorem dX7_ifCut_26 : decode cX7_ifCut 26 = .ok (.iload_n 1, 1) := by decide +kernel
theorem dX7_ifCut_27 : decode cX7_ifCut 27 = .ok (.iconst 1, 1) := by decide +kernel
theorem dX7_ifCut_28 : decode cX7_ifCut 28 = .ok (.invokestatic 32, 3) := by decide +kernel
theorem dX7_ifCut_31 : decode cX7_ifCut 31 = .ok (.iaload, 1) := by decide +kernel
theorem dX7_ifCut_32 : decode cX7_ifCut 32 = .ok (.invokevirtual 61, 3) := by decide +kernel
theorem dX7_ifCut_35 : decode cX7_ifCut 35 = .ok (.imul, 1) := by decide +kernel
theorem dX7_ifCut_36 : decode cX7_ifCut 36 = .ok (.isub, 1) := by decide +kernel
theorem dX7_ifCut_37 : decode cX7_ifCut 37 = .ok (.istore_n 2, 1) := by decide +kernel
theorem dX7_ifCut_38 : decode cX7_ifCut 38 = .ok (.aload_n 0, 1) := by decide +kernel
theorem dX7_ifCut_39 : decode cX7_ifCut 39 = .ok (.invokevirtual 195, 3) := by decide +kernel
theorem dX7_ifCut_42 : decode cX7_ifCut 42 = .ok (.aload_n 0, 1) := by decide +kernel
theorem dX7_ifCut_43 : decode cX7_ifCut 43 = .ok (.iload_n 1, 1) := by decide +kernel
theorem dX7_ifCut_44 : decode cX7_ifCut 44 = .ok (.invokevirtual 43, 3) := by decide +kernel
theorem dX7_ifCut_47 : decode cX7_ifCut 47 = .ok (.ifCond .eq 7, 3) := by decide +kernel
theorem dX7_ifCut_50 : decode cX7_ifCut 50 = .ok (.iload_n 2, 1) := by decide +kernel
theorem dX7_ifCut_51 : decode cX7_ifCut 51 = .ok (.goto 5, 3) := by decide +kernel
theorem dX7_ifCut_54 : decode cX7_ifCut 54 = .ok (.iload_n 2, 1) := by decide +kernel
theorem dX7_ifCut_55 : decode cX7_ifCut 55 = .ok (.ineg, 1) := by decide +kernel
theorem dX7_ifCut_56 : decode cX7_ifCut 56 = .ok (.iadd, 1) := by decide +kernel
theorem dX7_ifCut_57 : decode cX7_ifCut 57 = .ok (.ireturn, 1) := by decide +kernel
theorem dX7_mostSteps_0 : decode cX7_mostSteps 0 = .ok (.iconst 0, 1) := by decide +kernel
theorem dX7_mostSteps_1 : decode cX7_mostSteps 1 = .ok (.istore_n 1, 1) := by decide +kernel
theorem dX7_mostSteps_2 : decode cX7_mostSteps 2 = .ok (.iconst 0, 1) := by decide +kernel
theorem dX7_mostSteps_3 : decode cX7_mostSteps 3 = .ok (.istore_n 2, 1) := by decide +kernel
theorem dX7_mostSteps_4 : decode cX7_mostSteps 4 = .ok (.iload_n 2, 1) := by decide +kernel
theorem dX7_mostSteps_5 : decode cX7_mostSteps 5 = .ok (.bipush 24, 2) := by decide +kernel
theorem dX7_mostSteps_7 : decode cX7_mostSteps 7 = .ok (.if_icmp .ge 50, 3) := by decide +kernel
theorem dX7_mostSteps_10 : decode cX7_mostSteps 10 = .ok (.aload_n 0, 1) := by decide +kernel
theorem dX7_mostSteps_11 : decode cX7_mostSteps 11 = .ok (.getfield 7, 3) := by decide +kernel
theorem dX7_mostSteps_14 : decode cX7_mostSteps 14 = .ok (.iload_n 2, 1) := by decide +kernel
theorem dX7_mostSteps_15 : decode cX7_mostSteps 15 = .ok (.iconst 0, 1) := by decide +kernel
theorem dX7_mostSteps_16 : decode cX7_mostSteps 16 = .ok (.invokestatic 32, 3) := by decide +kernel
theorem dX7_mostSteps_19 : decode cX7_mostSteps 19 = .ok (.iaload, 1) := by decide +kernel
theorem dX7_mostSteps_20 : decode cX7_mostSteps 20 = .ok (.iconst 1, 1) := by decide +kernel
theorem dX7_mostSteps_21 : decode cX7_mostSteps 21 = .ok (.if_icmp .ne 30, 3) := by decide +kernel
theorem dX7_mostSteps_24 : decode cX7_mostSteps 24 = .ok (.aload_n 0, 1) := by decide +kernel
theorem dX7_mostSteps_25 : decode cX7_mostSteps 25 = .ok (.aload_n 0, 1) := by decide +kernel
theorem dX7_mostSteps_26 : decode cX7_mostSteps 26 = .ok (.iload_n 2, 1) := by decide +kernel
theorem dX7_mostSteps_27 : decode cX7_mostSteps 27 = .ok (.invokevirtual 84, 3) := by decide +kernel
theorem dX7_mostSteps_30 : decode cX7_mostSteps 30 = .ok (.iload_n 2, 1) := by decide +kernel
theorem dX7_mostSteps_31 : decode cX7_mostSteps 31 = .ok (.invokevirtual 64, 3) := by decide +kernel
theorem dX7_mostSteps_34 : decode cX7_mostSteps 34 = .ok (.aload_n 0, 1) := by decide +kernel
theorem dX7_mostSteps_35 : decode cX7_mostSteps 35 = .ok (.getfield 51, 3) := by decide +kernel
theorem dX7_mostSteps_38 : decode cX7_mostSteps 38 = .ok (.iload_n 1, 1) := by decide +kernel
theorem dX7_mostSteps_39 : decode cX7_mostSteps 39 = .ok (.if_icmp .le 10, 3) := by decide +kernel
theorem dX7_mostSteps_42 : decode cX7_mostSteps 42 = .ok (.aload_n 0, 1) := by decide +kernel
theorem dX7_mostSteps_43 : decode cX7_mostSteps 43 = .ok (.getfield 51, 3) := by decide +kernel
theorem dX7_mostSteps_46 : decode cX7_mostSteps 46 = .ok (.goto 4, 3) := by decide +kernel
theorem dX7_mostSteps_49 : decode cX7_mostSteps 49 = .ok (.iload_n 1, 1) := by decide +kernel
theorem dX7_mostSteps_50 : decode cX7_mostSteps 50 = .ok (.istore_n 1, 1) := by decide +kernel
theorem dX7_mostSteps_51 : decode cX7_mostSteps 51 = .ok (.iinc 2 1, 3) := by decide +kernel
theorem dX7_mostSteps_54 : decode cX7_mostSteps 54 = .ok (.goto (-50), 3) := by decide +kernel
theorem dX7_mostSteps_57 : decode cX7_mostSteps 57 = .ok (.iload_n 1, 1) := by decide +kernel
theorem dX7_mostSteps_58 : decode cX7_mostSteps 58 = .ok (.ireturn, 1) := by decide +kernel
theorem dX7_rows_0 : decode cX7_rows 0 = .ok (.iconst 0, 1) := by decide +kernel
theorem dX7_rows_1 : decode cX7_rows 1 = .ok (.istore_n 1, 1) := by decide +kernel
theorem dX7_rows_2 : decode cX7_rows 2 = .ok (.iconst 0, 1) := by decide +kernel
theorem dX7_rows_3 : decode cX7_rows 3 = .ok (.istore_n 2, 1) := by decide +kernel
theorem dX7_rows_4 : decode cX7_rows 4 = .ok (.iload_n 2, 1) := by decide +kernel
theorem dX7_rows_5 : decode cX7_rows 5 = .ok (.bipush 24, 2) := by decide +kernel
theorem dX7_rows_7 : decode cX7_rows 7 = .ok (.if_icmp .ge 90, 3) := by decide +kernel
theorem dX7_rows_10 : decode cX7_rows 10 = .ok (.aload_n 0, 1) := by decide +kernel
theorem dX7_rows_11 : decode cX7_rows 11 = .ok (.getfield 7, 3) := by decide +kernel
theorem dX7_rows_14 : decode cX7_rows 14 = .ok (.iload_n 2, 1) := by decide +kernel
theorem dX7_rows_15 : decode cX7_rows 15 = .ok (.iconst 0, 1) := by decide +kernel
theorem dX7_rows_16 : decode cX7_rows 16 = .ok (.invokestatic 32, 3) := by decide +kernel
theorem dX7_rows_19 : decode cX7_rows 19 = .ok (.iaload, 1) := by decide +kernel
theorem dX7_rows_20 : decode cX7_rows 20 = .ok (.iconst 1, 1) := by decide +kernel
theorem dX7_rows_21 : decode cX7_rows 21 = .ok (.if_icmp .ne 7, 3) := by decide +kernel
theorem dX7_rows_24 : decode cX7_rows 24 = .ok (.iconst 1, 1) := by decide +kernel
theorem dX7_rows_25 : decode cX7_rows 25 = .ok (.goto 4, 3) := by decide +kernel
theorem dX7_rows_28 : decode cX7_rows 28 = .ok (.iconst 0, 1) := by decide +kernel
theorem dX7_rows_29 : decode cX7_rows 29 = .ok (.istore_n 3, 1) := by decide +kernel
theorem dX7_rows_30 : decode cX7_rows 30 = .ok (.iconst 0, 1) := by decide +kernel
theorem dX7_rows_31 : decode cX7_rows 31 = .ok (.istore 4, 2) := by decide +kernel
theorem dX7_rows_33 : decode cX7_rows 33 = .ok (.iload 4, 2) := by decide +kernel
theorem dX7_rows_35 : decode cX7_rows 35 = .ok (.iload_n 2, 1) := by decide +kernel
theorem dX7_rows_36 : decode cX7_rows 36 = .ok (.if_icmp .ge 43, 3) := by decide +kernel
theorem dX7_rows_39 : decode cX7_rows 39 = .ok (.iload_n 3, 1) := by decide +kernel
theorem dX7_rows_40 : decode cX7_rows 40 = .ok (.ifCond .eq 31, 3) := by decide +kernel
theorem dX7_rows_43 : decode cX7_rows 43 = .ok (.aload_n 0, 1) := by decide +kernel
theorem dX7_rows_44 : decode cX7_rows 44 = .ok (.getfield 7, 3) := by decide +kernel
theorem dX7_rows_47 : decode cX7_rows 47 = .ok (.iload 4, 2) := by decide +kernel
theorem dX7_rows_49 : decode cX7_rows 49 = .ok (.iconst 0, 1) := by decide +kernel
theorem dX7_rows_50 : decode cX7_rows 50 = .ok (.invokestatic 32, 3) := by decide +kernel
theorem dX7_rows_53 : decode cX7_rows 53 = .ok (.iaload, 1) := by decide +kernel
theorem dX7_rows_54 : decode cX7_rows 54 = .ok (.ifCond .eq 13, 3) := by decide +kernel
theorem dX7_rows_57 : decode cX7_rows 57 = .ok (.aload_n 0, 1) := by decide +kernel
theorem dX7_rows_58 : decode cX7_rows 58 = .ok (.iload 4, 2) := by decide +kernel
theorem dX7_rows_60 : decode cX7_rows 60 = .ok (.iload_n 2, 1) := by decide +kernel
theorem dX7_rows_61 : decode cX7_rows 61 = .ok (.invokevirtual 182, 3) := by decide +kernel
theorem dX7_rows_64 : decode cX7_rows 64 = .ok (.ifCond .eq 7, 3) := by decide +kernel
theorem dX7_rows_67 : decode cX7_rows 67 = .ok (.iconst 1, 1) := by decide +kernel
theorem dX7_rows_68 : decode cX7_rows 68 = .ok (.goto 4, 3) := by decide +kernel
theorem dX7_rows_71 : decode cX7_rows 71 = .ok (.iconst 0, 1) := by decide +kernel
theorem dX7_rows_72 : decode cX7_rows 72 = .ok (.istore_n 3, 1) := by decide +kernel
theorem dX7_rows_73 : decode cX7_rows 73 = .ok (.iinc 4 1, 3) := by decide +kernel
theorem dX7_rows_76 : decode cX7_rows 76 = .ok (.goto (-43), 3) := by decide +kernel
theorem dX7_rows_79 : decode cX7_rows 79 = .ok (.iload_n 1, 1) := by decide +kernel
theorem dX7_rows_80 : decode cX7_rows 80 = .ok (.iload_n 3, 1) := by decide +kernel
theorem dX7_rows_81 : decode cX7_rows 81 = .ok (.ifCond .eq 7, 3) := by decide +kernel
theorem dX7_rows_84 : decode cX7_rows 84 = .ok (.iconst 1, 1) := by decide +kernel
theorem dX7_rows_85 : decode cX7_rows 85 = .ok (.goto 4, 3) := by decide +kernel
theorem dX7_rows_88 : decode cX7_rows 88 = .ok (.iconst 0, 1) := by decide +kernel
theorem dX7_rows_89 : decode cX7_rows 89 = .ok (.iadd, 1) := by decide +kernel
theorem dX7_rows_90 : decode cX7_rows 90 = .ok (.istore_n 1, 1) := by decide +kernel
theorem dX7_rows_91 : decode cX7_rows 91 = .ok (.iinc 2 1, 3) := by decide +kernel
theorem dX7_rows_94 : decode cX7_rows 94 = .ok (.goto (-90), 3) := by decide +kernel
theorem dX7_rows_97 : decode cX7_rows 97 = .ok (.iload_n 1, 1) := by decide +kernel
theorem dX7_rows_98 : decode cX7_rows 98 = .ok (.ireturn, 1) := by decide +kernel
theorem dX7_count_0 : decode cX7_count 0 = .ok (.iload_n 1, 1) := by decide +kernel
theorem dX7_count_1 : decode cX7_count 1 = .ok (.tableswitch 156 0 14 #[75, 75, 81, 86, 95, 75, 75, 104, 109, 118, 127, 127, 141, 146, 151], 75) := by decide +kernel
theorem dX7_count_76 : decode cX7_count 76 = .ok (.aload_n 0, 1) := by decide +kernel
theorem dX7_count_77 : decode cX7_count 77 = .ok (.iload_n 1, 1) := by decide +kernel
theorem dX7_count_78 : decode cX7_count 78 = .ok (.invokevirtual 81, 3) := by decide +kernel
theorem dX7_count_81 : decode cX7_count 81 = .ok (.ireturn, 1) := by decide +kernel
theorem dX7_count_82 : decode cX7_count 82 = .ok (.aload_n 0, 1) := by decide +kernel
theorem dX7_count_83 : decode cX7_count 83 = .ok (.invokevirtual 195, 3) := by decide +kernel
theorem dX7_count_86 : decode cX7_count 86 = .ok (.ireturn, 1) := by decide +kernel
theorem dX7_count_87 : decode cX7_count 87 = .ok (.aload_n 0, 1) := by decide +kernel
theorem dX7_count_88 : decode cX7_count 88 = .ok (.getfield 7, 3) := by decide +kernel
theorem dX7_count_91 : decode cX7_count 91 = .ok (.sipush 314, 3) := by decide +kernel
theorem dX7_count_94 : decode cX7_count 94 = .ok (.iaload, 1) := by decide +kernel
theorem dX7_count_95 : decode cX7_count 95 = .ok (.ireturn, 1) := by decide +kernel
theorem dX7_count_96 : decode cX7_count 96 = .ok (.aload_n 0, 1) := by decide +kernel
theorem dX7_count_97 : decode cX7_count 97 = .ok (.getfield 7, 3) := by decide +kernel
theorem dX7_count_100 : decode cX7_count 100 = .ok (.sipush 315, 3) := by decide +kernel
theorem dX7_count_103 : decode cX7_count 103 = .ok (.iaload, 1) := by decide +kernel
theorem dX7_count_104 : decode cX7_count 104 = .ok (.ireturn, 1) := by decide +kernel
theorem dX7_count_105 : decode cX7_count 105 = .ok (.aload_n 0, 1) := by decide +kernel
theorem dX7_count_106 : decode cX7_count 106 = .ok (.invokevirtual 198, 3) := by decide +kernel
theorem dX7_count_109 : decode cX7_count 109 = .ok (.ireturn, 1) := by decide +kernel
theorem dX7_count_110 : decode cX7_count 110 = .ok (.aload_n 0, 1) := by decide +kernel
theorem dX7_count_111 : decode cX7_count 111 = .ok (.getfield 7, 3) := by decide +kernel
theorem dX7_count_114 : decode cX7_count 114 = .ok (.sipush 316, 3) := by decide +kernel
theorem dX7_count_117 : decode cX7_count 117 = .ok (.iaload, 1) := by decide +kernel
theorem dX7_count_118 : decode cX7_count 118 = .ok (.ireturn, 1) := by decide +kernel
theorem dX7_count_119 : decode cX7_count 119 = .ok (.aload_n 0, 1) := by decide +kernel
theorem dX7_count_120 : decode cX7_count 120 = .ok (.getfield 7, 3) := by decide +kernel
theorem dX7_count_123 : decode cX7_count 123 = .ok (.sipush 317, 3) := by decide +kernel
theorem dX7_count_126 : decode cX7_count 126 = .ok (.iaload, 1) := by decide +kernel
theorem dX7_count_127 : decode cX7_count 127 = .ok (.ireturn, 1) := by decide +kernel
theorem dX7_count_128 : decode cX7_count 128 = .ok (.aload_n 0, 1) := by decide +kernel
theorem dX7_count_129 : decode cX7_count 129 = .ok (.getfield 7, 3) := by decide +kernel
theorem dX7_count_132 : decode cX7_count 132 = .ok (.sipush 312, 3) := by decide +kernel
theorem dX7_count_135 : decode cX7_count 135 = .ok (.iload_n 1, 1) := by decide +kernel
theorem dX7_count_136 : decode cX7_count 136 = .ok (.iadd, 1) := by decide +kernel
theorem dX7_count_137 : decode cX7_count 137 = .ok (.bipush 10, 2) := by decide +kernel
theorem dX7_count_139 : decode cX7_count 139 = .ok (.isub, 1) := by decide +kernel
theorem dX7_count_140 : decode cX7_count 140 = .ok (.iaload, 1) := by decide +kernel
theorem dX7_count_141 : decode cX7_count 141 = .ok (.ireturn, 1) := by decide +kernel
theorem dX7_count_142 : decode cX7_count 142 = .ok (.aload_n 0, 1) := by decide +kernel
theorem dX7_count_143 : decode cX7_count 143 = .ok (.invokevirtual 201, 3) := by decide +kernel
theorem dX7_count_146 : decode cX7_count 146 = .ok (.ireturn, 1) := by decide +kernel
theorem dX7_count_147 : decode cX7_count 147 = .ok (.aload_n 0, 1) := by decide +kernel
theorem dX7_count_148 : decode cX7_count 148 = .ok (.getfield 40, 3) := by decide +kernel
theorem dX7_count_151 : decode cX7_count 151 = .ok (.ireturn, 1) := by decide +kernel
theorem dX7_count_152 : decode cX7_count 152 = .ok (.aload_n 0, 1) := by decide +kernel
theorem dX7_count_153 : decode cX7_count 153 = .ok (.getfield 125, 3) := by decide +kernel
theorem dX7_count_156 : decode cX7_count 156 = .ok (.ireturn, 1) := by decide +kernel
theorem dX7_count_157 : decode cX7_count 157 = .ok (.bipush (-2), 2) := by decide +kernel
theorem dX7_count_159 : decode cX7_count 159 = .ok (.ireturn, 1) := by decide +kernel
theorem dJ6_numberOfTrailingZeros_0f7a4_0 : decode cJ6_numberOfTrailingZeros_0f7a4 0 = .ok (.iload_n 0, 1) := by decide +kernel
theorem dJ6_numberOfTrailingZeros_0f7a4_1 : decode cJ6_numberOfTrailingZeros_0f7a4 1 = .ok (.iconst (-1), 1) := by decide +kernel
theorem dJ6_numberOfTrailingZeros_0f7a4_2 : decode cJ6_numberOfTrailingZeros_0f7a4 2 = .ok (.ixor, 1) := by decide +kernel
theorem dJ6_numberOfTrailingZeros_0f7a4_3 : decode cJ6_numberOfTrailingZeros_0f7a4 3 = .ok (.iload_n 0, 1) := by decide +kernel
theorem dJ6_numberOfTrailingZeros_0f7a4_4 : decode cJ6_numberOfTrailingZeros_0f7a4 4 = .ok (.iconst 1, 1) := by decide +kernel
theorem dJ6_numberOfTrailingZeros_0f7a4_5 : decode cJ6_numberOfTrailingZeros_0f7a4 5 = .ok (.isub, 1) := by decide +kernel
theorem dJ6_numberOfTrailingZeros_0f7a4_6 : decode cJ6_numberOfTrailingZeros_0f7a4 6 = .ok (.iand, 1) := by decide +kernel
theorem dJ6_numberOfTrailingZeros_0f7a4_7 : decode cJ6_numberOfTrailingZeros_0f7a4 7 = .ok (.istore_n 0, 1) := by decide +kernel
theorem dJ6_numberOfTrailingZeros_0f7a4_8 : decode cJ6_numberOfTrailingZeros_0f7a4 8 = .ok (.iload_n 0, 1) := by decide +kernel
theorem dJ6_numberOfTrailingZeros_0f7a4_9 : decode cJ6_numberOfTrailingZeros_0f7a4 9 = .ok (.ifCond .gt 8, 3) := by decide +kernel
theorem dJ6_numberOfTrailingZeros_0f7a4_12 : decode cJ6_numberOfTrailingZeros_0f7a4 12 = .ok (.iload_n 0, 1) := by decide +kernel
theorem dJ6_numberOfTrailingZeros_0f7a4_13 : decode cJ6_numberOfTrailingZeros_0f7a4 13 = .ok (.bipush 32, 2) := by decide +kernel
theorem dJ6_numberOfTrailingZeros_0f7a4_15 : decode cJ6_numberOfTrailingZeros_0f7a4 15 = .ok (.iand, 1) := by decide +kernel
theorem dJ6_numberOfTrailingZeros_0f7a4_16 : decode cJ6_numberOfTrailingZeros_0f7a4 16 = .ok (.ireturn, 1) := by decide +kernel
theorem dJ6_numberOfTrailingZeros_0f7a4_17 : decode cJ6_numberOfTrailingZeros_0f7a4 17 = .ok (.iconst 1, 1) := by decide +kernel
theorem dJ6_numberOfTrailingZeros_0f7a4_18 : decode cJ6_numberOfTrailingZeros_0f7a4 18 = .ok (.istore_n 1, 1) := by decide +kernel
theorem dJ6_numberOfTrailingZeros_0f7a4_19 : decode cJ6_numberOfTrailingZeros_0f7a4 19 = .ok (.iload_n 0, 1) := by decide +kernel
theorem dJ6_numberOfTrailingZeros_0f7a4_20 : decode cJ6_numberOfTrailingZeros_0f7a4 20 = .ok (.ldc_w 264, 3) := by decide +kernel
theorem dJ6_numberOfTrailingZeros_0f7a4_23 : decode cJ6_numberOfTrailingZeros_0f7a4 23 = .ok (.if_icmp .le 11, 3) := by decide +kernel
theorem dJ6_numberOfTrailingZeros_0f7a4_26 : decode cJ6_numberOfTrailingZeros_0f7a4 26 = .ok (.iinc 1 16, 3) := by decide +kernel
theorem dJ6_numberOfTrailingZeros_0f7a4_29 : decode cJ6_numberOfTrailingZeros_0f7a4 29 = .ok (.iload_n 0, 1) := by decide +kernel
theorem dJ6_numberOfTrailingZeros_0f7a4_30 : decode cJ6_numberOfTrailingZeros_0f7a4 30 = .ok (.bipush 16, 2) := by decide +kernel
theorem dJ6_numberOfTrailingZeros_0f7a4_32 : decode cJ6_numberOfTrailingZeros_0f7a4 32 = .ok (.iushr, 1) := by decide +kernel
theorem dJ6_numberOfTrailingZeros_0f7a4_33 : decode cJ6_numberOfTrailingZeros_0f7a4 33 = .ok (.istore_n 0, 1) := by decide +kernel
theorem dJ6_numberOfTrailingZeros_0f7a4_34 : decode cJ6_numberOfTrailingZeros_0f7a4 34 = .ok (.iload_n 0, 1) := by decide +kernel
theorem dJ6_numberOfTrailingZeros_0f7a4_35 : decode cJ6_numberOfTrailingZeros_0f7a4 35 = .ok (.sipush 256, 3) := by decide +kernel
theorem dJ6_numberOfTrailingZeros_0f7a4_38 : decode cJ6_numberOfTrailingZeros_0f7a4 38 = .ok (.if_icmp .le 11, 3) := by decide +kernel
theorem dJ6_numberOfTrailingZeros_0f7a4_41 : decode cJ6_numberOfTrailingZeros_0f7a4 41 = .ok (.iinc 1 8, 3) := by decide +kernel
theorem dJ6_numberOfTrailingZeros_0f7a4_44 : decode cJ6_numberOfTrailingZeros_0f7a4 44 = .ok (.iload_n 0, 1) := by decide +kernel
theorem dJ6_numberOfTrailingZeros_0f7a4_45 : decode cJ6_numberOfTrailingZeros_0f7a4 45 = .ok (.bipush 8, 2) := by decide +kernel
theorem dJ6_numberOfTrailingZeros_0f7a4_47 : decode cJ6_numberOfTrailingZeros_0f7a4 47 = .ok (.iushr, 1) := by decide +kernel
theorem dJ6_numberOfTrailingZeros_0f7a4_48 : decode cJ6_numberOfTrailingZeros_0f7a4 48 = .ok (.istore_n 0, 1) := by decide +kernel
theorem dJ6_numberOfTrailingZeros_0f7a4_49 : decode cJ6_numberOfTrailingZeros_0f7a4 49 = .ok (.iload_n 0, 1) := by decide +kernel
theorem dJ6_numberOfTrailingZeros_0f7a4_50 : decode cJ6_numberOfTrailingZeros_0f7a4 50 = .ok (.bipush 16, 2) := by decide +kernel
theorem dJ6_numberOfTrailingZeros_0f7a4_52 : decode cJ6_numberOfTrailingZeros_0f7a4 52 = .ok (.if_icmp .le 10, 3) := by decide +kernel
theorem dJ6_numberOfTrailingZeros_0f7a4_55 : decode cJ6_numberOfTrailingZeros_0f7a4 55 = .ok (.iinc 1 4, 3) := by decide +kernel
theorem dJ6_numberOfTrailingZeros_0f7a4_58 : decode cJ6_numberOfTrailingZeros_0f7a4 58 = .ok (.iload_n 0, 1) := by decide +kernel
theorem dJ6_numberOfTrailingZeros_0f7a4_59 : decode cJ6_numberOfTrailingZeros_0f7a4 59 = .ok (.iconst 4, 1) := by decide +kernel
theorem dJ6_numberOfTrailingZeros_0f7a4_60 : decode cJ6_numberOfTrailingZeros_0f7a4 60 = .ok (.iushr, 1) := by decide +kernel
theorem dJ6_numberOfTrailingZeros_0f7a4_61 : decode cJ6_numberOfTrailingZeros_0f7a4 61 = .ok (.istore_n 0, 1) := by decide +kernel
theorem dJ6_numberOfTrailingZeros_0f7a4_62 : decode cJ6_numberOfTrailingZeros_0f7a4 62 = .ok (.iload_n 0, 1) := by decide +kernel
theorem dJ6_numberOfTrailingZeros_0f7a4_63 : decode cJ6_numberOfTrailingZeros_0f7a4 63 = .ok (.iconst 4, 1) := by decide +kernel
theorem dJ6_numberOfTrailingZeros_0f7a4_64 : decode cJ6_numberOfTrailingZeros_0f7a4 64 = .ok (.if_icmp .le 10, 3) := by decide +kernel
theorem dJ6_numberOfTrailingZeros_0f7a4_67 : decode cJ6_numberOfTrailingZeros_0f7a4 67 = .ok (.iinc 1 2, 3) := by decide +kernel
theorem dJ6_numberOfTrailingZeros_0f7a4_70 : decode cJ6_numberOfTrailingZeros_0f7a4 70 = .ok (.iload_n 0, 1) := by decide +kernel
theorem dJ6_numberOfTrailingZeros_0f7a4_71 : decode cJ6_numberOfTrailingZeros_0f7a4 71 = .ok (.iconst 2, 1) := by decide +kernel
theorem dJ6_numberOfTrailingZeros_0f7a4_72 : decode cJ6_numberOfTrailingZeros_0f7a4 72 = .ok (.iushr, 1) := by decide +kernel
theorem dJ6_numberOfTrailingZeros_0f7a4_73 : decode cJ6_numberOfTrailingZeros_0f7a4 73 = .ok (.istore_n 0, 1) := by decide +kernel
theorem dJ6_numberOfTrailingZeros_0f7a4_74 : decode cJ6_numberOfTrailingZeros_0f7a4 74 = .ok (.iload_n 1, 1) := by decide +kernel
theorem dJ6_numberOfTrailingZeros_0f7a4_75 : decode cJ6_numberOfTrailingZeros_0f7a4 75 = .ok (.iload_n 0, 1) := by decide +kernel
theorem dJ6_numberOfTrailingZeros_0f7a4_76 : decode cJ6_numberOfTrailingZeros_0f7a4 76 = .ok (.iconst 1, 1) := by decide +kernel
theorem dJ6_numberOfTrailingZeros_0f7a4_77 : decode cJ6_numberOfTrailingZeros_0f7a4 77 = .ok (.iushr, 1) := by decide +kernel
theorem dJ6_numberOfTrailingZeros_0f7a4_78 : decode cJ6_numberOfTrailingZeros_0f7a4 78 = .ok (.iadd, 1) := by decide +kernel
theorem dJ6_numberOfTrailingZeros_0f7a4_79 : decode cJ6_numberOfTrailingZeros_0f7a4 79 = .ok (.ireturn, 1) := by decide +kernel
theorem dJ6_bitCount_0f7a4_0 : decode cJ6_bitCount_0f7a4 0 = .ok (.iload_n 0, 1) := by decide +kernel
theorem dJ6_bitCount_0f7a4_1 : decode cJ6_bitCount_0f7a4 1 = .ok (.iload_n 0, 1) := by decide +kernel
theorem dJ6_bitCount_0f7a4_2 : decode cJ6_bitCount_0f7a4 2 = .ok (.iconst 1, 1) := by decide +kernel
theorem dJ6_bitCount_0f7a4_3 : decode cJ6_bitCount_0f7a4 3 = .ok (.iushr, 1) := by decide +kernel
theorem dJ6_bitCount_0f7a4_4 : decode cJ6_bitCount_0f7a4 4 = .ok (.ldc_w 265, 3) := by decide +kernel
theorem dJ6_bitCount_0f7a4_7 : decode cJ6_bitCount_0f7a4 7 = .ok (.iand, 1) := by decide +kernel
theorem dJ6_bitCount_0f7a4_8 : decode cJ6_bitCount_0f7a4 8 = .ok (.isub, 1) := by decide +kernel
theorem dJ6_bitCount_0f7a4_9 : decode cJ6_bitCount_0f7a4 9 = .ok (.istore_n 0, 1) := by decide +kernel
theorem dJ6_bitCount_0f7a4_10 : decode cJ6_bitCount_0f7a4 10 = .ok (.iload_n 0, 1) := by decide +kernel
theorem dJ6_bitCount_0f7a4_11 : decode cJ6_bitCount_0f7a4 11 = .ok (.ldc_w 266, 3) := by decide +kernel
theorem dJ6_bitCount_0f7a4_14 : decode cJ6_bitCount_0f7a4 14 = .ok (.iand, 1) := by decide +kernel
theorem dJ6_bitCount_0f7a4_15 : decode cJ6_bitCount_0f7a4 15 = .ok (.iload_n 0, 1) := by decide +kernel
theorem dJ6_bitCount_0f7a4_16 : decode cJ6_bitCount_0f7a4 16 = .ok (.iconst 2, 1) := by decide +kernel
theorem dJ6_bitCount_0f7a4_17 : decode cJ6_bitCount_0f7a4 17 = .ok (.iushr, 1) := by decide +kernel
theorem dJ6_bitCount_0f7a4_18 : decode cJ6_bitCount_0f7a4 18 = .ok (.ldc_w 266, 3) := by decide +kernel
theorem dJ6_bitCount_0f7a4_21 : decode cJ6_bitCount_0f7a4 21 = .ok (.iand, 1) := by decide +kernel
theorem dJ6_bitCount_0f7a4_22 : decode cJ6_bitCount_0f7a4 22 = .ok (.iadd, 1) := by decide +kernel
theorem dJ6_bitCount_0f7a4_23 : decode cJ6_bitCount_0f7a4 23 = .ok (.istore_n 0, 1) := by decide +kernel
theorem dJ6_bitCount_0f7a4_24 : decode cJ6_bitCount_0f7a4 24 = .ok (.iload_n 0, 1) := by decide +kernel
theorem dJ6_bitCount_0f7a4_25 : decode cJ6_bitCount_0f7a4 25 = .ok (.iload_n 0, 1) := by decide +kernel
theorem dJ6_bitCount_0f7a4_26 : decode cJ6_bitCount_0f7a4 26 = .ok (.iconst 4, 1) := by decide +kernel
theorem dJ6_bitCount_0f7a4_27 : decode cJ6_bitCount_0f7a4 27 = .ok (.iushr, 1) := by decide +kernel
theorem dJ6_bitCount_0f7a4_28 : decode cJ6_bitCount_0f7a4 28 = .ok (.iadd, 1) := by decide +kernel
theorem dJ6_bitCount_0f7a4_29 : decode cJ6_bitCount_0f7a4 29 = .ok (.ldc_w 267, 3) := by decide +kernel
theorem dJ6_bitCount_0f7a4_32 : decode cJ6_bitCount_0f7a4 32 = .ok (.iand, 1) := by decide +kernel
theorem dJ6_bitCount_0f7a4_33 : decode cJ6_bitCount_0f7a4 33 = .ok (.istore_n 0, 1) := by decide +kernel
theorem dJ6_bitCount_0f7a4_34 : decode cJ6_bitCount_0f7a4 34 = .ok (.iload_n 0, 1) := by decide +kernel
theorem dJ6_bitCount_0f7a4_35 : decode cJ6_bitCount_0f7a4 35 = .ok (.iload_n 0, 1) := by decide +kernel
theorem dJ6_bitCount_0f7a4_36 : decode cJ6_bitCount_0f7a4 36 = .ok (.bipush 8, 2) := by decide +kernel
theorem dJ6_bitCount_0f7a4_38 : decode cJ6_bitCount_0f7a4 38 = .ok (.iushr, 1) := by decide +kernel
theorem dJ6_bitCount_0f7a4_39 : decode cJ6_bitCount_0f7a4 39 = .ok (.iadd, 1) := by decide +kernel
theorem dJ6_bitCount_0f7a4_40 : decode cJ6_bitCount_0f7a4 40 = .ok (.istore_n 0, 1) := by decide +kernel
theorem dJ6_bitCount_0f7a4_41 : decode cJ6_bitCount_0f7a4 41 = .ok (.iload_n 0, 1) := by decide +kernel
theorem dJ6_bitCount_0f7a4_42 : decode cJ6_bitCount_0f7a4 42 = .ok (.iload_n 0, 1) := by decide +kernel
theorem dJ6_bitCount_0f7a4_43 : decode cJ6_bitCount_0f7a4 43 = .ok (.bipush 16, 2) := by decide +kernel
theorem dJ6_bitCount_0f7a4_45 : decode cJ6_bitCount_0f7a4 45 = .ok (.iushr, 1) := by decide +kernel
theorem dJ6_bitCount_0f7a4_46 : decode cJ6_bitCount_0f7a4 46 = .ok (.iadd, 1) := by decide +kernel
theorem dJ6_bitCount_0f7a4_47 : decode cJ6_bitCount_0f7a4 47 = .ok (.istore_n 0, 1) := by decide +kernel
theorem dJ6_bitCount_0f7a4_48 : decode cJ6_bitCount_0f7a4 48 = .ok (.iload_n 0, 1) := by decide +kernel
theorem dJ6_bitCount_0f7a4_49 : decode cJ6_bitCount_0f7a4 49 = .ok (.bipush 63, 2) := by decide +kernel
theorem dJ6_bitCount_0f7a4_51 : decode cJ6_bitCount_0f7a4 51 = .ok (.iand, 1) := by decide +kernel
theorem dJ6_bitCount_0f7a4_52 : decode cJ6_bitCount_0f7a4 52 = .ok (.ireturn, 1) := by decide +kernel
theorem dJ9_max_7cf53_0 : decode cJ9_max_7cf53 0 = .ok (.iload_n 0, 1) := by decide +kernel
theorem dJ9_max_7cf53_1 : decode cJ9_max_7cf53 1 = .ok (.iload_n 1, 1) := by decide +kernel
theorem dJ9_max_7cf53_2 : decode cJ9_max_7cf53 2 = .ok (.if_icmp .lt 7, 3) := by decide +kernel
theorem dJ9_max_7cf53_5 : decode cJ9_max_7cf53 5 = .ok (.iload_n 0, 1) := by decide +kernel
theorem dJ9_max_7cf53_6 : decode cJ9_max_7cf53 6 = .ok (.goto 4, 3) := by decide +kernel
theorem dJ9_max_7cf53_9 : decode cJ9_max_7cf53 9 = .ok (.iload_n 1, 1) := by decide +kernel
theorem dJ9_max_7cf53_10 : decode cJ9_max_7cf53 10 = .ok (.ireturn, 1) := by decide +kernel
theorem dJ9_min_7cf53_0 : decode cJ9_min_7cf53 0 = .ok (.iload_n 0, 1) := by decide +kernel
theorem dJ9_min_7cf53_1 : decode cJ9_min_7cf53 1 = .ok (.iload_n 1, 1) := by decide +kernel
theorem dJ9_min_7cf53_2 : decode cJ9_min_7cf53 2 = .ok (.if_icmp .gt 7, 3) := by decide +kernel
theorem dJ9_min_7cf53_5 : decode cJ9_min_7cf53 5 = .ok (.iload_n 0, 1) := by decide +kernel
theorem dJ9_min_7cf53_6 : decode cJ9_min_7cf53 6 = .ok (.goto 4, 3) := by decide +kernel
theorem dJ9_min_7cf53_9 : decode cJ9_min_7cf53 9 = .ok (.iload_n 1, 1) := by decide +kernel
theorem dJ9_min_7cf53_10 : decode cJ9_min_7cf53 10 = .ok (.ireturn, 1) := by decide +kernel
theorem dJ0_length_8abf5_0 : decode cJ0_length_8abf5 0 = .ok (.aload_n 0, 1) := by decide +kernel
theorem dJ0_length_8abf5_1 : decode cJ0_length_8abf5 1 = .ok (.getfield 9, 3) := by decide +kernel
theorem dJ0_length_8abf5_4 : decode cJ0_length_8abf5 4 = .ok (.arraylength, 1) := by decide +kernel
theorem dJ0_length_8abf5_5 : decode cJ0_length_8abf5 5 = .ok (.aload_n 0, 1) := by decide +kernel
theorem dJ0_length_8abf5_6 : decode cJ0_length_8abf5 6 = .ok (.invokevirtual 335, 3) := by decide +kernel
theorem dJ0_length_8abf5_9 : decode cJ0_length_8abf5 9 = .ok (.ishr, 1) := by decide +kernel
theorem dJ0_length_8abf5_10 : decode cJ0_length_8abf5 10 = .ok (.ireturn, 1) := by decide +kernel
theorem dJ0_charAt_5068e_0 : decode cJ0_charAt_5068e 0 = .ok (.aload_n 0, 1) := by decide +kernel
theorem dJ0_charAt_5068e_1 : decode cJ0_charAt_5068e 1 = .ok (.invokevirtual 492, 3) := by decide +kernel
theorem dJ0_charAt_5068e_4 : decode cJ0_charAt_5068e 4 = .ok (.ifCond .eq 12, 3) := by decide +kernel
theorem dJ0_charAt_5068e_7 : decode cJ0_charAt_5068e 7 = .ok (.aload_n 0, 1) := by decide +kernel
theorem dJ0_charAt_5068e_8 : decode cJ0_charAt_5068e 8 = .ok (.getfield 9, 3) := by decide +kernel
theorem dJ0_charAt_5068e_11 : decode cJ0_charAt_5068e 11 = .ok (.iload_n 1, 1) := by decide +kernel
theorem dJ0_charAt_5068e_12 : decode cJ0_charAt_5068e 12 = .ok (.invokestatic 495, 3) := by decide +kernel
theorem dJ0_charAt_5068e_15 : decode cJ0_charAt_5068e 15 = .ok (.ireturn, 1) := by decide +kernel
theorem dJ0_charAt_5068e_16 : decode cJ0_charAt_5068e 16 = .ok (.aload_n 0, 1) := by decide +kernel
theorem dJ0_charAt_5068e_17 : decode cJ0_charAt_5068e 17 = .ok (.getfield 9, 3) := by decide +kernel
theorem dJ0_charAt_5068e_20 : decode cJ0_charAt_5068e 20 = .ok (.iload_n 1, 1) := by decide +kernel
theorem dJ0_charAt_5068e_21 : decode cJ0_charAt_5068e 21 = .ok (.invokestatic 498, 3) := by decide +kernel
theorem dJ0_charAt_5068e_24 : decode cJ0_charAt_5068e 24 = .ok (.ireturn, 1) := by decide +kernel
theorem dJ0_coder_7d493_0 : decode cJ0_coder_7d493 0 = .ok (.getstatic 38, 3) := by decide +kernel
theorem dJ0_coder_7d493_3 : decode cJ0_coder_7d493 3 = .ok (.ifCond .eq 10, 3) := by decide +kernel
theorem dJ0_coder_7d493_6 : decode cJ0_coder_7d493 6 = .ok (.aload_n 0, 1) := by decide +kernel
theorem dJ0_coder_7d493_7 : decode cJ0_coder_7d493 7 = .ok (.getfield 15, 3) := by decide +kernel
theorem dJ0_coder_7d493_10 : decode cJ0_coder_7d493 10 = .ok (.goto 4, 3) := by decide +kernel
theorem dJ0_coder_7d493_13 : decode cJ0_coder_7d493 13 = .ok (.iconst 1, 1) := by decide +kernel
theorem dJ0_coder_7d493_14 : decode cJ0_coder_7d493 14 = .ok (.ireturn, 1) := by decide +kernel
theorem dJ0_isLatin1_aae02_0 : decode cJ0_isLatin1_aae02 0 = .ok (.getstatic 38, 3) := by decide +kernel
theorem dJ0_isLatin1_aae02_3 : decode cJ0_isLatin1_aae02 3 = .ok (.ifCond .eq 14, 3) := by decide +kernel
theorem dJ0_isLatin1_aae02_6 : decode cJ0_isLatin1_aae02 6 = .ok (.aload_n 0, 1) := by decide +kernel
theorem dJ0_isLatin1_aae02_7 : decode cJ0_isLatin1_aae02 7 = .ok (.getfield 15, 3) := by decide +kernel
theorem dJ0_isLatin1_aae02_10 : decode cJ0_isLatin1_aae02 10 = .ok (.ifCond .ne 7, 3) := by decide +kernel
theorem dJ0_isLatin1_aae02_13 : decode cJ0_isLatin1_aae02 13 = .ok (.iconst 1, 1) := by decide +kernel
theorem dJ0_isLatin1_aae02_14 : decode cJ0_isLatin1_aae02 14 = .ok (.goto 4, 3) := by decide +kernel
theorem dJ0_isLatin1_aae02_17 : decode cJ0_isLatin1_aae02 17 = .ok (.iconst 0, 1) := by decide +kernel
theorem dJ0_isLatin1_aae02_18 : decode cJ0_isLatin1_aae02 18 = .ok (.ireturn, 1) := by decide +kernel
theorem dJ0_checkIndex_df160_0 : decode cJ0_checkIndex_df160 0 = .ok (.iload_n 0, 1) := by decide +kernel
theorem dJ0_checkIndex_df160_1 : decode cJ0_checkIndex_df160 1 = .ok (.iload_n 1, 1) := by decide +kernel
theorem dJ0_checkIndex_df160_2 : decode cJ0_checkIndex_df160 2 = .ok (.getstatic 1053, 3) := by decide +kernel
theorem dJ0_checkIndex_df160_5 : decode cJ0_checkIndex_df160 5 = .ok (.invokestatic 1059, 3) := by decide +kernel
theorem dJ0_checkIndex_df160_8 : decode cJ0_checkIndex_df160 8 = .ok (.pop, 1) := by decide +kernel
theorem dJ0_checkIndex_df160_9 : decode cJ0_checkIndex_df160 9 = .ok (.return_, 1) := by decide +kernel
theorem dJ1_charAt_3b067_0 : decode cJ1_charAt_3b067 0 = .ok (.iload_n 1, 1) := by decide +kernel
theorem dJ1_charAt_3b067_1 : decode cJ1_charAt_3b067 1 = .ok (.aload_n 0, 1) := by decide +kernel
theorem dJ1_charAt_3b067_2 : decode cJ1_charAt_3b067 2 = .ok (.arraylength, 1) := by decide +kernel
theorem dJ1_charAt_3b067_3 : decode cJ1_charAt_3b067 3 = .ok (.invokestatic 9, 3) := by decide +kernel
theorem dJ1_charAt_3b067_6 : decode cJ1_charAt_3b067 6 = .ok (.aload_n 0, 1) := by decide +kernel
theorem dJ1_charAt_3b067_7 : decode cJ1_charAt_3b067 7 = .ok (.iload_n 1, 1) := by decide +kernel
theorem dJ1_charAt_3b067_8 : decode cJ1_charAt_3b067 8 = .ok (.baload, 1) := by decide +kernel
theorem dJ1_charAt_3b067_9 : decode cJ1_charAt_3b067 9 = .ok (.sipush 255, 3) := by decide +kernel
theorem dJ1_charAt_3b067_12 : decode cJ1_charAt_3b067 12 = .ok (.iand, 1) := by decide +kernel
theorem dJ1_charAt_3b067_13 : decode cJ1_charAt_3b067 13 = .ok (.i2c, 1) := by decide +kernel
theorem dJ1_charAt_3b067_14 : decode cJ1_charAt_3b067 14 = .ok (.ireturn, 1) := by decide +kernel
theorem dJ2_getChar_3b067_0 : decode cJ2_getChar_3b067 0 = .ok (.getstatic 44, 3) := by decide +kernel
theorem dJ2_getChar_3b067_3 : decode cJ2_getChar_3b067 3 = .ok (.ifCond .ne 25, 3) := by decide +kernel
theorem dJ2_getChar_3b067_6 : decode cJ2_getChar_3b067 6 = .ok (.iload_n 1, 1) := by decide +kernel
theorem dJ2_getChar_3b067_7 : decode cJ2_getChar_3b067 7 = .ok (.ifCond .lt 11, 3) := by decide +kernel
theorem dJ2_getChar_3b067_10 : decode cJ2_getChar_3b067 10 = .ok (.iload_n 1, 1) := by decide +kernel
theorem dJ2_getChar_3b067_11 : decode cJ2_getChar_3b067 11 = .ok (.aload_n 0, 1) := by decide +kernel
theorem dJ2_getChar_3b067_12 : decode cJ2_getChar_3b067 12 = .ok (.invokestatic 48, 3) := by decide +kernel
theorem dJ2_getChar_3b067_15 : decode cJ2_getChar_3b067 15 = .ok (.if_icmp .lt 13, 3) := by decide +kernel
theorem dJ2_getChar_3b067_18 : decode cJ2_getChar_3b067 18 = .ok (.new 52, 3) := by decide +kernel
theorem dJ2_getChar_3b067_21 : decode cJ2_getChar_3b067 21 = .ok (.dup, 1) := by decide +kernel
theorem dJ2_getChar_3b067_22 : decode cJ2_getChar_3b067 22 = .ok (.ldc 54, 2) := by decide +kernel
theorem dJ2_getChar_3b067_24 : decode cJ2_getChar_3b067 24 = .ok (.invokespecial 56, 3) := by decide +kernel
theorem dJ2_getChar_3b067_27 : decode cJ2_getChar_3b067 27 = .ok (.athrow, 1) := by decide +kernel
theorem dJ2_getChar_3b067_28 : decode cJ2_getChar_3b067 28 = .ok (.iload_n 1, 1) := by decide +kernel
theorem dJ2_getChar_3b067_29 : decode cJ2_getChar_3b067 29 = .ok (.iconst 1, 1) := by decide +kernel
theorem dJ2_getChar_3b067_30 : decode cJ2_getChar_3b067 30 = .ok (.ishl, 1) := by decide +kernel
theorem dJ2_getChar_3b067_31 : decode cJ2_getChar_3b067 31 = .ok (.istore_n 1, 1) := by decide +kernel
theorem dJ2_getChar_3b067_32 : decode cJ2_getChar_3b067 32 = .ok (.aload_n 0, 1) := by decide +kernel
theorem dJ2_getChar_3b067_33 : decode cJ2_getChar_3b067 33 = .ok (.iload_n 1, 1) := by decide +kernel
theorem dJ2_getChar_3b067_34 : decode cJ2_getChar_3b067 34 = .ok (.iinc 1 1, 3) := by decide +kernel
theorem dJ2_getChar_3b067_37 : decode cJ2_getChar_3b067 37 = .ok (.baload, 1) := by decide +kernel
theorem dJ2_getChar_3b067_38 : decode cJ2_getChar_3b067 38 = .ok (.sipush 255, 3) := by decide +kernel
theorem dJ2_getChar_3b067_41 : decode cJ2_getChar_3b067 41 = .ok (.iand, 1) := by decide +kernel
theorem dJ2_getChar_3b067_42 : decode cJ2_getChar_3b067 42 = .ok (.getstatic 59, 3) := by decide +kernel
theorem dJ2_getChar_3b067_45 : decode cJ2_getChar_3b067 45 = .ok (.ishl, 1) := by decide +kernel
theorem dJ2_getChar_3b067_46 : decode cJ2_getChar_3b067 46 = .ok (.aload_n 0, 1) := by decide +kernel
theorem dJ2_getChar_3b067_47 : decode cJ2_getChar_3b067 47 = .ok (.iload_n 1, 1) := by decide +kernel
theorem dJ2_getChar_3b067_48 : decode cJ2_getChar_3b067 48 = .ok (.baload, 1) := by decide +kernel
theorem dJ2_getChar_3b067_49 : decode cJ2_getChar_3b067 49 = .ok (.sipush 255, 3) := by decide +kernel
theorem dJ2_getChar_3b067_52 : decode cJ2_getChar_3b067 52 = .ok (.iand, 1) := by decide +kernel
theorem dJ2_getChar_3b067_53 : decode cJ2_getChar_3b067 53 = .ok (.getstatic 63, 3) := by decide +kernel
theorem dJ2_getChar_3b067_56 : decode cJ2_getChar_3b067 56 = .ok (.ishl, 1) := by decide +kernel
theorem dJ2_getChar_3b067_57 : decode cJ2_getChar_3b067 57 = .ok (.ior, 1) := by decide +kernel
theorem dJ2_getChar_3b067_58 : decode cJ2_getChar_3b067 58 = .ok (.i2c, 1) := by decide +kernel
theorem dJ2_getChar_3b067_59 : decode cJ2_getChar_3b067 59 = .ok (.ireturn, 1) := by decide +kernel
theorem dJ2_length_9d52b_0 : decode cJ2_length_9d52b 0 = .ok (.aload_n 0, 1) := by decide +kernel
theorem dJ2_length_9d52b_1 : decode cJ2_length_9d52b 1 = .ok (.arraylength, 1) := by decide +kernel
theorem dJ2_length_9d52b_2 : decode cJ2_length_9d52b 2 = .ok (.iconst 1, 1) := by decide +kernel
theorem dJ2_length_9d52b_3 : decode cJ2_length_9d52b 3 = .ok (.ishr, 1) := by decide +kernel
theorem dJ2_length_9d52b_4 : decode cJ2_length_9d52b 4 = .ok (.ireturn, 1) := by decide +kernel
theorem dJ2_charAt_3b067_0 : decode cJ2_charAt_3b067 0 = .ok (.iload_n 1, 1) := by decide +kernel
theorem dJ2_charAt_3b067_1 : decode cJ2_charAt_3b067 1 = .ok (.aload_n 0, 1) := by decide +kernel
theorem dJ2_charAt_3b067_2 : decode cJ2_charAt_3b067 2 = .ok (.invokestatic 67, 3) := by decide +kernel
theorem dJ2_charAt_3b067_5 : decode cJ2_charAt_3b067 5 = .ok (.aload_n 0, 1) := by decide +kernel
theorem dJ2_charAt_3b067_6 : decode cJ2_charAt_3b067 6 = .ok (.iload_n 1, 1) := by decide +kernel
theorem dJ2_charAt_3b067_7 : decode cJ2_charAt_3b067 7 = .ok (.invokestatic 71, 3) := by decide +kernel
theorem dJ2_charAt_3b067_10 : decode cJ2_charAt_3b067 10 = .ok (.ireturn, 1) := by decide +kernel
theorem dJ2_checkIndex_2214a_0 : decode cJ2_checkIndex_2214a 0 = .ok (.iload_n 0, 1) := by decide +kernel
theorem dJ2_checkIndex_2214a_1 : decode cJ2_checkIndex_2214a 1 = .ok (.aload_n 1, 1) := by decide +kernel
theorem dJ2_checkIndex_2214a_2 : decode cJ2_checkIndex_2214a 2 = .ok (.invokestatic 48, 3) := by decide +kernel
theorem dJ2_checkIndex_2214a_5 : decode cJ2_checkIndex_2214a 5 = .ok (.invokestatic 414, 3) := by decide +kernel
theorem dJ2_checkIndex_2214a_8 : decode cJ2_checkIndex_2214a 8 = .ok (.return_, 1) := by decide +kernel
theorem dJ3_checkIndex_8e157_0 : decode cJ3_checkIndex_8e157 0 = .ok (.iload_n 0, 1) := by decide +kernel
theorem dJ3_checkIndex_8e157_1 : decode cJ3_checkIndex_8e157 1 = .ok (.ifCond .lt 8, 3) := by decide +kernel
theorem dJ3_checkIndex_8e157_4 : decode cJ3_checkIndex_8e157 4 = .ok (.iload_n 0, 1) := by decide +kernel
theorem dJ3_checkIndex_8e157_5 : decode cJ3_checkIndex_8e157 5 = .ok (.iload_n 1, 1) := by decide +kernel
theorem dJ3_checkIndex_8e157_6 : decode cJ3_checkIndex_8e157 6 = .ok (.if_icmp .lt 10, 3) := by decide +kernel
theorem dJ3_checkIndex_8e157_9 : decode cJ3_checkIndex_8e157 9 = .ok (.aload_n 2, 1) := by decide +kernel
theorem dJ3_checkIndex_8e157_10 : decode cJ3_checkIndex_8e157 10 = .ok (.iload_n 0, 1) := by decide +kernel
theorem dJ3_checkIndex_8e157_11 : decode cJ3_checkIndex_8e157 11 = .ok (.iload_n 1, 1) := by decide +kernel
theorem dJ3_checkIndex_8e157_12 : decode cJ3_checkIndex_8e157 12 = .ok (.invokestatic 95, 3) := by decide +kernel
theorem dJ3_checkIndex_8e157_15 : decode cJ3_checkIndex_8e157 15 = .ok (.athrow, 1) := by decide +kernel
theorem dJ3_checkIndex_8e157_16 : decode cJ3_checkIndex_8e157 16 = .ok (.iload_n 0, 1) := by decide +kernel
theorem dJ3_checkIndex_8e157_17 : decode cJ3_checkIndex_8e157 17 = .ok (.ireturn, 1) := by decide +kernel
theorem dL_law_0 : decode cL_law 0 = .ok (.new 7, 3) := by decide +kernel
theorem dL_law_3 : decode cL_law 3 = .ok (.dup, 1) := by decide +kernel
theorem dL_law_4 : decode cL_law 4 = .ok (.invokespecial 9, 3) := by decide +kernel
theorem dL_law_7 : decode cL_law 7 = .ok (.astore_n 1, 1) := by decide +kernel
theorem dL_law_8 : decode cL_law 8 = .ok (.new 10, 3) := by decide +kernel
theorem dL_law_11 : decode cL_law 11 = .ok (.dup, 1) := by decide +kernel
theorem dL_law_12 : decode cL_law 12 = .ok (.invokespecial 12, 3) := by decide +kernel
theorem dL_law_15 : decode cL_law 15 = .ok (.astore_n 2, 1) := by decide +kernel
theorem dL_law_16 : decode cL_law 16 = .ok (.iconst 0, 1) := by decide +kernel
theorem dL_law_17 : decode cL_law 17 = .ok (.istore_n 3, 1) := by decide +kernel
theorem dL_law_18 : decode cL_law 18 = .ok (.iload_n 3, 1) := by decide +kernel
theorem dL_law_19 : decode cL_law 19 = .ok (.aload_n 0, 1) := by decide +kernel
theorem dL_law_20 : decode cL_law 20 = .ok (.arraylength, 1) := by decide +kernel
theorem dL_law_21 : decode cL_law 21 = .ok (.iconst 4, 1) := by decide +kernel
theorem dL_law_22 : decode cL_law 22 = .ok (.isub, 1) := by decide +kernel
theorem dL_law_23 : decode cL_law 23 = .ok (.if_icmp .gt 731, 3) := by decide +kernel
theorem dL_law_26 : decode cL_law 26 = .ok (.aload_n 0, 1) := by decide +kernel
theorem dL_law_27 : decode cL_law 27 = .ok (.iload_n 3, 1) := by decide +kernel
theorem dL_law_28 : decode cL_law 28 = .ok (.iaload, 1) := by decide +kernel
theorem dL_law_29 : decode cL_law 29 = .ok (.bipush 31, 2) := by decide +kernel
theorem dL_law_31 : decode cL_law 31 = .ok (.iand, 1) := by decide +kernel
theorem dL_law_32 : decode cL_law 32 = .ok (.tableswitch 716 0 23 #[112, 155, 198, 221, 244, 267, 290, 313, 346, 371, 384, 397, 420, 433, 446, 459, 492, 525, 558, 591, 624, 647, 670, 693], 112) := by decide +kernel
theorem dL_law_144 : decode cL_law 144 = .ok (.aload_n 1, 1) := by decide +kernel
theorem dL_law_145 : decode cL_law 145 = .ok (.aload_n 0, 1) := by decide +kernel
theorem dL_law_146 : decode cL_law 146 = .ok (.iload_n 3, 1) := by decide +kernel
theorem dL_law_147 : decode cL_law 147 = .ok (.iconst 1, 1) := by decide +kernel
theorem dL_law_148 : decode cL_law 148 = .ok (.iadd, 1) := by decide +kernel
theorem dL_law_149 : decode cL_law 149 = .ok (.iaload, 1) := by decide +kernel
theorem dL_law_150 : decode cL_law 150 = .ok (.aload_n 0, 1) := by decide +kernel
theorem dL_law_151 : decode cL_law 151 = .ok (.iload_n 3, 1) := by decide +kernel
theorem dL_law_152 : decode cL_law 152 = .ok (.iconst 2, 1) := by decide +kernel
theorem dL_law_153 : decode cL_law 153 = .ok (.iadd, 1) := by decide +kernel
theorem dL_law_154 : decode cL_law 154 = .ok (.iaload, 1) := by decide +kernel
theorem dL_law_155 : decode cL_law 155 = .ok (.aload_n 0, 1) := by decide +kernel
theorem dL_law_156 : decode cL_law 156 = .ok (.iload_n 3, 1) := by decide +kernel
theorem dL_law_157 : decode cL_law 157 = .ok (.iconst 3, 1) := by decide +kernel
theorem dL_law_158 : decode cL_law 158 = .ok (.iadd, 1) := by decide +kernel
theorem dL_law_159 : decode cL_law 159 = .ok (.iaload, 1) := by decide +kernel
theorem dL_law_160 : decode cL_law 160 = .ok (.invokevirtual 13, 3) := by decide +kernel
theorem dL_law_163 : decode cL_law 163 = .ok (.aload_n 2, 1) := by decide +kernel
theorem dL_law_164 : decode cL_law 164 = .ok (.aload_n 0, 1) := by decide +kernel
theorem dL_law_165 : decode cL_law 165 = .ok (.iload_n 3, 1) := by decide +kernel
theorem dL_law_166 : decode cL_law 166 = .ok (.iconst 1, 1) := by decide +kernel
theorem dL_law_167 : decode cL_law 167 = .ok (.iadd, 1) := by decide +kernel
theorem dL_law_168 : decode cL_law 168 = .ok (.iaload, 1) := by decide +kernel
theorem dL_law_169 : decode cL_law 169 = .ok (.aload_n 0, 1) := by decide +kernel
theorem dL_law_170 : decode cL_law 170 = .ok (.iload_n 3, 1) := by decide +kernel
theorem dL_law_171 : decode cL_law 171 = .ok (.iconst 2, 1) := by decide +kernel
theorem dL_law_172 : decode cL_law 172 = .ok (.iadd, 1) := by decide +kernel
theorem dL_law_173 : decode cL_law 173 = .ok (.iaload, 1) := by decide +kernel
theorem dL_law_174 : decode cL_law 174 = .ok (.aload_n 0, 1) := by decide +kernel
theorem dL_law_175 : decode cL_law 175 = .ok (.iload_n 3, 1) := by decide +kernel
theorem dL_law_176 : decode cL_law 176 = .ok (.iconst 3, 1) := by decide +kernel
theorem dL_law_177 : decode cL_law 177 = .ok (.iadd, 1) := by decide +kernel
theorem dL_law_178 : decode cL_law 178 = .ok (.iaload, 1) := by decide +kernel
theorem dL_law_179 : decode cL_law 179 = .ok (.invokevirtual 17, 3) := by decide +kernel
theorem dL_law_182 : decode cL_law 182 = .ok (.if_icmp .eq 566, 3) := by decide +kernel
theorem dL_law_185 : decode cL_law 185 = .ok (.iconst 0, 1) := by decide +kernel
theorem dL_law_186 : decode cL_law 186 = .ok (.ireturn, 1) := by decide +kernel
theorem dL_law_187 : decode cL_law 187 = .ok (.aload_n 1, 1) := by decide +kernel
theorem dL_law_188 : decode cL_law 188 = .ok (.aload_n 0, 1) := by decide +kernel
theorem dL_law_189 : decode cL_law 189 = .ok (.iload_n 3, 1) := by decide +kernel
theorem dL_law_190 : decode cL_law 190 = .ok (.iconst 1, 1) := by decide +kernel
theorem dL_law_191 : decode cL_law 191 = .ok (.iadd, 1) := by decide +kernel
theorem dL_law_192 : decode cL_law 192 = .ok (.iaload, 1) := by decide +kernel
theorem dL_law_193 : decode cL_law 193 = .ok (.aload_n 0, 1) := by decide +kernel
theorem dL_law_194 : decode cL_law 194 = .ok (.iload_n 3, 1) := by decide +kernel
theorem dL_law_195 : decode cL_law 195 = .ok (.iconst 2, 1) := by decide +kernel
theorem dL_law_196 : decode cL_law 196 = .ok (.iadd, 1) := by decide +kernel
theorem dL_law_197 : decode cL_law 197 = .ok (.iaload, 1) := by decide +kernel
theorem dL_law_198 : decode cL_law 198 = .ok (.aload_n 0, 1) := by decide +kernel
theorem dL_law_199 : decode cL_law 199 = .ok (.iload_n 3, 1) := by decide +kernel
theorem dL_law_200 : decode cL_law 200 = .ok (.iconst 3, 1) := by decide +kernel
theorem dL_law_201 : decode cL_law 201 = .ok (.iadd, 1) := by decide +kernel
theorem dL_law_202 : decode cL_law 202 = .ok (.iaload, 1) := by decide +kernel
theorem dL_law_203 : decode cL_law 203 = .ok (.invokevirtual 18, 3) := by decide +kernel
theorem dL_law_206 : decode cL_law 206 = .ok (.aload_n 2, 1) := by decide +kernel
theorem dL_law_207 : decode cL_law 207 = .ok (.aload_n 0, 1) := by decide +kernel
theorem dL_law_208 : decode cL_law 208 = .ok (.iload_n 3, 1) := by decide +kernel
theorem dL_law_209 : decode cL_law 209 = .ok (.iconst 1, 1) := by decide +kernel
theorem dL_law_210 : decode cL_law 210 = .ok (.iadd, 1) := by decide +kernel
theorem dL_law_211 : decode cL_law 211 = .ok (.iaload, 1) := by decide +kernel
theorem dL_law_212 : decode cL_law 212 = .ok (.aload_n 0, 1) := by decide +kernel
theorem dL_law_213 : decode cL_law 213 = .ok (.iload_n 3, 1) := by decide +kernel
theorem dL_law_214 : decode cL_law 214 = .ok (.iconst 2, 1) := by decide +kernel
theorem dL_law_215 : decode cL_law 215 = .ok (.iadd, 1) := by decide +kernel
theorem dL_law_216 : decode cL_law 216 = .ok (.iaload, 1) := by decide +kernel
theorem dL_law_217 : decode cL_law 217 = .ok (.aload_n 0, 1) := by decide +kernel
theorem dL_law_218 : decode cL_law 218 = .ok (.iload_n 3, 1) := by decide +kernel
theorem dL_law_219 : decode cL_law 219 = .ok (.iconst 3, 1) := by decide +kernel
theorem dL_law_220 : decode cL_law 220 = .ok (.iadd, 1) := by decide +kernel
theorem dL_law_221 : decode cL_law 221 = .ok (.iaload, 1) := by decide +kernel
theorem dL_law_222 : decode cL_law 222 = .ok (.invokevirtual 21, 3) := by decide +kernel
theorem dL_law_225 : decode cL_law 225 = .ok (.if_icmp .eq 523, 3) := by decide +kernel
theorem dL_law_228 : decode cL_law 228 = .ok (.iconst 0, 1) := by decide +kernel
theorem dL_law_229 : decode cL_law 229 = .ok (.ireturn, 1) := by decide +kernel
theorem dL_law_230 : decode cL_law 230 = .ok (.aload_n 1, 1) := by decide +kernel
theorem dL_law_231 : decode cL_law 231 = .ok (.aload_n 0, 1) := by decide +kernel
theorem dL_law_232 : decode cL_law 232 = .ok (.iload_n 3, 1) := by decide +kernel
theorem dL_law_233 : decode cL_law 233 = .ok (.iconst 1, 1) := by decide +kernel
theorem dL_law_234 : decode cL_law 234 = .ok (.iadd, 1) := by decide +kernel
theorem dL_law_235 : decode cL_law 235 = .ok (.iaload, 1) := by decide +kernel
theorem dL_law_236 : decode cL_law 236 = .ok (.invokevirtual 22, 3) := by decide +kernel
theorem dL_law_239 : decode cL_law 239 = .ok (.aload_n 2, 1) := by decide +kernel
theorem dL_law_240 : decode cL_law 240 = .ok (.aload_n 0, 1) := by decide +kernel
theorem dL_law_241 : decode cL_law 241 = .ok (.iload_n 3, 1) := by decide +kernel
theorem dL_law_242 : decode cL_law 242 = .ok (.iconst 1, 1) := by decide +kernel
theorem dL_law_243 : decode cL_law 243 = .ok (.iadd, 1) := by decide +kernel
theorem dL_law_244 : decode cL_law 244 = .ok (.iaload, 1) := by decide +kernel
theorem dL_law_245 : decode cL_law 245 = .ok (.invokevirtual 26, 3) := by decide +kernel
theorem dL_law_248 : decode cL_law 248 = .ok (.if_icmp .eq 500, 3) := by decide +kernel
theorem dL_law_251 : decode cL_law 251 = .ok (.iconst 0, 1) := by decide +kernel
theorem dL_law_252 : decode cL_law 252 = .ok (.ireturn, 1) := by decide +kernel
theorem dL_law_253 : decode cL_law 253 = .ok (.aload_n 1, 1) := by decide +kernel
theorem dL_law_254 : decode cL_law 254 = .ok (.aload_n 0, 1) := by decide +kernel
theorem dL_law_255 : decode cL_law 255 = .ok (.iload_n 3, 1) := by decide +kernel
theorem dL_law_256 : decode cL_law 256 = .ok (.iconst 1, 1) := by decide +kernel
theorem dL_law_257 : decode cL_law 257 = .ok (.iadd, 1) := by decide +kernel
theorem dL_law_258 : decode cL_law 258 = .ok (.iaload, 1) := by decide +kernel
theorem dL_law_259 : decode cL_law 259 = .ok (.invokevirtual 27, 3) := by decide +kernel
theorem dL_law_262 : decode cL_law 262 = .ok (.aload_n 2, 1) := by decide +kernel
theorem dL_law_263 : decode cL_law 263 = .ok (.aload_n 0, 1) := by decide +kernel
theorem dL_law_264 : decode cL_law 264 = .ok (.iload_n 3, 1) := by decide +kernel
theorem dL_law_265 : decode cL_law 265 = .ok (.iconst 1, 1) := by decide +kernel
theorem dL_law_266 : decode cL_law 266 = .ok (.iadd, 1) := by decide +kernel
theorem dL_law_267 : decode cL_law 267 = .ok (.iaload, 1) := by decide +kernel
theorem dL_law_268 : decode cL_law 268 = .ok (.invokevirtual 30, 3) := by decide +kernel
theorem dL_law_271 : decode cL_law 271 = .ok (.if_icmp .eq 477, 3) := by decide +kernel
theorem dL_law_274 : decode cL_law 274 = .ok (.iconst 0, 1) := by decide +kernel
theorem dL_law_275 : decode cL_law 275 = .ok (.ireturn, 1) := by decide +kernel
theorem dL_law_276 : decode cL_law 276 = .ok (.aload_n 1, 1) := by decide +kernel
theorem dL_law_277 : decode cL_law 277 = .ok (.aload_n 0, 1) := by decide +kernel
theorem dL_law_278 : decode cL_law 278 = .ok (.iload_n 3, 1) := by decide +kernel
theorem dL_law_279 : decode cL_law 279 = .ok (.iconst 1, 1) := by decide +kernel
theorem dL_law_280 : decode cL_law 280 = .ok (.iadd, 1) := by decide +kernel
theorem dL_law_281 : decode cL_law 281 = .ok (.iaload, 1) := by decide +kernel
theorem dL_law_282 : decode cL_law 282 = .ok (.invokevirtual 31, 3) := by decide +kernel
theorem dL_law_285 : decode cL_law 285 = .ok (.aload_n 2, 1) := by decide +kernel
theorem dL_law_286 : decode cL_law 286 = .ok (.aload_n 0, 1) := by decide +kernel
theorem dL_law_287 : decode cL_law 287 = .ok (.iload_n 3, 1) := by decide +kernel
theorem dL_law_288 : decode cL_law 288 = .ok (.iconst 1, 1) := by decide +kernel
theorem dL_law_289 : decode cL_law 289 = .ok (.iadd, 1) := by decide +kernel
theorem dL_law_290 : decode cL_law 290 = .ok (.iaload, 1) := by decide +kernel
theorem dL_law_291 : decode cL_law 291 = .ok (.invokevirtual 34, 3) := by decide +kernel
theorem dL_law_294 : decode cL_law 294 = .ok (.if_icmp .eq 454, 3) := by decide +kernel
theorem dL_law_297 : decode cL_law 297 = .ok (.iconst 0, 1) := by decide +kernel
theorem dL_law_298 : decode cL_law 298 = .ok (.ireturn, 1) := by decide +kernel
theorem dL_law_299 : decode cL_law 299 = .ok (.aload_n 1, 1) := by decide +kernel
theorem dL_law_300 : decode cL_law 300 = .ok (.aload_n 0, 1) := by decide +kernel
theorem dL_law_301 : decode cL_law 301 = .ok (.iload_n 3, 1) := by decide +kernel
theorem dL_law_302 : decode cL_law 302 = .ok (.iconst 1, 1) := by decide +kernel
theorem dL_law_303 : decode cL_law 303 = .ok (.iadd, 1) := by decide +kernel
theorem dL_law_304 : decode cL_law 304 = .ok (.iaload, 1) := by decide +kernel
theorem dL_law_305 : decode cL_law 305 = .ok (.invokevirtual 35, 3) := by decide +kernel
theorem dL_law_308 : decode cL_law 308 = .ok (.aload_n 2, 1) := by decide +kernel
theorem dL_law_309 : decode cL_law 309 = .ok (.aload_n 0, 1) := by decide +kernel
theorem dL_law_310 : decode cL_law 310 = .ok (.iload_n 3, 1) := by decide +kernel
theorem dL_law_311 : decode cL_law 311 = .ok (.iconst 1, 1) := by decide +kernel
theorem dL_law_312 : decode cL_law 312 = .ok (.iadd, 1) := by decide +kernel
theorem dL_law_313 : decode cL_law 313 = .ok (.iaload, 1) := by decide +kernel
theorem dL_law_314 : decode cL_law 314 = .ok (.invokevirtual 38, 3) := by decide +kernel
theorem dL_law_317 : decode cL_law 317 = .ok (.if_icmp .eq 431, 3) := by decide +kernel
theorem dL_law_320 : decode cL_law 320 = .ok (.iconst 0, 1) := by decide +kernel
theorem dL_law_321 : decode cL_law 321 = .ok (.ireturn, 1) := by decide +kernel
theorem dL_law_322 : decode cL_law 322 = .ok (.aload_n 1, 1) := by decide +kernel
theorem dL_law_323 : decode cL_law 323 = .ok (.aload_n 0, 1) := by decide +kernel
theorem dL_law_324 : decode cL_law 324 = .ok (.iload_n 3, 1) := by decide +kernel
theorem dL_law_325 : decode cL_law 325 = .ok (.iconst 1, 1) := by decide +kernel
theorem dL_law_326 : decode cL_law 326 = .ok (.iadd, 1) := by decide +kernel
theorem dL_law_327 : decode cL_law 327 = .ok (.iaload, 1) := by decide +kernel
theorem dL_law_328 : decode cL_law 328 = .ok (.invokevirtual 39, 3) := by decide +kernel
theorem dL_law_331 : decode cL_law 331 = .ok (.aload_n 2, 1) := by decide +kernel
theorem dL_law_332 : decode cL_law 332 = .ok (.aload_n 0, 1) := by decide +kernel
theorem dL_law_333 : decode cL_law 333 = .ok (.iload_n 3, 1) := by decide +kernel
theorem dL_law_334 : decode cL_law 334 = .ok (.iconst 1, 1) := by decide +kernel
theorem dL_law_335 : decode cL_law 335 = .ok (.iadd, 1) := by decide +kernel
theorem dL_law_336 : decode cL_law 336 = .ok (.iaload, 1) := by decide +kernel
theorem dL_law_337 : decode cL_law 337 = .ok (.invokevirtual 42, 3) := by decide +kernel
theorem dL_law_340 : decode cL_law 340 = .ok (.if_icmp .eq 408, 3) := by decide +kernel
theorem dL_law_343 : decode cL_law 343 = .ok (.iconst 0, 1) := by decide +kernel
theorem dL_law_344 : decode cL_law 344 = .ok (.ireturn, 1) := by decide +kernel
theorem dL_law_345 : decode cL_law 345 = .ok (.aload_n 1, 1) := by decide +kernel
theorem dL_law_346 : decode cL_law 346 = .ok (.aload_n 0, 1) := by decide +kernel
theorem dL_law_347 : decode cL_law 347 = .ok (.iload_n 3, 1) := by decide +kernel
theorem dL_law_348 : decode cL_law 348 = .ok (.iconst 1, 1) := by decide +kernel
theorem dL_law_349 : decode cL_law 349 = .ok (.iadd, 1) := by decide +kernel
theorem dL_law_350 : decode cL_law 350 = .ok (.iaload, 1) := by decide +kernel
theorem dL_law_351 : decode cL_law 351 = .ok (.aload_n 0, 1) := by decide +kernel
theorem dL_law_352 : decode cL_law 352 = .ok (.iload_n 3, 1) := by decide +kernel
theorem dL_law_353 : decode cL_law 353 = .ok (.iconst 2, 1) := by decide +kernel
theorem dL_law_354 : decode cL_law 354 = .ok (.iadd, 1) := by decide +kernel
theorem dL_law_355 : decode cL_law 355 = .ok (.iaload, 1) := by decide +kernel
theorem dL_law_356 : decode cL_law 356 = .ok (.invokevirtual 43, 3) := by decide +kernel
theorem dL_law_359 : decode cL_law 359 = .ok (.aload_n 2, 1) := by decide +kernel
theorem dL_law_360 : decode cL_law 360 = .ok (.aload_n 0, 1) := by decide +kernel
theorem dL_law_361 : decode cL_law 361 = .ok (.iload_n 3, 1) := by decide +kernel
theorem dL_law_362 : decode cL_law 362 = .ok (.iconst 1, 1) := by decide +kernel
theorem dL_law_363 : decode cL_law 363 = .ok (.iadd, 1) := by decide +kernel
theorem dL_law_364 : decode cL_law 364 = .ok (.iaload, 1) := by decide +kernel
theorem dL_law_365 : decode cL_law 365 = .ok (.aload_n 0, 1) := by decide +kernel
theorem dL_law_366 : decode cL_law 366 = .ok (.iload_n 3, 1) := by decide +kernel
theorem dL_law_367 : decode cL_law 367 = .ok (.iconst 2, 1) := by decide +kernel
theorem dL_law_368 : decode cL_law 368 = .ok (.iadd, 1) := by decide +kernel
theorem dL_law_369 : decode cL_law 369 = .ok (.iaload, 1) := by decide +kernel
theorem dL_law_370 : decode cL_law 370 = .ok (.invokevirtual 47, 3) := by decide +kernel
theorem dL_law_373 : decode cL_law 373 = .ok (.if_icmp .eq 375, 3) := by decide +kernel
theorem dL_law_376 : decode cL_law 376 = .ok (.iconst 0, 1) := by decide +kernel
theorem dL_law_377 : decode cL_law 377 = .ok (.ireturn, 1) := by decide +kernel
theorem dL_law_378 : decode cL_law 378 = .ok (.aload_n 1, 1) := by decide +kernel
theorem dL_law_379 : decode cL_law 379 = .ok (.aload_n 0, 1) := by decide +kernel
theorem dL_law_380 : decode cL_law 380 = .ok (.iload_n 3, 1) := by decide +kernel
theorem dL_law_381 : decode cL_law 381 = .ok (.iconst 1, 1) := by decide +kernel
theorem dL_law_382 : decode cL_law 382 = .ok (.iadd, 1) := by decide +kernel
theorem dL_law_383 : decode cL_law 383 = .ok (.iaload, 1) := by decide +kernel
theorem dL_law_384 : decode cL_law 384 = .ok (.i2c, 1) := by decide +kernel
theorem dL_law_385 : decode cL_law 385 = .ok (.invokevirtual 48, 3) := by decide +kernel
theorem dL_law_388 : decode cL_law 388 = .ok (.aload_n 2, 1) := by decide +kernel
theorem dL_law_389 : decode cL_law 389 = .ok (.aload_n 0, 1) := by decide +kernel
theorem dL_law_390 : decode cL_law 390 = .ok (.iload_n 3, 1) := by decide +kernel
theorem dL_law_391 : decode cL_law 391 = .ok (.iconst 1, 1) := by decide +kernel
theorem dL_law_392 : decode cL_law 392 = .ok (.iadd, 1) := by decide +kernel
theorem dL_law_393 : decode cL_law 393 = .ok (.iaload, 1) := by decide +kernel
theorem dL_law_394 : decode cL_law 394 = .ok (.i2c, 1) := by decide +kernel
theorem dL_law_395 : decode cL_law 395 = .ok (.invokevirtual 52, 3) := by decide +kernel
theorem dL_law_398 : decode cL_law 398 = .ok (.if_icmp .eq 350, 3) := by decide +kernel
theorem dL_law_401 : decode cL_law 401 = .ok (.iconst 0, 1) := by decide +kernel
theorem dL_law_402 : decode cL_law 402 = .ok (.ireturn, 1) := by decide +kernel
theorem dL_law_403 : decode cL_law 403 = .ok (.aload_n 1, 1) := by decide +kernel
theorem dL_law_404 : decode cL_law 404 = .ok (.invokevirtual 53, 3) := by decide +kernel
theorem dL_law_407 : decode cL_law 407 = .ok (.aload_n 2, 1) := by decide +kernel
theorem dL_law_408 : decode cL_law 408 = .ok (.invokevirtual 57, 3) := by decide +kernel
theorem dL_law_411 : decode cL_law 411 = .ok (.if_icmp .eq 337, 3) := by decide +kernel
theorem dL_law_414 : decode cL_law 414 = .ok (.iconst 0, 1) := by decide +kernel
theorem dL_law_415 : decode cL_law 415 = .ok (.ireturn, 1) := by decide +kernel
theorem dL_law_416 : decode cL_law 416 = .ok (.aload_n 1, 1) := by decide +kernel
theorem dL_law_417 : decode cL_law 417 = .ok (.invokevirtual 58, 3) := by decide +kernel
theorem dL_law_420 : decode cL_law 420 = .ok (.aload_n 2, 1) := by decide +kernel
theorem dL_law_421 : decode cL_law 421 = .ok (.invokevirtual 61, 3) := by decide +kernel
theorem dL_law_424 : decode cL_law 424 = .ok (.if_icmp .eq 324, 3) := by decide +kernel
theorem dL_law_427 : decode cL_law 427 = .ok (.iconst 0, 1) := by decide +kernel
theorem dL_law_428 : decode cL_law 428 = .ok (.ireturn, 1) := by decide +kernel
theorem dL_law_429 : decode cL_law 429 = .ok (.aload_n 1, 1) := by decide +kernel
theorem dL_law_430 : decode cL_law 430 = .ok (.aload_n 0, 1) := by decide +kernel
theorem dL_law_431 : decode cL_law 431 = .ok (.iload_n 3, 1) := by decide +kernel
theorem dL_law_432 : decode cL_law 432 = .ok (.iconst 1, 1) := by decide +kernel
theorem dL_law_433 : decode cL_law 433 = .ok (.iadd, 1) := by decide +kernel
theorem dL_law_434 : decode cL_law 434 = .ok (.iaload, 1) := by decide +kernel
theorem dL_law_435 : decode cL_law 435 = .ok (.invokevirtual 62, 3) := by decide +kernel
theorem dL_law_438 : decode cL_law 438 = .ok (.aload_n 2, 1) := by decide +kernel
theorem dL_law_439 : decode cL_law 439 = .ok (.aload_n 0, 1) := by decide +kernel
theorem dL_law_440 : decode cL_law 440 = .ok (.iload_n 3, 1) := by decide +kernel
theorem dL_law_441 : decode cL_law 441 = .ok (.iconst 1, 1) := by decide +kernel
theorem dL_law_442 : decode cL_law 442 = .ok (.iadd, 1) := by decide +kernel
theorem dL_law_443 : decode cL_law 443 = .ok (.iaload, 1) := by decide +kernel
theorem dL_law_444 : decode cL_law 444 = .ok (.invokevirtual 65, 3) := by decide +kernel
theorem dL_law_447 : decode cL_law 447 = .ok (.if_icmp .eq 301, 3) := by decide +kernel
theorem dL_law_450 : decode cL_law 450 = .ok (.iconst 0, 1) := by decide +kernel
theorem dL_law_451 : decode cL_law 451 = .ok (.ireturn, 1) := by decide +kernel
theorem dL_law_452 : decode cL_law 452 = .ok (.aload_n 1, 1) := by decide +kernel
theorem dL_law_453 : decode cL_law 453 = .ok (.invokevirtual 66, 3) := by decide +kernel
theorem dL_law_456 : decode cL_law 456 = .ok (.aload_n 2, 1) := by decide +kernel
theorem dL_law_457 : decode cL_law 457 = .ok (.invokevirtual 69, 3) := by decide +kernel
theorem dL_law_460 : decode cL_law 460 = .ok (.if_icmp .eq 288, 3) := by decide +kernel
theorem dL_law_463 : decode cL_law 463 = .ok (.iconst 0, 1) := by decide +kernel
theorem dL_law_464 : decode cL_law 464 = .ok (.ireturn, 1) := by decide +kernel
theorem dL_law_465 : decode cL_law 465 = .ok (.aload_n 1, 1) := by decide +kernel
theorem dL_law_466 : decode cL_law 466 = .ok (.invokevirtual 70, 3) := by decide +kernel
theorem dL_law_469 : decode cL_law 469 = .ok (.aload_n 2, 1) := by decide +kernel
theorem dL_law_470 : decode cL_law 470 = .ok (.invokevirtual 73, 3) := by decide +kernel
theorem dL_law_473 : decode cL_law 473 = .ok (.if_icmp .eq 275, 3) := by decide +kernel
theorem dL_law_476 : decode cL_law 476 = .ok (.iconst 0, 1) := by decide +kernel
theorem dL_law_477 : decode cL_law 477 = .ok (.ireturn, 1) := by decide +kernel
theorem dL_law_478 : decode cL_law 478 = .ok (.aload_n 1, 1) := by decide +kernel
theorem dL_law_479 : decode cL_law 479 = .ok (.invokevirtual 74, 3) := by decide +kernel
theorem dL_law_482 : decode cL_law 482 = .ok (.aload_n 2, 1) := by decide +kernel
theorem dL_law_483 : decode cL_law 483 = .ok (.invokevirtual 77, 3) := by decide +kernel
theorem dL_law_486 : decode cL_law 486 = .ok (.if_icmp .eq 262, 3) := by decide +kernel
theorem dL_law_489 : decode cL_law 489 = .ok (.iconst 0, 1) := by decide +kernel
theorem dL_law_490 : decode cL_law 490 = .ok (.ireturn, 1) := by decide +kernel
theorem dL_law_491 : decode cL_law 491 = .ok (.aload_n 1, 1) := by decide +kernel
theorem dL_law_492 : decode cL_law 492 = .ok (.aload_n 0, 1) := by decide +kernel
theorem dL_law_493 : decode cL_law 493 = .ok (.iload_n 3, 1) := by decide +kernel
theorem dL_law_494 : decode cL_law 494 = .ok (.iconst 1, 1) := by decide +kernel
theorem dL_law_495 : decode cL_law 495 = .ok (.iadd, 1) := by decide +kernel
theorem dL_law_496 : decode cL_law 496 = .ok (.iaload, 1) := by decide +kernel
theorem dL_law_497 : decode cL_law 497 = .ok (.aload_n 0, 1) := by decide +kernel
theorem dL_law_498 : decode cL_law 498 = .ok (.iload_n 3, 1) := by decide +kernel
theorem dL_law_499 : decode cL_law 499 = .ok (.iconst 2, 1) := by decide +kernel
theorem dL_law_500 : decode cL_law 500 = .ok (.iadd, 1) := by decide +kernel
theorem dL_law_501 : decode cL_law 501 = .ok (.iaload, 1) := by decide +kernel
theorem dL_law_502 : decode cL_law 502 = .ok (.invokevirtual 78, 3) := by decide +kernel
theorem dL_law_505 : decode cL_law 505 = .ok (.aload_n 2, 1) := by decide +kernel
theorem dL_law_506 : decode cL_law 506 = .ok (.aload_n 0, 1) := by decide +kernel
theorem dL_law_507 : decode cL_law 507 = .ok (.iload_n 3, 1) := by decide +kernel
theorem dL_law_508 : decode cL_law 508 = .ok (.iconst 1, 1) := by decide +kernel
theorem dL_law_509 : decode cL_law 509 = .ok (.iadd, 1) := by decide +kernel
theorem dL_law_510 : decode cL_law 510 = .ok (.iaload, 1) := by decide +kernel
theorem dL_law_511 : decode cL_law 511 = .ok (.aload_n 0, 1) := by decide +kernel
theorem dL_law_512 : decode cL_law 512 = .ok (.iload_n 3, 1) := by decide +kernel
theorem dL_law_513 : decode cL_law 513 = .ok (.iconst 2, 1) := by decide +kernel
theorem dL_law_514 : decode cL_law 514 = .ok (.iadd, 1) := by decide +kernel
theorem dL_law_515 : decode cL_law 515 = .ok (.iaload, 1) := by decide +kernel
theorem dL_law_516 : decode cL_law 516 = .ok (.invokevirtual 81, 3) := by decide +kernel
theorem dL_law_519 : decode cL_law 519 = .ok (.if_icmp .eq 229, 3) := by decide +kernel
theorem dL_law_522 : decode cL_law 522 = .ok (.iconst 0, 1) := by decide +kernel
theorem dL_law_523 : decode cL_law 523 = .ok (.ireturn, 1) := by decide +kernel
theorem dL_law_524 : decode cL_law 524 = .ok (.aload_n 1, 1) := by decide +kernel
theorem dL_law_525 : decode cL_law 525 = .ok (.aload_n 0, 1) := by decide +kernel
theorem dL_law_526 : decode cL_law 526 = .ok (.iload_n 3, 1) := by decide +kernel
theorem dL_law_527 : decode cL_law 527 = .ok (.iconst 1, 1) := by decide +kernel
theorem dL_law_528 : decode cL_law 528 = .ok (.iadd, 1) := by decide +kernel
theorem dL_law_529 : decode cL_law 529 = .ok (.iaload, 1) := by decide +kernel
theorem dL_law_530 : decode cL_law 530 = .ok (.aload_n 0, 1) := by decide +kernel
theorem dL_law_531 : decode cL_law 531 = .ok (.iload_n 3, 1) := by decide +kernel
theorem dL_law_532 : decode cL_law 532 = .ok (.iconst 2, 1) := by decide +kernel
theorem dL_law_533 : decode cL_law 533 = .ok (.iadd, 1) := by decide +kernel
theorem dL_law_534 : decode cL_law 534 = .ok (.iaload, 1) := by decide +kernel
theorem dL_law_535 : decode cL_law 535 = .ok (.invokevirtual 82, 3) := by decide +kernel
theorem dL_law_538 : decode cL_law 538 = .ok (.aload_n 2, 1) := by decide +kernel
theorem dL_law_539 : decode cL_law 539 = .ok (.aload_n 0, 1) := by decide +kernel
theorem dL_law_540 : decode cL_law 540 = .ok (.iload_n 3, 1) := by decide +kernel
theorem dL_law_541 : decode cL_law 541 = .ok (.iconst 1, 1) := by decide +kernel
theorem dL_law_542 : decode cL_law 542 = .ok (.iadd, 1) := by decide +kernel
theorem dL_law_543 : decode cL_law 543 = .ok (.iaload, 1) := by decide +kernel
theorem dL_law_544 : decode cL_law 544 = .ok (.aload_n 0, 1) := by decide +kernel
theorem dL_law_545 : decode cL_law 545 = .ok (.iload_n 3, 1) := by decide +kernel
theorem dL_law_546 : decode cL_law 546 = .ok (.iconst 2, 1) := by decide +kernel
theorem dL_law_547 : decode cL_law 547 = .ok (.iadd, 1) := by decide +kernel
theorem dL_law_548 : decode cL_law 548 = .ok (.iaload, 1) := by decide +kernel
theorem dL_law_549 : decode cL_law 549 = .ok (.invokevirtual 85, 3) := by decide +kernel
theorem dL_law_552 : decode cL_law 552 = .ok (.if_icmp .eq 196, 3) := by decide +kernel
theorem dL_law_555 : decode cL_law 555 = .ok (.iconst 0, 1) := by decide +kernel
theorem dL_law_556 : decode cL_law 556 = .ok (.ireturn, 1) := by decide +kernel
theorem dL_law_557 : decode cL_law 557 = .ok (.aload_n 1, 1) := by decide +kernel
theorem dL_law_558 : decode cL_law 558 = .ok (.aload_n 0, 1) := by decide +kernel
theorem dL_law_559 : decode cL_law 559 = .ok (.iload_n 3, 1) := by decide +kernel
theorem dL_law_560 : decode cL_law 560 = .ok (.iconst 1, 1) := by decide +kernel
theorem dL_law_561 : decode cL_law 561 = .ok (.iadd, 1) := by decide +kernel
theorem dL_law_562 : decode cL_law 562 = .ok (.iaload, 1) := by decide +kernel
theorem dL_law_563 : decode cL_law 563 = .ok (.aload_n 0, 1) := by decide +kernel
theorem dL_law_564 : decode cL_law 564 = .ok (.iload_n 3, 1) := by decide +kernel
theorem dL_law_565 : decode cL_law 565 = .ok (.iconst 2, 1) := by decide +kernel
theorem dL_law_566 : decode cL_law 566 = .ok (.iadd, 1) := by decide +kernel
theorem dL_law_567 : decode cL_law 567 = .ok (.iaload, 1) := by decide +kernel
theorem dL_law_568 : decode cL_law 568 = .ok (.invokevirtual 86, 3) := by decide +kernel
theorem dL_law_571 : decode cL_law 571 = .ok (.aload_n 2, 1) := by decide +kernel
theorem dL_law_572 : decode cL_law 572 = .ok (.aload_n 0, 1) := by decide +kernel
theorem dL_law_573 : decode cL_law 573 = .ok (.iload_n 3, 1) := by decide +kernel
theorem dL_law_574 : decode cL_law 574 = .ok (.iconst 1, 1) := by decide +kernel
theorem dL_law_575 : decode cL_law 575 = .ok (.iadd, 1) := by decide +kernel
theorem dL_law_576 : decode cL_law 576 = .ok (.iaload, 1) := by decide +kernel
theorem dL_law_577 : decode cL_law 577 = .ok (.aload_n 0, 1) := by decide +kernel
theorem dL_law_578 : decode cL_law 578 = .ok (.iload_n 3, 1) := by decide +kernel
theorem dL_law_579 : decode cL_law 579 = .ok (.iconst 2, 1) := by decide +kernel
theorem dL_law_580 : decode cL_law 580 = .ok (.iadd, 1) := by decide +kernel
theorem dL_law_581 : decode cL_law 581 = .ok (.iaload, 1) := by decide +kernel
theorem dL_law_582 : decode cL_law 582 = .ok (.invokevirtual 89, 3) := by decide +kernel
theorem dL_law_585 : decode cL_law 585 = .ok (.if_icmp .eq 163, 3) := by decide +kernel
theorem dL_law_588 : decode cL_law 588 = .ok (.iconst 0, 1) := by decide +kernel
theorem dL_law_589 : decode cL_law 589 = .ok (.ireturn, 1) := by decide +kernel
theorem dL_law_590 : decode cL_law 590 = .ok (.aload_n 1, 1) := by decide +kernel
theorem dL_law_591 : decode cL_law 591 = .ok (.aload_n 0, 1) := by decide +kernel
theorem dL_law_592 : decode cL_law 592 = .ok (.iload_n 3, 1) := by decide +kernel
theorem dL_law_593 : decode cL_law 593 = .ok (.iconst 1, 1) := by decide +kernel
theorem dL_law_594 : decode cL_law 594 = .ok (.iadd, 1) := by decide +kernel
theorem dL_law_595 : decode cL_law 595 = .ok (.iaload, 1) := by decide +kernel
theorem dL_law_596 : decode cL_law 596 = .ok (.aload_n 0, 1) := by decide +kernel
theorem dL_law_597 : decode cL_law 597 = .ok (.iload_n 3, 1) := by decide +kernel
theorem dL_law_598 : decode cL_law 598 = .ok (.iconst 2, 1) := by decide +kernel
theorem dL_law_599 : decode cL_law 599 = .ok (.iadd, 1) := by decide +kernel
theorem dL_law_600 : decode cL_law 600 = .ok (.iaload, 1) := by decide +kernel
theorem dL_law_601 : decode cL_law 601 = .ok (.invokevirtual 90, 3) := by decide +kernel
theorem dL_law_604 : decode cL_law 604 = .ok (.aload_n 2, 1) := by decide +kernel
theorem dL_law_605 : decode cL_law 605 = .ok (.aload_n 0, 1) := by decide +kernel
theorem dL_law_606 : decode cL_law 606 = .ok (.iload_n 3, 1) := by decide +kernel
theorem dL_law_607 : decode cL_law 607 = .ok (.iconst 1, 1) := by decide +kernel
theorem dL_law_608 : decode cL_law 608 = .ok (.iadd, 1) := by decide +kernel
theorem dL_law_609 : decode cL_law 609 = .ok (.iaload, 1) := by decide +kernel
theorem dL_law_610 : decode cL_law 610 = .ok (.aload_n 0, 1) := by decide +kernel
theorem dL_law_611 : decode cL_law 611 = .ok (.iload_n 3, 1) := by decide +kernel
theorem dL_law_612 : decode cL_law 612 = .ok (.iconst 2, 1) := by decide +kernel
theorem dL_law_613 : decode cL_law 613 = .ok (.iadd, 1) := by decide +kernel
theorem dL_law_614 : decode cL_law 614 = .ok (.iaload, 1) := by decide +kernel
theorem dL_law_615 : decode cL_law 615 = .ok (.invokevirtual 93, 3) := by decide +kernel
theorem dL_law_618 : decode cL_law 618 = .ok (.if_icmp .eq 130, 3) := by decide +kernel
theorem dL_law_621 : decode cL_law 621 = .ok (.iconst 0, 1) := by decide +kernel
theorem dL_law_622 : decode cL_law 622 = .ok (.ireturn, 1) := by decide +kernel
theorem dL_law_623 : decode cL_law 623 = .ok (.aload_n 1, 1) := by decide +kernel
theorem dL_law_624 : decode cL_law 624 = .ok (.aload_n 0, 1) := by decide +kernel
theorem dL_law_625 : decode cL_law 625 = .ok (.iload_n 3, 1) := by decide +kernel
theorem dL_law_626 : decode cL_law 626 = .ok (.iconst 1, 1) := by decide +kernel
theorem dL_law_627 : decode cL_law 627 = .ok (.iadd, 1) := by decide +kernel
theorem dL_law_628 : decode cL_law 628 = .ok (.iaload, 1) := by decide +kernel
theorem dL_law_629 : decode cL_law 629 = .ok (.aload_n 0, 1) := by decide +kernel
theorem dL_law_630 : decode cL_law 630 = .ok (.iload_n 3, 1) := by decide +kernel
theorem dL_law_631 : decode cL_law 631 = .ok (.iconst 2, 1) := by decide +kernel
theorem dL_law_632 : decode cL_law 632 = .ok (.iadd, 1) := by decide +kernel
theorem dL_law_633 : decode cL_law 633 = .ok (.iaload, 1) := by decide +kernel
theorem dL_law_634 : decode cL_law 634 = .ok (.invokevirtual 94, 3) := by decide +kernel
theorem dL_law_637 : decode cL_law 637 = .ok (.aload_n 2, 1) := by decide +kernel
theorem dL_law_638 : decode cL_law 638 = .ok (.aload_n 0, 1) := by decide +kernel
theorem dL_law_639 : decode cL_law 639 = .ok (.iload_n 3, 1) := by decide +kernel
theorem dL_law_640 : decode cL_law 640 = .ok (.iconst 1, 1) := by decide +kernel
theorem dL_law_641 : decode cL_law 641 = .ok (.iadd, 1) := by decide +kernel
theorem dL_law_642 : decode cL_law 642 = .ok (.iaload, 1) := by decide +kernel
theorem dL_law_643 : decode cL_law 643 = .ok (.aload_n 0, 1) := by decide +kernel
theorem dL_law_644 : decode cL_law 644 = .ok (.iload_n 3, 1) := by decide +kernel
theorem dL_law_645 : decode cL_law 645 = .ok (.iconst 2, 1) := by decide +kernel
theorem dL_law_646 : decode cL_law 646 = .ok (.iadd, 1) := by decide +kernel
theorem dL_law_647 : decode cL_law 647 = .ok (.iaload, 1) := by decide +kernel
theorem dL_law_648 : decode cL_law 648 = .ok (.invokevirtual 97, 3) := by decide +kernel
theorem dL_law_651 : decode cL_law 651 = .ok (.if_icmp .eq 97, 3) := by decide +kernel
theorem dL_law_654 : decode cL_law 654 = .ok (.iconst 0, 1) := by decide +kernel
theorem dL_law_655 : decode cL_law 655 = .ok (.ireturn, 1) := by decide +kernel
theorem dL_law_656 : decode cL_law 656 = .ok (.aload_n 1, 1) := by decide +kernel
theorem dL_law_657 : decode cL_law 657 = .ok (.aload_n 0, 1) := by decide +kernel
theorem dL_law_658 : decode cL_law 658 = .ok (.iload_n 3, 1) := by decide +kernel
theorem dL_law_659 : decode cL_law 659 = .ok (.iconst 1, 1) := by decide +kernel
theorem dL_law_660 : decode cL_law 660 = .ok (.iadd, 1) := by decide +kernel
theorem dL_law_661 : decode cL_law 661 = .ok (.iaload, 1) := by decide +kernel
theorem dL_law_662 : decode cL_law 662 = .ok (.invokevirtual 98, 3) := by decide +kernel
theorem dL_law_665 : decode cL_law 665 = .ok (.aload_n 2, 1) := by decide +kernel
theorem dL_law_666 : decode cL_law 666 = .ok (.aload_n 0, 1) := by decide +kernel
theorem dL_law_667 : decode cL_law 667 = .ok (.iload_n 3, 1) := by decide +kernel
theorem dL_law_668 : decode cL_law 668 = .ok (.iconst 1, 1) := by decide +kernel
theorem dL_law_669 : decode cL_law 669 = .ok (.iadd, 1) := by decide +kernel
theorem dL_law_670 : decode cL_law 670 = .ok (.iaload, 1) := by decide +kernel
theorem dL_law_671 : decode cL_law 671 = .ok (.invokevirtual 101, 3) := by decide +kernel
theorem dL_law_674 : decode cL_law 674 = .ok (.if_icmp .eq 74, 3) := by decide +kernel
theorem dL_law_677 : decode cL_law 677 = .ok (.iconst 0, 1) := by decide +kernel
theorem dL_law_678 : decode cL_law 678 = .ok (.ireturn, 1) := by decide +kernel
theorem dL_law_679 : decode cL_law 679 = .ok (.aload_n 1, 1) := by decide +kernel
theorem dL_law_680 : decode cL_law 680 = .ok (.aload_n 0, 1) := by decide +kernel
theorem dL_law_681 : decode cL_law 681 = .ok (.iload_n 3, 1) := by decide +kernel
theorem dL_law_682 : decode cL_law 682 = .ok (.iconst 1, 1) := by decide +kernel
theorem dL_law_683 : decode cL_law 683 = .ok (.iadd, 1) := by decide +kernel
theorem dL_law_684 : decode cL_law 684 = .ok (.iaload, 1) := by decide +kernel
theorem dL_law_685 : decode cL_law 685 = .ok (.invokevirtual 102, 3) := by decide +kernel
theorem dL_law_688 : decode cL_law 688 = .ok (.aload_n 2, 1) := by decide +kernel
theorem dL_law_689 : decode cL_law 689 = .ok (.aload_n 0, 1) := by decide +kernel
theorem dL_law_690 : decode cL_law 690 = .ok (.iload_n 3, 1) := by decide +kernel
theorem dL_law_691 : decode cL_law 691 = .ok (.iconst 1, 1) := by decide +kernel
theorem dL_law_692 : decode cL_law 692 = .ok (.iadd, 1) := by decide +kernel
theorem dL_law_693 : decode cL_law 693 = .ok (.iaload, 1) := by decide +kernel
theorem dL_law_694 : decode cL_law 694 = .ok (.invokevirtual 105, 3) := by decide +kernel
theorem dL_law_697 : decode cL_law 697 = .ok (.if_icmp .eq 51, 3) := by decide +kernel
theorem dL_law_700 : decode cL_law 700 = .ok (.iconst 0, 1) := by decide +kernel
theorem dL_law_701 : decode cL_law 701 = .ok (.ireturn, 1) := by decide +kernel
theorem dL_law_702 : decode cL_law 702 = .ok (.aload_n 1, 1) := by decide +kernel
theorem dL_law_703 : decode cL_law 703 = .ok (.aload_n 0, 1) := by decide +kernel
theorem dL_law_704 : decode cL_law 704 = .ok (.iload_n 3, 1) := by decide +kernel
theorem dL_law_705 : decode cL_law 705 = .ok (.iconst 1, 1) := by decide +kernel
theorem dL_law_706 : decode cL_law 706 = .ok (.iadd, 1) := by decide +kernel
theorem dL_law_707 : decode cL_law 707 = .ok (.iaload, 1) := by decide +kernel
theorem dL_law_708 : decode cL_law 708 = .ok (.invokevirtual 106, 3) := by decide +kernel
theorem dL_law_711 : decode cL_law 711 = .ok (.aload_n 2, 1) := by decide +kernel
theorem dL_law_712 : decode cL_law 712 = .ok (.aload_n 0, 1) := by decide +kernel
theorem dL_law_713 : decode cL_law 713 = .ok (.iload_n 3, 1) := by decide +kernel
theorem dL_law_714 : decode cL_law 714 = .ok (.iconst 1, 1) := by decide +kernel
theorem dL_law_715 : decode cL_law 715 = .ok (.iadd, 1) := by decide +kernel
theorem dL_law_716 : decode cL_law 716 = .ok (.iaload, 1) := by decide +kernel
theorem dL_law_717 : decode cL_law 717 = .ok (.invokevirtual 109, 3) := by decide +kernel
theorem dL_law_720 : decode cL_law 720 = .ok (.if_icmp .eq 28, 3) := by decide +kernel
theorem dL_law_723 : decode cL_law 723 = .ok (.iconst 0, 1) := by decide +kernel
theorem dL_law_724 : decode cL_law 724 = .ok (.ireturn, 1) := by decide +kernel
theorem dL_law_725 : decode cL_law 725 = .ok (.aload_n 1, 1) := by decide +kernel
theorem dL_law_726 : decode cL_law 726 = .ok (.aload_n 0, 1) := by decide +kernel
theorem dL_law_727 : decode cL_law 727 = .ok (.iload_n 3, 1) := by decide +kernel
theorem dL_law_728 : decode cL_law 728 = .ok (.iconst 1, 1) := by decide +kernel
theorem dL_law_729 : decode cL_law 729 = .ok (.iadd, 1) := by decide +kernel
theorem dL_law_730 : decode cL_law 730 = .ok (.iaload, 1) := by decide +kernel
theorem dL_law_731 : decode cL_law 731 = .ok (.invokevirtual 110, 3) := by decide +kernel
theorem dL_law_734 : decode cL_law 734 = .ok (.aload_n 2, 1) := by decide +kernel
theorem dL_law_735 : decode cL_law 735 = .ok (.aload_n 0, 1) := by decide +kernel
theorem dL_law_736 : decode cL_law 736 = .ok (.iload_n 3, 1) := by decide +kernel
theorem dL_law_737 : decode cL_law 737 = .ok (.iconst 1, 1) := by decide +kernel
theorem dL_law_738 : decode cL_law 738 = .ok (.iadd, 1) := by decide +kernel
theorem dL_law_739 : decode cL_law 739 = .ok (.iaload, 1) := by decide +kernel
theorem dL_law_740 : decode cL_law 740 = .ok (.invokevirtual 113, 3) := by decide +kernel
theorem dL_law_743 : decode cL_law 743 = .ok (.if_icmp .eq 5, 3) := by decide +kernel
theorem dL_law_746 : decode cL_law 746 = .ok (.iconst 0, 1) := by decide +kernel
theorem dL_law_747 : decode cL_law 747 = .ok (.ireturn, 1) := by decide +kernel
theorem dL_law_748 : decode cL_law 748 = .ok (.iinc 3 4, 3) := by decide +kernel
theorem dL_law_751 : decode cL_law 751 = .ok (.goto (-733), 3) := by decide +kernel
theorem dL_law_754 : decode cL_law 754 = .ok (.iconst 1, 1) := by decide +kernel
theorem dL_law_755 : decode cL_law 755 = .ok (.ireturn, 1) := by decide +kernel
abbrev vwCl : List vw_C := [(RX0, TX0, 2), (RX1, TX1, 8), (RX2, TX2, 4), (RX5, TX5, 13), (RX6, TX6, 10), (RX7, TX7, 19)]
end
section
/-! THE LAYER: one bundle of what a body knows, one judgement over worlds (no heap in sight), one row an instruction. -/
def BIG : List Cond := lw_tbl.filter goodWord
theorem big_good {w : Cond} (h : w ∈ BIG) : goodWord w = true := (List.mem_filter.mp h).2
theorem big_tbl {w : Cond} (h : w ∈ BIG) : w ∈ lw_tbl := (List.mem_filter.mp h).1
theorem big_in {w : Cond} (h : w ∈ lw_tbl) (g : goodWord w = true) : w ∈ BIG := List.mem_filter.mpr ⟨h, g⟩
def wB (cy : Cond) : List Cond := cy :: BIG
theorem goodB {ws : List Cond} (h : ∀ w ∈ ws, w ∈ BIG) : GoodIn BIG ws := fun w hw => ⟨h w hw, good_of_word (big_good (h w hw))⟩
theorem gB {cz : Cond} (h5 : cz ∈ BIG) : GoodIn BIG (wB cz) := goodB (fun w hw => (List.mem_cons.mp hw).elim (fun e => e ▸ h5) id)
theorem gV {own C : String} {idx : Nat} {z : MethodName} {cz : Cond} (h1 : Cond.methodLink own idx z ∈ BIG) (h2 : Cond.instanceMethod z ∈ BIG) (h3 : Cond.selects C z z ∈ BIG) (h4 : Cond.initialized C ∈ BIG) (h5 : cz ∈ BIG) : GoodIn BIG (wsV own idx C z (wB cz)) := goodB (by
  intro w hw
  rcases List.mem_append.mp (show w ∈ ([.methodLink own idx z, .instanceMethod z, .selects C z z, .initialized C] : List Cond) ++ wB cz from hw) with h | h
  · simp only [List.mem_cons, List.not_mem_nil, or_false] at h
    rcases h with rfl | rfl | rfl | rfl <;> assumption
  · exact (List.mem_cons.mp h).elim (fun e => e ▸ h5) id)
theorem gS {own : String} {idx : Nat} {z : MethodName} {cz : Cond} (h1 : Cond.methodLink own idx z ∈ BIG) (h2 : Cond.static z ∈ BIG) (h4 : Cond.initialized z.cls ∈ BIG) (h5 : cz ∈ BIG) : GoodIn BIG (va_wsS own idx z (wB cz)) := goodB (by
  intro w hw
  rcases List.mem_append.mp (show w ∈ ([.methodLink own idx z, .static z, .initialized z.cls] : List Cond) ++ wB cz from hw) with h | h
  · simp only [List.mem_cons, List.not_mem_nil, or_false] at h
    rcases h with rfl | rfl | rfl <;> assumption
  · exact (List.mem_cons.mp h).elim (fun e => e ▸ h5) id)
/-! ghosts that hold for a whole run: where the classes' slots lie, the array classes, the texts' addresses -/
abbrev GT : Type := va_G × ClassId × ClassId × ClassId × (Nat → Nat) × (Nat → Nat)
def gI (g : GT) : ClassId := g.2.1
def gC (g : GT) : ClassId := g.2.2.1
def gQ (g : GT) : ClassId := g.2.2.2.1
def gK (g : GT) : Nat → Nat := g.2.2.2.2.1
def gW (g : GT) : Nat → Nat := g.2.2.2.2.2
def gTys (g : GT) : List (ClassId × FieldType) := [(gI g, .int), (gC g, .char), (gQ g, .object "RootedDeltas$State")]
def lenS : List Nat := [4, 3, 3, 4, 4]
def bytS : List (List Int32) := [[109, 97, 107, 101], [109, 105, 120], [97, 115, 107], [114, 111, 111, 116], [106, 111, 105, 110]]
def idS : List Nat := [93, 95, 97, 99, 101]
def txS : List String := ["make", "mix", "ask", "root", "join"]
/-- what holds of the tables and of the cells that nobody writes -/
def GS (g : GT) (A : Nat → Prop) (U : State) (H : Heap) : Prop := va_K g.1 vwCl (gTys g) U ∧ vk_S 5 lenS bytS (gK g) (gW g) A U H ∧ (∀ i, i < 5 → vk_R "RootedDeltas$Orders" (idS.getD i 0) (txS.getD i "") (gK g i) U) ∧ va_Z "java/lang/String" "COMPACT_STRINGS" "Z" (.int 1) A U H ∧ va_Zq "jdk/internal/util/Preconditions" "SIOOBE_FORMATTER" "Ljava/util/function/BiFunction;" A U H
theorem GS.kept {g : GT} {A : Nat → Prop} {U : State} {H H1 : Heap} (h : GS g A U H) (hq : ∀ a : Nat, a < H.size → ¬ A a → H1[a]? = H[a]?) : GS g A U H1 := ⟨h.1, h.2.1.kept hq, h.2.2.1, h.2.2.2.1.kept hq, h.2.2.2.2.kept hq⟩
theorem GS.narrow {g : GT} {A B : Nat → Prop} {U : State} {H : Heap} (h : GS g A U H) (hAB : ∀ q, B q → A q) : GS g B U H := ⟨h.1, h.2.1.narrow hAB, h.2.2.1, h.2.2.2.1.narrow hAB, h.2.2.2.2.narrow hAB⟩
theorem GS.warm {g : GT} {A : Nat → Prop} {s U : State} {H : Heap} (hW : s.WarmedH U.vm) (h : GS g A s H) : GS g A U H := ⟨va_K.moved hW.alike h.1, vk_S.moved hW.alike h.2.1, fun i hi => (h.2.2.1 i hi).warm hW, va_Z.moved hW.alike h.2.2.2.1, va_Zq.moved hW.alike h.2.2.2.2⟩
theorem GS.same {g : GT} {A : Nat → Prop} {u U : State} {H : Heap} (hv : U.vm = u.vm) (h : GS g A u H) : GS g A U H := ⟨va_K.moved (by rw [hv]; exact Vm.Alike.refl u.vm) h.1, vk_S.moved (by rw [hv]; exact Vm.Alike.refl u.vm) h.2.1, fun i hi => (h.2.2.1 i hi).same hv, va_Z.moved (by rw [hv]; exact Vm.Alike.refl u.vm) h.2.2.2.1, va_Zq.moved (by rw [hv]; exact Vm.Alike.refl u.vm) h.2.2.2.2⟩
/-! locals by place -/
def lpairs : Nat → List (Option Value) → List (Nat × Value)
  | _, [] => []
  | i, none :: t => lpairs (i + 1) t
  | i, some v :: t => (i, v) :: lpairs (i + 1) t
theorem lpairs_mem : ∀ (L : List (Option Value)) (j i : Nat) (v : Value), (i, v) ∈ lpairs j L ↔ j ≤ i ∧ L[i - j]? = some (some v)
  | [], j, i, v => by simp [lpairs]
  | none :: t, j, i, v => by
    rw [lpairs, lpairs_mem t (j + 1) i v]
    constructor
    · rintro ⟨h1, h2⟩
      refine ⟨by omega, ?_⟩
      rw [show i - j = (i - (j + 1)) + 1 by omega]
      simpa using h2
    · rintro ⟨h1, h2⟩
      have h3 : i ≠ j := by
        rintro rfl
        simp at h2
      refine ⟨by omega, ?_⟩
      rw [show i - j = (i - (j + 1)) + 1 by omega] at h2
      simpa using h2
  | some w :: t, j, i, v => by
    rw [lpairs, List.mem_cons, lpairs_mem t (j + 1) i v]
    constructor
    · rintro (h | ⟨h1, h2⟩)
      · cases h
        simp
      · refine ⟨by omega, ?_⟩
        rw [show i - j = (i - (j + 1)) + 1 by omega]
        simpa using h2
    · rintro ⟨h1, h2⟩
      by_cases h3 : i = j
      · subst h3
        simp at h2
        exact Or.inl (by rw [h2])
      · right
        refine ⟨by omega, ?_⟩
        rw [show i - j = (i - (j + 1)) + 1 by omega] at h2
        simpa using h2
def lh (ls : Array Slot) (nL : Nat) (L : List (Option Value)) : Prop := L.length = nL ∧ (∀ v : Value, some v ∈ L → v.category = 1) ∧ lv_has ls nL (lpairs 0 L)
theorem lh_mem {L : List (Option Value)} {i : Nat} {v : Value} (hi : L[i]? = some (some v)) : (i, v) ∈ lpairs 0 L := (lpairs_mem L 0 i v).mpr ⟨Nat.zero_le i, by simpa using hi⟩
theorem lh_at {ls : Array Slot} {nL : Nat} {L : List (Option Value)} (h : lh ls nL L) {i : Nat} {v : Value} (hi : L[i]? = some (some v)) : ls[i]? = some (.val v) := h.2.2.2.2 (i, v) (lh_mem hi)
theorem lh_set {ls ls' : Array Slot} {nL : Nat} {L : List (Option Value)} (h : lh ls nL L) {i : Nat} {v : Value} (hc : v.category = 1) (h' : lv_has ls' nL ((i, v) :: (lpairs 0 L).filter (fun q => !(q.1 == i) && !(q.1 + 1 == i && q.2.category == 2)))) : lh ls' nL (L.set i (some v)) := by
  refine ⟨by rw [List.length_set]; exact h.1, fun w hw => ?_, h'.1, h'.2.1, fun q hq => ?_⟩
  · rcases List.mem_or_eq_of_mem_set hw with q | q
    · exact h.2.1 w q
    · cases q; exact hc
  · obtain ⟨j, w⟩ := q
    obtain ⟨-, hj⟩ := (lpairs_mem _ 0 j w).mp hq
    rw [Nat.sub_zero, List.getElem?_set] at hj
    refine h'.2.2 (j, w) ?_
    by_cases e : i = j
    · subst e
      rw [if_pos rfl] at hj
      split at hj
      · cases hj; exact List.mem_cons_self
      · cases hj
    · rw [if_neg e] at hj
      refine List.mem_cons_of_mem _ (List.mem_filter.mpr ⟨lh_mem hj, ?_⟩)
      have hc2 : w.category = 1 := h.2.1 w (List.mem_of_getElem? hj)
      have e2 : (j == i) = false := by simp; omega
      simp [e2, hc2]
theorem lh_entry (av : List Value) (n : Nat) (hc : ∀ v ∈ av, v.category = 1) (hn : av.length ≤ n) : lh ((lg_sl av ++ List.replicate (n - (lg_sl av).length) Slot.unset).toArray) n (av.map some ++ List.replicate (n - av.length) none) := by
  have hsl : ∀ (av : List Value), (∀ v ∈ av, v.category = 1) → (lg_sl av).length = av.length := by
    intro av
    induction av with
    | nil => intro _; rfl
    | cons v t ih =>
      intro h
      have h1 := h v List.mem_cons_self
      have h2 := ih (fun w hw => h w (List.mem_cons_of_mem _ hw))
      show (lg_sl (v :: t)).length = _
      unfold lg_sl at h2 ⊢
      rw [List.flatMap_cons, List.length_append, h2, if_neg (by omega)]
      simp; omega
  have hp : ∀ (av : List Value) (i : Nat), (∀ v ∈ av, v.category = 1) → ∀ q, q ∈ lpairs i (av.map some ++ List.replicate (n - av.length) none) → q ∈ lv_args i av := by
    intro av
    induction av with
    | nil =>
      intro i _ q hq
      obtain ⟨j, w⟩ := q
      obtain ⟨-, h⟩ := (lpairs_mem _ i j w).mp hq
      have := List.mem_of_getElem? h
      simp at this
    | cons v t ih =>
      intro i h q hq
      have h1 := h v List.mem_cons_self
      obtain ⟨j, w⟩ := q
      obtain ⟨h3, h4⟩ := (lpairs_mem _ i j w).mp hq
      rw [lv_args, if_neg (by omega)]
      by_cases e : j = i
      · subst e
        simp at h4
        rw [h4]
        exact List.mem_cons_self
      · refine List.mem_cons_of_mem _ (ih (i + 1) (fun w hw => h w (List.mem_cons_of_mem _ hw)) (j, w) ((lpairs_mem _ (i + 1) j w).mpr ⟨by omega, ?_⟩))
        rw [show j - i = (j - (i + 1)) + 1 by omega] at h4
        have hz : (t.map some ++ List.replicate (n - t.length) (none : Option Value))[j - (i + 1)]? = some (some w) := by
          have h5 : (t.map some ++ List.replicate (n - (t.length + 1)) (none : Option Value))[j - (i + 1)]? = some (some w) := by simpa using h4
          by_cases hl : j - (i + 1) < t.length
          · rw [List.getElem?_append_left (by simpa using hl)] at h5 ⊢
            exact h5
          · rw [List.getElem?_append_right (by simpa using hl)] at h5
            have := List.mem_of_getElem? h5
            simp at this
        exact hz
  have h0 := lv_entry av (n := n) (by rw [hsl av hc]; exact hn)
  refine ⟨by simp; omega, fun v hv => ?_, h0.1, h0.2.1, fun q hq => h0.2.2 q (hp av 0 hc q hq)⟩
  rcases List.mem_append.mp hv with h | h
  · obtain ⟨w, hw, e⟩ := List.mem_map.mp h
    cases e
    exact hc v hw
  · simp at h
/-! the bundle of a body: k; its parts by name -/
abbrev KT : Type := Program × Launch × Env × Room × State × MethodId × Array Value × List Frame × Method × Code × GT × (Nat → Prop) × (Heap → List Loc → Prop) × (State → Prop) × Nat
def kp (k : KT) : Program := k.1
def kl (k : KT) : Launch := k.2.1
def ke (k : KT) : Env := k.2.2.1
def kR (k : KT) : Room := k.2.2.2.1
def ks (k : KT) : State := k.2.2.2.2.1
def km (k : KT) : MethodId := k.2.2.2.2.2.1
def kar (k : KT) : Array Value := k.2.2.2.2.2.2.1
def kbe (k : KT) : List Frame := k.2.2.2.2.2.2.2.1
def kme (k : KT) : Method := k.2.2.2.2.2.2.2.2.1
def kc (k : KT) : Code := k.2.2.2.2.2.2.2.2.2.1
def kg (k : KT) : GT := k.2.2.2.2.2.2.2.2.2.2.1
def kA (k : KT) : Nat → Prop := k.2.2.2.2.2.2.2.2.2.2.2.1
def kH (k : KT) : Heap → List Loc → Prop := k.2.2.2.2.2.2.2.2.2.2.2.2.1
def kQ (k : KT) : State → Prop := k.2.2.2.2.2.2.2.2.2.2.2.2.2.1
def kn (k : KT) : Nat := k.2.2.2.2.2.2.2.2.2.2.2.2.2.2
/-- from any heap that holds the world w, with these locals and this stack, the body goes on at pc to its end -/
def X (k : KT) (cs sl : Nat) (w : va_W) (pc : Nat) (L : List (Option Value)) (st : List Value) : Prop :=
  ∀ (H : Heap) (locs : List Loc) (ls : Array Slot), va_P (kg k).1 vwCl w H → va_D (kA k) w → kH k H locs → lh ls (kn k) L → W (kp k) (kl k) (ke k) (kR k) (ks k) (km k) (kar k) (kbe k) (kme k) (kc k) H locs cs sl (kQ k) (F0 (km k) pc ls st)
def rmd (d mc ms : Nat) : Room := { frames := d, cells := mc, slots := ms, locals := 36 * d }
/-- what a body knows: its class, its bytes, what it answers, how deep it may call, what it may make, what is due at its end -/
def Ck (k : KT) (own : String) (cc : ByteArray) (ret : Option FieldType) (d mc ms : Nat) (post : Option Value → va_W → Prop) : Prop :=
  (kp k).tables.exec = Jvm.exec ∧ (kc k).code = cc ∧ (kme k).sig.returnType = ret ∧ (kc k).maxLocals = kn k ∧ (ks k).vm.findClass own = some (km k).cls ∧ (∀ w ∈ BIG, w.before (kar k) (ks k) = true) ∧ (kme k).locks = false ∧
  GS (kg k) (kA k) (ks k) (ks k).heap ∧ (∀ H locs, kH k H locs → (ks k).heap.size ≤ H.size ∧ ∀ q : Nat, q < (ks k).heap.size → ¬ kA k q → H[q]? = (ks k).heap[q]?) ∧ kR k = rmd d mc ms ∧
  ∃ (Qc : Array Value → State → Outcome → State → Prop) (free : Addr → Prop), kQ k = MQ (kbe k) Qc (kar k) (ks k) mc ms free ∧ (∀ H locs, kH k H locs → ∀ q ∈ locs, free q.base) ∧
    ∀ (H : Heap) (locs : List Loc) (v : Option Value) (w : va_W) (t : State), va_P (kg k).1 vwCl w H → va_D (kA k) w → kH k H locs → post v w → t.heap = H → (ks k).WarmedH t.vm → Qc (kar k) (ks k) (.returned v) t
/-- a body that may write its world -/
def Cw (k : KT) : Prop := kH k = va_S (kA k) (ks k).heap ∧ ∀ q : Nat, (ks k).heap.size ≤ q → kA k q
section RULES
variable {k : KT} {own : String} {cc : ByteArray} {ret : Option FieldType} {d mc ms : Nat} {post : Option Value → va_W → Prop} {cs sl : Nat} {w : va_W} {pc pc' : Nat} {L L' : List (Option Value)} {st : List Value}
theorem x_widen {cs' sl' : Nat} (h1 : cs ≤ cs') (h2 : sl ≤ sl') (kk : X k cs' sl' w pc L st) : X k cs sl w pc L st := fun H locs ls hP hD hS hl => W.widen h1 h2 (kk H locs ls hP hD hS hl)
/-- another value, the same one -/
theorem x_cv {x y : Int32} (e : x = y) (kk : X k cs sl w pc L (.int y :: st)) : X k cs sl w pc L (.int x :: st) := e ▸ kk
theorem x_topi {x : Int32} (kk : ∀ y : Int32, y = x → X k cs sl w pc L (.int y :: st)) : X k cs sl w pc L (.int x :: st) := kk x rfl
theorem x_perm (is : List Nat) {w' : va_W} (hn : va_nd is = true) (hs : is.map (fun i => w[i]?) = w'.map some) (kk : X k cs sl w' pc L st) : X k cs sl w pc L st := fun H locs ls hP hD hS hl => kk H locs ls (hP.sub is (by
  have e : ∀ (is : List Nat) (w' : va_W), is.map (fun i => w[i]?) = w'.map some → is.filterMap (fun i => w[i]?) = w' := by
    intro is
    induction is with
    | nil => intro w' h; cases w' with
      | nil => rfl
      | cons a t => simp at h
    | cons i t ih => intro w' h; cases w' with
      | nil => simp at h
      | cons a u =>
        rw [List.map_cons, List.map_cons] at h
        have h1 := List.cons.inj h
        rw [List.filterMap_cons, h1.1, ih u h1.2]
  exact e is w' hs)) (hD.sub is hn hs) hS hl
theorem x_loc {w' : va_W} (e : w = w') (kk : X k cs sl w' pc L st) : X k cs sl w pc L st := e ▸ kk
theorem x_loc2 (e : L = L') (kk : X k cs sl w pc L' st) : X k cs sl w pc L st := e ▸ kk

theorem x_iconst (C : Ck k own cc ret d mc ms post) {n : Int} {v : Int32} (hd : decode cc pc = .ok (.iconst n, 1)) (hp : pc + 1 = pc') (hv : Int32.ofInt n = v) (kk : X k cs sl w pc' L (.int v :: st)) : X k cs sl w pc L (st) := fun H locs ls hP hD hS hl => lv_iconst C.1 C.2.1 hd hv (hp ▸ kk H locs ls hP hD hS hl)
theorem x_bipush (C : Ck k own cc ret d mc ms post) {n : Int} {v : Int32} (hd : decode cc pc = .ok (.bipush n, 2)) (hp : pc + 2 = pc') (hv : (Int8.ofInt n).toInt32 = v) (kk : X k cs sl w pc' L (.int v :: st)) : X k cs sl w pc L (st) := fun H locs ls hP hD hS hl => lv_bipush C.1 C.2.1 hd hv (hp ▸ kk H locs ls hP hD hS hl)
theorem x_sipush (C : Ck k own cc ret d mc ms post) {n : Int} {v : Int32} (hd : decode cc pc = .ok (.sipush n, 3)) (hp : pc + 3 = pc') (hv : (Int16.ofInt n).toInt32 = v) (kk : X k cs sl w pc' L (.int v :: st)) : X k cs sl w pc L (st) := fun H locs ls hP hD hS hl => lv_sipush C.1 C.2.1 hd hv (hp ▸ kk H locs ls hP hD hS hl)
theorem x_null (C : Ck k own cc ret d mc ms post)  (hd : decode cc pc = .ok (.aconst_null, 1)) (hp : pc + 1 = pc')  (kk : X k cs sl w pc' L (.null :: st)) : X k cs sl w pc L (st) := fun H locs ls hP hD hS hl => lv_null C.1 C.2.1 hd (hp ▸ kk H locs ls hP hD hS hl)
theorem x_iload_n (C : Ck k own cc ret d mc ms post) {f : Fin 4} {i : Nat} {x : Int32} (hd : decode cc pc = .ok (.iload_n f, 1)) (hp : pc + 1 = pc') (hi : (f : Nat) = i) (hx : L[i]? = some (some (.int x))) (kk : X k cs sl w pc' L (.int x :: st)) : X k cs sl w pc L (st) := fun H locs ls hP hD hS hl => lv_iload_n C.1 C.2.1 hd hi (lh_at hl hx) (hp ▸ kk H locs ls hP hD hS hl)
theorem x_iload (C : Ck k own cc ret d mc ms post) {i : Nat} {x : Int32} (hd : decode cc pc = .ok (.iload i, 2)) (hp : pc + 2 = pc') (hx : L[i]? = some (some (.int x))) (kk : X k cs sl w pc' L (.int x :: st)) : X k cs sl w pc L (st) := fun H locs ls hP hD hS hl => lv_iload C.1 C.2.1 hd (lh_at hl hx) (hp ▸ kk H locs ls hP hD hS hl)
theorem x_aload_n (C : Ck k own cc ret d mc ms post) {f : Fin 4} {i : Nat} {x : Nat} (hd : decode cc pc = .ok (.aload_n f, 1)) (hp : pc + 1 = pc') (hi : (f : Nat) = i) (hx : L[i]? = some (some (.ref x))) (kk : X k cs sl w pc' L (.ref x :: st)) : X k cs sl w pc L (st) := fun H locs ls hP hD hS hl => lv_aload_n C.1 C.2.1 hd hi (lh_at hl hx) (hp ▸ kk H locs ls hP hD hS hl)
theorem x_aload (C : Ck k own cc ret d mc ms post) {i : Nat} {x : Nat} (hd : decode cc pc = .ok (.aload i, 2)) (hp : pc + 2 = pc') (hx : L[i]? = some (some (.ref x))) (kk : X k cs sl w pc' L (.ref x :: st)) : X k cs sl w pc L (st) := fun H locs ls hP hD hS hl => lv_aload C.1 C.2.1 hd (lh_at hl hx) (hp ▸ kk H locs ls hP hD hS hl)
theorem x_aload_nN (C : Ck k own cc ret d mc ms post) {f : Fin 4} {i : Nat} (hd : decode cc pc = .ok (.aload_n f, 1)) (hp : pc + 1 = pc') (hi : (f : Nat) = i) (hx : L[i]? = some (some .null)) (kk : X k cs sl w pc' L (.null :: st)) : X k cs sl w pc L (st) := fun H locs ls hP hD hS hl => lv_aload_nN C.1 C.2.1 hd hi (lh_at hl hx) (hp ▸ kk H locs ls hP hD hS hl)
theorem x_istore_n (C : Ck k own cc ret d mc ms post) {f : Fin 4} {i : Nat} {x : Int32} (hd : decode cc pc = .ok (.istore_n f, 1)) (hp : pc + 1 = pc') (hi : (f : Nat) = i) (hn : i < L.length) (hL : L.set i (some (.int x)) = L') (kk : X k cs sl w pc' L' st) : X k cs sl w pc L (.int x :: st) := fun H locs ls hP hD hS hl => lv_istore_n C.1 C.2.1 hd hi hl.2.2 (hl.1 ▸ hn) rfl (fun ls' h' => hp ▸ kk H locs ls' hP hD hS (hL ▸ lh_set hl rfl h'))
theorem x_istore (C : Ck k own cc ret d mc ms post) {i : Nat} {x : Int32} (hd : decode cc pc = .ok (.istore i, 2)) (hp : pc + 2 = pc')  (hn : i < L.length) (hL : L.set i (some (.int x)) = L') (kk : X k cs sl w pc' L' st) : X k cs sl w pc L (.int x :: st) := fun H locs ls hP hD hS hl => lv_istore C.1 C.2.1 hd hl.2.2 (hl.1 ▸ hn) rfl (fun ls' h' => hp ▸ kk H locs ls' hP hD hS (hL ▸ lh_set hl rfl h'))
theorem x_astore_n (C : Ck k own cc ret d mc ms post) {f : Fin 4} {i : Nat} {x : Nat} (hd : decode cc pc = .ok (.astore_n f, 1)) (hp : pc + 1 = pc') (hi : (f : Nat) = i) (hn : i < L.length) (hL : L.set i (some (.ref x)) = L') (kk : X k cs sl w pc' L' st) : X k cs sl w pc L (.ref x :: st) := fun H locs ls hP hD hS hl => lv_astore_n C.1 C.2.1 hd hi hl.2.2 (hl.1 ▸ hn) rfl (fun ls' h' => hp ▸ kk H locs ls' hP hD hS (hL ▸ lh_set hl rfl h'))
theorem x_astore (C : Ck k own cc ret d mc ms post) {i : Nat} {x : Nat} (hd : decode cc pc = .ok (.astore i, 2)) (hp : pc + 2 = pc')  (hn : i < L.length) (hL : L.set i (some (.ref x)) = L') (kk : X k cs sl w pc' L' st) : X k cs sl w pc L (.ref x :: st) := fun H locs ls hP hD hS hl => lv_astore C.1 C.2.1 hd hl.2.2 (hl.1 ▸ hn) rfl (fun ls' h' => hp ▸ kk H locs ls' hP hD hS (hL ▸ lh_set hl rfl h'))
theorem x_astore_nN (C : Ck k own cc ret d mc ms post) {f : Fin 4} {i : Nat} (hd : decode cc pc = .ok (.astore_n f, 1)) (hp : pc + 1 = pc') (hi : (f : Nat) = i) (hn : i < L.length) (hL : L.set i (some (.null)) = L') (kk : X k cs sl w pc' L' st) : X k cs sl w pc L (.null :: st) := fun H locs ls hP hD hS hl => lv_astore_nN C.1 C.2.1 hd hi hl.2.2 (hl.1 ▸ hn) rfl (fun ls' h' => hp ▸ kk H locs ls' hP hD hS (hL ▸ lh_set hl rfl h'))
theorem x_iinc (C : Ck k own cc ret d mc ms post) {i : Nat} {n : Int} {x v : Int32} (hd : decode cc pc = .ok (.iinc i n, 3)) (hp : pc + 3 = pc') (hx : L[i]? = some (some (.int x))) (hv : x + Int32.ofInt n = v) (hn : i < L.length) (hL : L.set i (some (.int v)) = L') (kk : X k cs sl w pc' L' st) : X k cs sl w pc L st := fun H locs ls hP hD hS hl => by
  obtain ⟨j, hj⟩ := List.getElem?_of_mem (lh_mem hx)
  exact lv_iinc C.1 C.2.1 hd hl.2.2 hj hv (hl.1 ▸ hn) rfl (fun ls' h' => hp ▸ kk H locs ls' hP hD hS (hL ▸ lh_set hl rfl h'))
theorem x_iadd (C : Ck k own cc ret d mc ms post) {x y v : Int32} (hd : decode cc pc = .ok (.iadd, 1)) (hp : pc + 1 = pc') (hv : x + y = v) (kk : X k cs sl w pc' L (.int v :: st)) : X k cs sl w pc L (.int y :: .int x :: st) := fun H locs ls hP hD hS hl => lv_iadd C.1 C.2.1 hd (by rw [hv]; exact hp ▸ kk H locs ls hP hD hS hl)
theorem x_isub (C : Ck k own cc ret d mc ms post) {x y v : Int32} (hd : decode cc pc = .ok (.isub, 1)) (hp : pc + 1 = pc') (hv : x - y = v) (kk : X k cs sl w pc' L (.int v :: st)) : X k cs sl w pc L (.int y :: .int x :: st) := fun H locs ls hP hD hS hl => lv_isub C.1 C.2.1 hd (by rw [hv]; exact hp ▸ kk H locs ls hP hD hS hl)
theorem x_imul (C : Ck k own cc ret d mc ms post) {x y v : Int32} (hd : decode cc pc = .ok (.imul, 1)) (hp : pc + 1 = pc') (hv : x * y = v) (kk : X k cs sl w pc' L (.int v :: st)) : X k cs sl w pc L (.int y :: .int x :: st) := fun H locs ls hP hD hS hl => lv_imul C.1 C.2.1 hd (by rw [hv]; exact hp ▸ kk H locs ls hP hD hS hl)
theorem x_iand (C : Ck k own cc ret d mc ms post) {x y v : Int32} (hd : decode cc pc = .ok (.iand, 1)) (hp : pc + 1 = pc') (hv : x &&& y = v) (kk : X k cs sl w pc' L (.int v :: st)) : X k cs sl w pc L (.int y :: .int x :: st) := fun H locs ls hP hD hS hl => lv_iand C.1 C.2.1 hd (by rw [hv]; exact hp ▸ kk H locs ls hP hD hS hl)
theorem x_ior (C : Ck k own cc ret d mc ms post) {x y v : Int32} (hd : decode cc pc = .ok (.ior, 1)) (hp : pc + 1 = pc') (hv : x ||| y = v) (kk : X k cs sl w pc' L (.int v :: st)) : X k cs sl w pc L (.int y :: .int x :: st) := fun H locs ls hP hD hS hl => lv_ior C.1 C.2.1 hd (by rw [hv]; exact hp ▸ kk H locs ls hP hD hS hl)
theorem x_ixor (C : Ck k own cc ret d mc ms post) {x y v : Int32} (hd : decode cc pc = .ok (.ixor, 1)) (hp : pc + 1 = pc') (hv : x ^^^ y = v) (kk : X k cs sl w pc' L (.int v :: st)) : X k cs sl w pc L (.int y :: .int x :: st) := fun H locs ls hP hD hS hl => lv_ixor C.1 C.2.1 hd (by rw [hv]; exact hp ▸ kk H locs ls hP hD hS hl)
theorem x_ishl (C : Ck k own cc ret d mc ms post) {x y v : Int32} (hd : decode cc pc = .ok (.ishl, 1)) (hp : pc + 1 = pc') (hv : x <<< (y &&& 31) = v) (kk : X k cs sl w pc' L (.int v :: st)) : X k cs sl w pc L (.int y :: .int x :: st) := fun H locs ls hP hD hS hl => lv_ishl C.1 C.2.1 hd (by rw [hv]; exact hp ▸ kk H locs ls hP hD hS hl)
theorem x_ishr (C : Ck k own cc ret d mc ms post) {x y v : Int32} (hd : decode cc pc = .ok (.ishr, 1)) (hp : pc + 1 = pc') (hv : x >>> (y &&& 31) = v) (kk : X k cs sl w pc' L (.int v :: st)) : X k cs sl w pc L (.int y :: .int x :: st) := fun H locs ls hP hD hS hl => lv_ishr C.1 C.2.1 hd (by rw [hv]; exact hp ▸ kk H locs ls hP hD hS hl)
theorem x_iushr (C : Ck k own cc ret d mc ms post) {x y v : Int32} (hd : decode cc pc = .ok (.iushr, 1)) (hp : pc + 1 = pc') (hv : (x.toUInt32 >>> (y.toUInt32 &&& Int32.toUInt32 31)).toInt32 = v) (kk : X k cs sl w pc' L (.int v :: st)) : X k cs sl w pc L (.int y :: .int x :: st) := fun H locs ls hP hD hS hl => lv_iushr C.1 C.2.1 hd hv (hp ▸ kk H locs ls hP hD hS hl)
theorem x_ineg (C : Ck k own cc ret d mc ms post) {x v : Int32} (hd : decode cc pc = .ok (.ineg, 1)) (hp : pc + 1 = pc') (hv : -x = v) (kk : X k cs sl w pc' L (.int v :: st)) : X k cs sl w pc L (.int x :: st) := fun H locs ls hP hD hS hl => lv_ineg C.1 C.2.1 hd (by rw [hv]; exact hp ▸ kk H locs ls hP hD hS hl)
theorem x_i2c (C : Ck k own cc ret d mc ms post) {x v : Int32} (hd : decode cc pc = .ok (.i2c, 1)) (hp : pc + 1 = pc') (hv : (x.toUInt32 % 65536).toInt32 = v) (kk : X k cs sl w pc' L (.int v :: st)) : X k cs sl w pc L (.int x :: st) := fun H locs ls hP hD hS hl => lv_i2c C.1 C.2.1 hd hv (hp ▸ kk H locs ls hP hD hS hl)
theorem x_dup (C : Ck k own cc ret d mc ms post) {v : Value} (hd : decode cc pc = .ok (.dup, 1)) (hp : pc + 1 = pc') (hc : v.category = 1) (kk : X k cs sl w pc' L (v :: v :: st)) : X k cs sl w pc L (v :: st) := fun H locs ls hP hD hS hl => lv_dup C.1 C.2.1 hd hc (hp ▸ kk H locs ls hP hD hS hl)
theorem x_dup2 (C : Ck k own cc ret d mc ms post) {v u : Value} (hd : decode cc pc = .ok (.dup2, 1)) (hp : pc + 1 = pc') (hc : v.category = 1) (hc2 : u.category = 1) (kk : X k cs sl w pc' L (v :: u :: v :: u :: st)) : X k cs sl w pc L (v :: u :: st) := fun H locs ls hP hD hS hl => lv_dup2_11 C.1 C.2.1 hd hc hc2 (hp ▸ kk H locs ls hP hD hS hl)
theorem x_goto (C : Ck k own cc ret d mc ms post) {off : Int} {tgt : Nat} (hd : decode cc pc = .ok (.goto off, 3)) (ht : (pc : Int) + off = (tgt : Int)) (kk : X k cs sl w tgt L st) : X k cs sl w pc L st := fun H locs ls hP hD hS hl => lv_goto C.1 C.2.1 hd ht (kk H locs ls hP hD hS hl)
theorem x_if_eq (C : Ck k own cc ret d mc ms post) {x : Int32} {off : Int} {tgt : Nat} (hd : decode cc pc = .ok (.ifCond .eq off, 3)) (ht : (pc : Int) + off = (tgt : Int)) (hp : pc + 3 = pc') (kt : (x = 0) → X k cs sl w tgt L st) (kf : ¬ (x = 0) → X k cs sl w pc' L st) : X k cs sl w pc L (.int x :: st) := fun H locs ls hP hD hS hl => lv_if_eq C.1 C.2.1 hd ht (fun h => kt (by simpa using h) H locs ls hP hD hS hl) (fun h => hp ▸ kf (by simpa using h) H locs ls hP hD hS hl)
theorem x_icmp_eq (C : Ck k own cc ret d mc ms post) {x y : Int32} {off : Int} {tgt : Nat} (hd : decode cc pc = .ok (.if_icmp .eq off, 3)) (ht : (pc : Int) + off = (tgt : Int)) (hp : pc + 3 = pc') (kt : (x = y) → X k cs sl w tgt L st) (kf : ¬ (x = y) → X k cs sl w pc' L st) : X k cs sl w pc L (.int y :: .int x :: st) := fun H locs ls hP hD hS hl => lv_icmp_eq C.1 C.2.1 hd ht (fun h => kt (by simpa using h) H locs ls hP hD hS hl) (fun h => hp ▸ kf (by simpa using h) H locs ls hP hD hS hl)
theorem x_if_ne (C : Ck k own cc ret d mc ms post) {x : Int32} {off : Int} {tgt : Nat} (hd : decode cc pc = .ok (.ifCond .ne off, 3)) (ht : (pc : Int) + off = (tgt : Int)) (hp : pc + 3 = pc') (kt : ¬ (x = 0) → X k cs sl w tgt L st) (kf : (x = 0) → X k cs sl w pc' L st) : X k cs sl w pc L (.int x :: st) := fun H locs ls hP hD hS hl => lv_if_ne C.1 C.2.1 hd ht (fun h => kt (by simpa using h) H locs ls hP hD hS hl) (fun h => hp ▸ kf (Classical.not_not.mp (by simpa using h)) H locs ls hP hD hS hl)
theorem x_icmp_ne (C : Ck k own cc ret d mc ms post) {x y : Int32} {off : Int} {tgt : Nat} (hd : decode cc pc = .ok (.if_icmp .ne off, 3)) (ht : (pc : Int) + off = (tgt : Int)) (hp : pc + 3 = pc') (kt : ¬ (x = y) → X k cs sl w tgt L st) (kf : (x = y) → X k cs sl w pc' L st) : X k cs sl w pc L (.int y :: .int x :: st) := fun H locs ls hP hD hS hl => lv_icmp_ne C.1 C.2.1 hd ht (fun h => kt (by simpa using h) H locs ls hP hD hS hl) (fun h => hp ▸ kf (Classical.not_not.mp (by simpa using h)) H locs ls hP hD hS hl)
theorem x_if_lt (C : Ck k own cc ret d mc ms post) {x : Int32} {off : Int} {tgt : Nat} (hd : decode cc pc = .ok (.ifCond .lt off, 3)) (ht : (pc : Int) + off = (tgt : Int)) (hp : pc + 3 = pc') (kt : (x < 0) → X k cs sl w tgt L st) (kf : ¬ (x < 0) → X k cs sl w pc' L st) : X k cs sl w pc L (.int x :: st) := fun H locs ls hP hD hS hl => lv_if_lt C.1 C.2.1 hd ht (fun h => kt (by simpa using h) H locs ls hP hD hS hl) (fun h => hp ▸ kf (by simpa using h) H locs ls hP hD hS hl)
theorem x_icmp_lt (C : Ck k own cc ret d mc ms post) {x y : Int32} {off : Int} {tgt : Nat} (hd : decode cc pc = .ok (.if_icmp .lt off, 3)) (ht : (pc : Int) + off = (tgt : Int)) (hp : pc + 3 = pc') (kt : (x < y) → X k cs sl w tgt L st) (kf : ¬ (x < y) → X k cs sl w pc' L st) : X k cs sl w pc L (.int y :: .int x :: st) := fun H locs ls hP hD hS hl => lv_icmp_lt C.1 C.2.1 hd ht (fun h => kt (by simpa using h) H locs ls hP hD hS hl) (fun h => hp ▸ kf (by simpa using h) H locs ls hP hD hS hl)
theorem x_if_ge (C : Ck k own cc ret d mc ms post) {x : Int32} {off : Int} {tgt : Nat} (hd : decode cc pc = .ok (.ifCond .ge off, 3)) (ht : (pc : Int) + off = (tgt : Int)) (hp : pc + 3 = pc') (kt : ¬ (x < 0) → X k cs sl w tgt L st) (kf : (x < 0) → X k cs sl w pc' L st) : X k cs sl w pc L (.int x :: st) := fun H locs ls hP hD hS hl => lv_if_ge C.1 C.2.1 hd ht (fun h => kt (Int32.not_lt.mpr (by simpa using h)) H locs ls hP hD hS hl) (fun h => hp ▸ kf (Int32.not_le.mp (by simpa using h)) H locs ls hP hD hS hl)
theorem x_icmp_ge (C : Ck k own cc ret d mc ms post) {x y : Int32} {off : Int} {tgt : Nat} (hd : decode cc pc = .ok (.if_icmp .ge off, 3)) (ht : (pc : Int) + off = (tgt : Int)) (hp : pc + 3 = pc') (kt : ¬ (x < y) → X k cs sl w tgt L st) (kf : (x < y) → X k cs sl w pc' L st) : X k cs sl w pc L (.int y :: .int x :: st) := fun H locs ls hP hD hS hl => lv_icmp_ge C.1 C.2.1 hd ht (fun h => kt (Int32.not_lt.mpr (by simpa using h)) H locs ls hP hD hS hl) (fun h => hp ▸ kf (Int32.not_le.mp (by simpa using h)) H locs ls hP hD hS hl)
theorem x_if_gt (C : Ck k own cc ret d mc ms post) {x : Int32} {off : Int} {tgt : Nat} (hd : decode cc pc = .ok (.ifCond .gt off, 3)) (ht : (pc : Int) + off = (tgt : Int)) (hp : pc + 3 = pc') (kt : (0 < x) → X k cs sl w tgt L st) (kf : ¬ (0 < x) → X k cs sl w pc' L st) : X k cs sl w pc L (.int x :: st) := fun H locs ls hP hD hS hl => lv_if_gt C.1 C.2.1 hd ht (fun h => kt (by simpa using h) H locs ls hP hD hS hl) (fun h => hp ▸ kf (by simpa using h) H locs ls hP hD hS hl)
theorem x_icmp_gt (C : Ck k own cc ret d mc ms post) {x y : Int32} {off : Int} {tgt : Nat} (hd : decode cc pc = .ok (.if_icmp .gt off, 3)) (ht : (pc : Int) + off = (tgt : Int)) (hp : pc + 3 = pc') (kt : (y < x) → X k cs sl w tgt L st) (kf : ¬ (y < x) → X k cs sl w pc' L st) : X k cs sl w pc L (.int y :: .int x :: st) := fun H locs ls hP hD hS hl => lv_icmp_gt C.1 C.2.1 hd ht (fun h => kt (by simpa using h) H locs ls hP hD hS hl) (fun h => hp ▸ kf (by simpa using h) H locs ls hP hD hS hl)
theorem x_if_le (C : Ck k own cc ret d mc ms post) {x : Int32} {off : Int} {tgt : Nat} (hd : decode cc pc = .ok (.ifCond .le off, 3)) (ht : (pc : Int) + off = (tgt : Int)) (hp : pc + 3 = pc') (kt : ¬ (0 < x) → X k cs sl w tgt L st) (kf : (0 < x) → X k cs sl w pc' L st) : X k cs sl w pc L (.int x :: st) := fun H locs ls hP hD hS hl => lv_if_le C.1 C.2.1 hd ht (fun h => kt (Int32.not_lt.mpr (by simpa using h)) H locs ls hP hD hS hl) (fun h => hp ▸ kf (Int32.not_le.mp (by simpa using h)) H locs ls hP hD hS hl)
theorem x_icmp_le (C : Ck k own cc ret d mc ms post) {x y : Int32} {off : Int} {tgt : Nat} (hd : decode cc pc = .ok (.if_icmp .le off, 3)) (ht : (pc : Int) + off = (tgt : Int)) (hp : pc + 3 = pc') (kt : ¬ (y < x) → X k cs sl w tgt L st) (kf : (y < x) → X k cs sl w pc' L st) : X k cs sl w pc L (.int y :: .int x :: st) := fun H locs ls hP hD hS hl => lv_icmp_le C.1 C.2.1 hd ht (fun h => kt (Int32.not_lt.mpr (by simpa using h)) H locs ls hP hD hS hl) (fun h => hp ▸ kf (Int32.not_le.mp (by simpa using h)) H locs ls hP hD hS hl)
theorem x_icmpN_eq (C : Ck k own cc ret d mc ms post) {off : Int} {tgt : Nat} (a b : Nat) (hd : decode cc pc = .ok (.if_icmp .eq off, 3)) (ht : (pc : Int) + off = (tgt : Int)) (hp : pc + 3 = pc') (ha : a < 2 ^ 31) (hb : b < 2 ^ 31) (kt : (a = b) → X k cs sl w tgt L st) (kf : ¬ (a = b) → X k cs sl w pc' L st) : X k cs sl w pc L (.int (nI b) :: .int (nI a) :: st) := x_icmp_eq C hd ht hp (fun h => kt ((nI_eq ha hb).mp h)) (fun h => kf (fun q => h ((nI_eq ha hb).mpr q)))
theorem x_ifN_eq (C : Ck k own cc ret d mc ms post) {off : Int} {tgt : Nat} (a : Nat) (hd : decode cc pc = .ok (.ifCond .eq off, 3)) (ht : (pc : Int) + off = (tgt : Int)) (hp : pc + 3 = pc') (ha : a < 2 ^ 31) (kt : (a = 0) → X k cs sl w tgt L st) (kf : ¬ (a = 0) → X k cs sl w pc' L st) : X k cs sl w pc L (.int (nI a) :: st) := x_if_eq C hd ht hp (fun h => kt ((nI_eq ha (show 0 < 2 ^ 31 by decide)).mp h)) (fun h => kf (fun q => h ((nI_eq ha (show 0 < 2 ^ 31 by decide)).mpr q)))
theorem x_icmpN_ne (C : Ck k own cc ret d mc ms post) {off : Int} {tgt : Nat} (a b : Nat) (hd : decode cc pc = .ok (.if_icmp .ne off, 3)) (ht : (pc : Int) + off = (tgt : Int)) (hp : pc + 3 = pc') (ha : a < 2 ^ 31) (hb : b < 2 ^ 31) (kt : ¬ (a = b) → X k cs sl w tgt L st) (kf : (a = b) → X k cs sl w pc' L st) : X k cs sl w pc L (.int (nI b) :: .int (nI a) :: st) := x_icmp_ne C hd ht hp (fun h => kt (fun q => h ((nI_eq ha hb).mpr q))) (fun h => kf ((nI_eq ha hb).mp h))
theorem x_ifN_ne (C : Ck k own cc ret d mc ms post) {off : Int} {tgt : Nat} (a : Nat) (hd : decode cc pc = .ok (.ifCond .ne off, 3)) (ht : (pc : Int) + off = (tgt : Int)) (hp : pc + 3 = pc') (ha : a < 2 ^ 31) (kt : ¬ (a = 0) → X k cs sl w tgt L st) (kf : (a = 0) → X k cs sl w pc' L st) : X k cs sl w pc L (.int (nI a) :: st) := x_if_ne C hd ht hp (fun h => kt (fun q => h ((nI_eq ha (show 0 < 2 ^ 31 by decide)).mpr q))) (fun h => kf ((nI_eq ha (show 0 < 2 ^ 31 by decide)).mp h))
theorem x_icmpN_lt (C : Ck k own cc ret d mc ms post) {off : Int} {tgt : Nat} (a b : Nat) (hd : decode cc pc = .ok (.if_icmp .lt off, 3)) (ht : (pc : Int) + off = (tgt : Int)) (hp : pc + 3 = pc') (ha : a < 2 ^ 31) (hb : b < 2 ^ 31) (kt : (a < b) → X k cs sl w tgt L st) (kf : ¬ (a < b) → X k cs sl w pc' L st) : X k cs sl w pc L (.int (nI b) :: .int (nI a) :: st) := x_icmp_lt C hd ht hp (fun h => kt ((nI_ltI ha hb).mp h)) (fun h => kf (fun q => h ((nI_ltI ha hb).mpr q)))
theorem x_ifN_lt (C : Ck k own cc ret d mc ms post) {off : Int} {tgt : Nat} (a : Nat) (hd : decode cc pc = .ok (.ifCond .lt off, 3)) (ht : (pc : Int) + off = (tgt : Int)) (hp : pc + 3 = pc') (ha : a < 2 ^ 31) (kt : (a < 0) → X k cs sl w tgt L st) (kf : ¬ (a < 0) → X k cs sl w pc' L st) : X k cs sl w pc L (.int (nI a) :: st) := x_if_lt C hd ht hp (fun h => kt ((nI_ltI ha (show 0 < 2 ^ 31 by decide)).mp h)) (fun h => kf (fun q => h ((nI_ltI ha (show 0 < 2 ^ 31 by decide)).mpr q)))
theorem x_icmpN_ge (C : Ck k own cc ret d mc ms post) {off : Int} {tgt : Nat} (a b : Nat) (hd : decode cc pc = .ok (.if_icmp .ge off, 3)) (ht : (pc : Int) + off = (tgt : Int)) (hp : pc + 3 = pc') (ha : a < 2 ^ 31) (hb : b < 2 ^ 31) (kt : ¬ (a < b) → X k cs sl w tgt L st) (kf : (a < b) → X k cs sl w pc' L st) : X k cs sl w pc L (.int (nI b) :: .int (nI a) :: st) := x_icmp_ge C hd ht hp (fun h => kt (fun q => h ((nI_ltI ha hb).mpr q))) (fun h => kf ((nI_ltI ha hb).mp h))
theorem x_ifN_ge (C : Ck k own cc ret d mc ms post) {off : Int} {tgt : Nat} (a : Nat) (hd : decode cc pc = .ok (.ifCond .ge off, 3)) (ht : (pc : Int) + off = (tgt : Int)) (hp : pc + 3 = pc') (ha : a < 2 ^ 31) (kt : ¬ (a < 0) → X k cs sl w tgt L st) (kf : (a < 0) → X k cs sl w pc' L st) : X k cs sl w pc L (.int (nI a) :: st) := x_if_ge C hd ht hp (fun h => kt (fun q => h ((nI_ltI ha (show 0 < 2 ^ 31 by decide)).mpr q))) (fun h => kf ((nI_ltI ha (show 0 < 2 ^ 31 by decide)).mp h))
theorem x_icmpN_gt (C : Ck k own cc ret d mc ms post) {off : Int} {tgt : Nat} (a b : Nat) (hd : decode cc pc = .ok (.if_icmp .gt off, 3)) (ht : (pc : Int) + off = (tgt : Int)) (hp : pc + 3 = pc') (ha : a < 2 ^ 31) (hb : b < 2 ^ 31) (kt : (b < a) → X k cs sl w tgt L st) (kf : ¬ (b < a) → X k cs sl w pc' L st) : X k cs sl w pc L (.int (nI b) :: .int (nI a) :: st) := x_icmp_gt C hd ht hp (fun h => kt ((nI_ltI hb ha).mp h)) (fun h => kf (fun q => h ((nI_ltI hb ha).mpr q)))
theorem x_ifN_gt (C : Ck k own cc ret d mc ms post) {off : Int} {tgt : Nat} (a : Nat) (hd : decode cc pc = .ok (.ifCond .gt off, 3)) (ht : (pc : Int) + off = (tgt : Int)) (hp : pc + 3 = pc') (ha : a < 2 ^ 31) (kt : (0 < a) → X k cs sl w tgt L st) (kf : ¬ (0 < a) → X k cs sl w pc' L st) : X k cs sl w pc L (.int (nI a) :: st) := x_if_gt C hd ht hp (fun h => kt ((nI_ltI (show 0 < 2 ^ 31 by decide) ha).mp h)) (fun h => kf (fun q => h ((nI_ltI (show 0 < 2 ^ 31 by decide) ha).mpr q)))
theorem x_icmpN_le (C : Ck k own cc ret d mc ms post) {off : Int} {tgt : Nat} (a b : Nat) (hd : decode cc pc = .ok (.if_icmp .le off, 3)) (ht : (pc : Int) + off = (tgt : Int)) (hp : pc + 3 = pc') (ha : a < 2 ^ 31) (hb : b < 2 ^ 31) (kt : ¬ (b < a) → X k cs sl w tgt L st) (kf : (b < a) → X k cs sl w pc' L st) : X k cs sl w pc L (.int (nI b) :: .int (nI a) :: st) := x_icmp_le C hd ht hp (fun h => kt (fun q => h ((nI_ltI hb ha).mpr q))) (fun h => kf ((nI_ltI hb ha).mp h))
theorem x_ifN_le (C : Ck k own cc ret d mc ms post) {off : Int} {tgt : Nat} (a : Nat) (hd : decode cc pc = .ok (.ifCond .le off, 3)) (ht : (pc : Int) + off = (tgt : Int)) (hp : pc + 3 = pc') (ha : a < 2 ^ 31) (kt : ¬ (0 < a) → X k cs sl w tgt L st) (kf : (0 < a) → X k cs sl w pc' L st) : X k cs sl w pc L (.int (nI a) :: st) := x_if_le C hd ht hp (fun h => kt (fun q => h ((nI_ltI (show 0 < 2 ^ 31 by decide) ha).mpr q))) (fun h => kf ((nI_ltI (show 0 < 2 ^ 31 by decide) ha).mp h))
/-- an answer of a boolean kind -/
def bI (b : Bool) : Int32 := if b then 1 else 0
theorem bI_0 {b : Bool} : bI b = 0 ↔ b = false := by cases b <;> decide
theorem bI_1 {b : Bool} : bI b = 1 ↔ b = true := by cases b <;> decide
theorem bI_n0 {b : Bool} : ¬ bI b = 0 ↔ b = true := by cases b <;> decide
theorem bI_nar (b : Bool) : narrow .boolean (.int (bI b)) = .int (bI b) := by cases b <;> rfl
theorem x_ifB_eq (C : Ck k own cc ret d mc ms post) {b : Bool} {off : Int} {tgt : Nat} (hd : decode cc pc = .ok (.ifCond .eq off, 3)) (ht : (pc : Int) + off = (tgt : Int)) (hp : pc + 3 = pc') (kt : ¬ (b = true) → X k cs sl w tgt L st) (kf : b = true → X k cs sl w pc' L st) : X k cs sl w pc L (.int (bI b) :: st) := x_if_eq C hd ht hp (fun h => kt (fun q => bI_n0.mpr q h)) (fun h => kf (bI_n0.mp h))
theorem x_ifB_ne (C : Ck k own cc ret d mc ms post) {b : Bool} {off : Int} {tgt : Nat} (hd : decode cc pc = .ok (.ifCond .ne off, 3)) (ht : (pc : Int) + off = (tgt : Int)) (hp : pc + 3 = pc') (kt : b = true → X k cs sl w tgt L st) (kf : ¬ (b = true) → X k cs sl w pc' L st) : X k cs sl w pc L (.int (bI b) :: st) := x_if_ne C hd ht hp (fun h => kt (bI_n0.mp h)) (fun h => kf (fun q => bI_n0.mpr q h))
theorem x_tabOut (C : Ck k own cc ret d mc ms post) {dflt lo hi : Int} {offs : Array Int} {len : Nat} {x : Int32} {tgt : Nat} (hd : decode cc pc = .ok (.tableswitch dflt lo hi offs, len)) (h : x.toInt < lo ∨ hi < x.toInt) (ht : (pc : Int) + dflt = (tgt : Int)) (kk : X k cs sl w tgt L st) : X k cs sl w pc L (.int x :: st) := fun H locs ls hP hD hS hl => lv_tableOut C.1 C.2.1 hd h ht (kk H locs ls hP hD hS hl)
theorem x_tabIn (C : Ck k own cc ret d mc ms post) {dflt lo hi : Int} {offs : Array Int} {len : Nat} {x : Int32} {off : Int} {tgt : Nat} (j : Int) (hd : decode cc pc = .ok (.tableswitch dflt lo hi offs, len)) (hx : x.toInt = j) (h1 : ¬ j < lo) (h2 : ¬ hi < j) (ho : offs[(j - lo).toNat]? = some off) (ht : (pc : Int) + off = (tgt : Int)) (kk : X k cs sl w tgt L st) : X k cs sl w pc L (.int x :: st) := fun H locs ls hP hD hS hl => lv_tableIn C.1 C.2.1 hd (by rw [hx]; exact h1) (by rw [hx]; exact h2) (by rw [hx]; exact ho) ht (kk H locs ls hP hD hS hl)
theorem x_lookup (C : Ck k own cc ret d mc ms post) {dflt : Int} {ps : Array (Int × Int)} {len : Nat} {x : Int32} {off : Int} {tgt : Nat} (hd : decode cc pc = .ok (.lookupswitch dflt ps, len)) (hp : (ps.toList.zip (ps.toList.drop 1)).all (fun (a, next) => a.1 < next.1) = true) (ho : Op.lookupswitch.offset ps.toList dflt x.toInt = off) (ht : (pc : Int) + off = (tgt : Int)) (kk : X k cs sl w tgt L st) : X k cs sl w pc L (.int x :: st) := fun H locs ls hP hD hS hl => lv_lookup C.1 C.2.1 hd hp ho ht (kk H locs ls hP hD hS hl)
theorem x_ifnonnull (C : Ck k own cc ret d mc ms post) {a : Nat} {off : Int} {tgt : Nat} (hd : decode cc pc = .ok (.ifnonnull off, 3)) (ht : (pc : Int) + off = (tgt : Int)) (kk : X k cs sl w tgt L st) : X k cs sl w pc L (.ref a :: st) := fun H locs ls hP hD hS hl => lv_ifnonnull C.1 C.2.1 hd ht (kk H locs ls hP hD hS hl)
theorem x_ifnull (C : Ck k own cc ret d mc ms post) {a : Nat} {off : Int} (hd : decode cc pc = .ok (.ifnull off, 3)) (hp : pc + 3 = pc') (kk : X k cs sl w pc' L st) : X k cs sl w pc L (.ref a :: st) := fun H locs ls hP hD hS hl => lv_ifnull C.1 C.2.1 hd (hp ▸ kk H locs ls hP hD hS hl)
theorem x_ifnullN (C : Ck k own cc ret d mc ms post) {off : Int} {tgt : Nat} (hd : decode cc pc = .ok (.ifnull off, 3)) (ht : (pc : Int) + off = (tgt : Int)) (kk : X k cs sl w tgt L st) : X k cs sl w pc L (.null :: st) := fun H locs ls hP hD hS hl => lv_ifnullN C.1 C.2.1 hd ht (kk H locs ls hP hD hS hl)
theorem x_ifnonnullN (C : Ck k own cc ret d mc ms post) {off : Int} (hd : decode cc pc = .ok (.ifnonnull off, 3)) (hp : pc + 3 = pc') (kk : X k cs sl w pc' L st) : X k cs sl w pc L (.null :: st) := fun H locs ls hP hD hS hl => lv_ifnonnullN C.1 C.2.1 hd (hp ▸ kk H locs ls hP hD hS hl)
theorem x_ldci (C : Ck k own cc ret d mc ms post) {index : Nat} {v : Int32} (hc : Jvm.Cond.constant own index v ∈ BIG) (hd : decode cc pc = .ok (.ldc index, 2)) (hp : pc + 2 = pc') (kk : X k cs sl w pc' L (.int v :: st)) : X k cs sl w pc L st := fun H locs ls hP hD hS hl => lv_ldc C.1 C.2.1 C.2.2.2.2.1 (C.2.2.2.2.2.1 _ hc) hd (hp ▸ kk H locs ls hP hD hS hl)
theorem x_ldcw (C : Ck k own cc ret d mc ms post) {index : Nat} {v : Int32} (hc : Jvm.Cond.constant own index v ∈ BIG) (hd : decode cc pc = .ok (.ldc_w index, 3)) (hp : pc + 3 = pc') (kk : X k cs sl w pc' L (.int v :: st)) : X k cs sl w pc L st := fun H locs ls hP hD hS hl => lv_ldcw C.1 C.2.1 C.2.2.2.2.1 (C.2.2.2.2.2.1 _ hc) hd (hp ▸ kk H locs ls hP hD hS hl)
/-- a text constant: its place i -/
theorem x_ldcS (C : Ck k "RootedDeltas$Orders" cc ret d mc ms post) {index : Nat} (i : Nat) (hi : i < 5) (hx : idS.getD i 0 = index) (hd : decode cc pc = .ok (.ldc index, 2)) (hp : pc + 2 = pc') (kk : X k cs sl w pc' L (.ref (gK (kg k) i) :: st)) : X k cs sl w pc L st := fun H locs ls hP hD hS hl => va_ldcS C.1 C.2.1 C.2.2.2.2.1 (hx ▸ C.2.2.2.2.2.2.2.1.2.2.1 i hi) hd (hp ▸ kk H locs ls hP hD hS hl)
/-- a field is read -/
theorem x_get (C : Ck k own cc ret d mc ms post) {ref Cn : String} {T : u_T} {N ci index a : Nat} (q0 kf : Nat) {fs : List Value} {v : Value} (hin : ∀ w ∈ u_ws Cn T N, w ∈ BIG) (he : w[q0]? = some (a, .inr (ci, fs))) (hc : vwCl[ci]? = some (Cn, T, N)) (hk : kf < N) (hlink : Cond.fieldLink own index ref (T kf).2.1 (T kf).2.2.1 ∈ BIG) (href : (T kf).1 = ref) (hv : fs[kf]? = some v) (hd : decode cc pc = .ok (.getfield index, 3)) (hp : pc + 3 = pc') (kk : X k cs sl w pc' L (v :: st)) : X k cs sl w pc L (.ref a :: st) := fun H locs ls hP hD hS hl =>
  va_get C.1 C.2.1 C.2.2.2.2.2.1 hin C.2.2.2.2.1 C.2.2.2.2.2.2.2.1.1 hP q0 he hc kf hk (C.2.2.2.2.2.1 _ hlink) (by rw [href]; exact fun _ h => h) hv hd (hp ▸ kk H locs ls hP hD hS hl)
/-- a field is written -/
theorem x_put (C : Ck k own cc ret d mc ms post) (B : Cw k) {ref Cn : String} {T : u_T} {N ci index a : Nat} (q0 kf : Nat) {fs : List Value} {v : Value} {ty : FieldType} {w' : va_W} (hin : ∀ w ∈ u_ws Cn T N, w ∈ BIG) (ty0 : Nat → FieldType) (hty : ∀ k, k < N → parseFieldDescriptor (T k).2.2.1 = some (ty0 k)) (hnm : ∀ a, a < N → ∀ b, b < N → a ≠ b → (T a).2.1 ≠ (T b).2.1) (he : w[q0]? = some (a, .inr (ci, fs))) (hc : vwCl[ci]? = some (Cn, T, N)) (hk : kf < N) (hlink : Cond.fieldLink own index ref (T kf).2.1 (T kf).2.2.1 ∈ BIG) (href : (T kf).1 = ref) (hfin : (T kf).2.2.2 = false) (hdt : ty0 kf = ty) (hn : narrow ty v = v) (hfit : fits ty v = true) (hl0 : kf < fs.length) (hd : decode cc pc = .ok (.putfield index, 3)) (hp : pc + 3 = pc') (hw : w.set q0 (a, .inr (ci, fs.set kf v)) = w') (kk : X k cs sl w' pc' L st) : X k cs sl w pc L (v :: .ref a :: st) := fun H locs ls hP hD hS hl =>
  va_put C.1 C.2.1 C.2.2.2.2.2.1 hin ty0 hty hnm C.2.2.2.2.1 C.2.2.2.2.2.2.2.1.1 hP hD (B.1 ▸ hS) q0 he hc kf hk (C.2.2.2.2.2.1 _ hlink) (by rw [href]; exact fun _ h => h) hfin (by rw [← hdt]; exact hty kf hk) hn hfit hl0 hd (fun H1 locs1 hP1 hD1 hS1 => hp ▸ kk H1 locs1 ls (hw ▸ hP1) (hw ▸ hD1) (by rw [B.1]; exact hS1) hl)
/-- an array of ints is read -/
theorem x_iald (C : Ck k own cc ret d mc ms post) {a n : Nat} (q0 : Nat) {f : Nat → Int32} {i v : Int32} (he : w[q0]? = some (a, .inl (gI (kg k), (n, .inl f)))) (hin : vp_in i n) (hv : f i.toNatClampNeg = v) (hd : decode cc pc = .ok (.iaload, 1)) (hp : pc + 1 = pc') (kk : X k cs sl w pc' L (.int v :: st)) : X k cs sl w pc L (.int i :: .ref a :: st) := fun H locs ls hP hD hS hl =>
  va_iald C.1 C.2.1 C.2.2.2.2.2.2.2.1.1 hP q0 0 he rfl hin hd (by rw [hv]; exact hp ▸ kk H locs ls hP hD hS hl)
theorem x_ialdN (C : Ck k own cc ret d mc ms post) {a n : Nat} (q0 : Nat) {f : Nat → Int32} {j : Nat} {v : Int32} (he : w[q0]? = some (a, .inl (gI (kg k), (n, .inl f)))) (hj : j < n) (hn : n < 2 ^ 31) (hv : f j = v) (hd : decode cc pc = .ok (.iaload, 1)) (hp : pc + 1 = pc') (kk : X k cs sl w pc' L (.int v :: st)) : X k cs sl w pc L (.int (nI j) :: .ref a :: st) :=
  x_iald C q0 he (vp_in_nI hj hn) (by rw [nI_clamp (by omega)]; exact hv) hd hp kk
theorem x_cald (C : Ck k own cc ret d mc ms post) {a n : Nat} (q0 : Nat) {f : Nat → Int32} {i v : Int32} (he : w[q0]? = some (a, .inl (gC (kg k), (n, .inl f)))) (hin : vp_in i n) (hv : f i.toNatClampNeg = v) (hd : decode cc pc = .ok (.caload, 1)) (hp : pc + 1 = pc') (kk : X k cs sl w pc' L (.int v :: st)) : X k cs sl w pc L (.int i :: .ref a :: st) := fun H locs ls hP hD hS hl =>
  va_cald C.1 C.2.1 C.2.2.2.2.2.2.2.1.1 hP q0 1 he rfl hin hd (by rw [hv]; exact hp ▸ kk H locs ls hP hD hS hl)
theorem x_iast (C : Ck k own cc ret d mc ms post) (B : Cw k) {a n : Nat} (q0 : Nat) {f : Nat → Int32} {i x : Int32} {w' : va_W} (he : w[q0]? = some (a, .inl (gI (kg k), (n, .inl f)))) (hin : vp_in i n) (hd : decode cc pc = .ok (.iastore, 1)) (hp : pc + 1 = pc') (hw : w.set q0 (a, .inl (gI (kg k), (n, .inl (upd f i.toNatClampNeg x)))) = w') (kk : X k cs sl w' pc' L st) : X k cs sl w pc L (.int x :: .int i :: .ref a :: st) := fun H locs ls hP hD hS hl =>
  va_iast C.1 C.2.1 C.2.2.2.2.2.2.2.1.1 hP hD (B.1 ▸ hS) q0 0 he rfl hin hd (fun H1 locs1 hP1 hD1 hS1 => hp ▸ kk H1 locs1 ls (hw ▸ hP1) (hw ▸ hD1) (by rw [B.1]; exact hS1) hl)
theorem x_iastN (C : Ck k own cc ret d mc ms post) (B : Cw k) {a n : Nat} (q0 : Nat) {f : Nat → Int32} {j : Nat} {x : Int32} {w' : va_W} (he : w[q0]? = some (a, .inl (gI (kg k), (n, .inl f)))) (hj : j < n) (hn : n < 2 ^ 31) (hd : decode cc pc = .ok (.iastore, 1)) (hp : pc + 1 = pc') (hw : w.set q0 (a, .inl (gI (kg k), (n, .inl (upd f j x)))) = w') (kk : X k cs sl w' pc' L st) : X k cs sl w pc L (.int x :: .int (nI j) :: .ref a :: st) :=
  x_iast C B q0 he (vp_in_nI hj hn) hd hp (by rw [nI_clamp (by omega)]; exact hw) kk
theorem x_cast (C : Ck k own cc ret d mc ms post) (B : Cw k) {a n : Nat} (q0 : Nat) {f : Nat → Int32} {i x : Int32} {w' : va_W} (he : w[q0]? = some (a, .inl (gC (kg k), (n, .inl f)))) (hin : vp_in i n) (hx : vp_nar .char x = x) (hd : decode cc pc = .ok (.castore, 1)) (hp : pc + 1 = pc') (hw : w.set q0 (a, .inl (gC (kg k), (n, .inl (upd f i.toNatClampNeg x)))) = w') (kk : X k cs sl w' pc' L st) : X k cs sl w pc L (.int x :: .int i :: .ref a :: st) := fun H locs ls hP hD hS hl =>
  va_cast C.1 C.2.1 C.2.2.2.2.2.2.2.1.1 hP hD (B.1 ▸ hS) q0 1 he rfl hin hd (fun H1 locs1 hP1 hD1 hS1 => by rw [hx] at hP1 hD1; exact hp ▸ kk H1 locs1 ls (hw ▸ hP1) (hw ▸ hD1) (by rw [B.1]; exact hS1) hl)
theorem x_alenI (C : Ck k own cc ret d mc ms post) {a n : Nat} (q0 : Nat) {f : Nat → Int32} {v : Int32} (he : w[q0]? = some (a, .inl (gI (kg k), (n, .inl f)))) (hv : nI n = v) (hd : decode cc pc = .ok (.arraylength, 1)) (hp : pc + 1 = pc') (kk : X k cs sl w pc' L (.int v :: st)) : X k cs sl w pc L (.ref a :: st) := fun H locs ls hP hD hS hl =>
  va_alen C.1 C.2.1 C.2.2.2.2.2.2.2.1.1 hP q0 0 he (ty := .int) rfl hv hd (hp ▸ kk H locs ls hP hD hS hl)
theorem x_alenC (C : Ck k own cc ret d mc ms post) {a n : Nat} (q0 : Nat) {f : Nat → Int32} {v : Int32} (he : w[q0]? = some (a, .inl (gC (kg k), (n, .inl f)))) (hv : nI n = v) (hd : decode cc pc = .ok (.arraylength, 1)) (hp : pc + 1 = pc') (kk : X k cs sl w pc' L (.int v :: st)) : X k cs sl w pc L (.ref a :: st) := fun H locs ls hP hD hS hl =>
  va_alen C.1 C.2.1 C.2.2.2.2.2.2.2.1.1 hP q0 1 he (ty := .char) rfl hv hd (hp ▸ kk H locs ls hP hD hS hl)
theorem x_alenQ (C : Ck k own cc ret d mc ms post) {a n : Nat} (q0 : Nat) {f : Nat → Option Nat} {v : Int32} (he : w[q0]? = some (a, .inl (gQ (kg k), (n, .inr (.inr (.inr (.inr f))))))) (hv : nI n = v) (hd : decode cc pc = .ok (.arraylength, 1)) (hp : pc + 1 = pc') (kk : X k cs sl w pc' L (.int v :: st)) : X k cs sl w pc L (.ref a :: st) := fun H locs ls hP hD hS hl =>
  va_alen C.1 C.2.1 C.2.2.2.2.2.2.2.1.1 hP q0 2 he (ty := .object "RootedDeltas$State") rfl hv hd (hp ▸ kk H locs ls hP hD hS hl)
theorem x_aald (C : Ck k own cc ret d mc ms post) {a n : Nat} (q0 : Nat) {f : Nat → Option Nat} {i : Int32} {v : Value} (he : w[q0]? = some (a, .inl (gQ (kg k), (n, .inr (.inr (.inr (.inr f))))))) (hin : vp_in i n) (hv : va_rf (f i.toNatClampNeg) = v) (hd : decode cc pc = .ok (.aaload, 1)) (hp : pc + 1 = pc') (kk : X k cs sl w pc' L (v :: st)) : X k cs sl w pc L (.int i :: .ref a :: st) := fun H locs ls hP hD hS hl =>
  va_aldq C.1 C.2.1 C.2.2.2.2.2.2.2.1.1 hP q0 2 he rfl hin hd (by rw [hv]; exact hp ▸ kk H locs ls hP hD hS hl)
theorem x_aast (C : Ck k own cc ret d mc ms post) (B : Cw k) {a n v : Nat} (q0 qk : Nat) {vs : List Value} {f : Nat → Option Nat} {i : Int32} {w' : va_W} (he : w[q0]? = some (a, .inl (gQ (kg k), (n, .inr (.inr (.inr (.inr f))))))) (hv : w[qk]? = some (v, .inr (3, vs))) (hin : vp_in i n) (hd : decode cc pc = .ok (.aastore, 1)) (hp : pc + 1 = pc') (hw : w.set q0 (a, .inl (gQ (kg k), (n, .inr (.inr (.inr (.inr (va_up f i.toNatClampNeg (some v)))))))) = w') (kk : X k cs sl w' pc' L st) : X k cs sl w pc L (.ref v :: .int i :: .ref a :: st) := fun H locs ls hP hD hS hl =>
  va_astq C.1 C.2.1 C.2.2.2.2.2.2.2.1.1 hP hD (B.1 ▸ hS) q0 2 qk 3 (r := (RX5, TX5, 13)) he rfl hv rfl hin hd (fun H1 locs1 hP1 hD1 hS1 => hp ▸ kk H1 locs1 ls (hw ▸ hP1) (hw ▸ hD1) (by rw [B.1]; exact hS1) hl)
/-- Math.max, Math.min -/
theorem x_max (C : Ck k own cc ret d mc ms post) {index : Nat} {x y v : Int32} (h1 : Cond.methodLink own index Lib.Math.max.name ∈ BIG) (h2 : Cond.static Lib.Math.max.name ∈ BIG) (h3 : Cond.initialized "java/lang/Math" ∈ BIG) (h4 : Cond.code Lib.Math.max.name Lib.Math.max.code 2 (some .int) ∈ BIG) (hdd : 1 ≤ d) (hst : (st.map fun v => v.category).sum ≤ 8) (hcs : cs ≤ mc) (hsl : sl ≤ ms) (hv : (if x < y then y else x) = v) (hd : decode cc pc = .ok (.invokestatic index, 3)) (hp : pc + 3 = pc') (kk : X k cs sl w pc' L (.int v :: st)) : X k cs sl w pc L (.int y :: .int x :: st) := fun H locs ls hP hD hS hl => by
  have hR := C.2.2.2.2.2.2.2.2.2.1
  exact va_mmax C.1 C.2.1 (by rw [C.2.2.2.1, hl.2.2.1]) C.2.2.2.2.1 (C.2.2.2.2.2.1 _ h1) (C.2.2.2.2.2.1 _ h2) (C.2.2.2.2.2.1 _ h3) (C.2.2.2.2.2.1 _ h4) (by rw [hR]; exact hdd) (by rw [hR]; show _ ≤ 36 * d; omega) (by rw [hR]; exact hcs) (by rw [hR]; exact hsl) hd (by rw [hv]; exact hp ▸ kk H locs ls hP hD hS hl)
theorem x_min (C : Ck k own cc ret d mc ms post) {index : Nat} {x y v : Int32} (h1 : Cond.methodLink own index Lib.Math.min.name ∈ BIG) (h2 : Cond.static Lib.Math.min.name ∈ BIG) (h3 : Cond.initialized "java/lang/Math" ∈ BIG) (h4 : Cond.code Lib.Math.min.name Lib.Math.min.code 2 (some .int) ∈ BIG) (hdd : 1 ≤ d) (hst : (st.map fun v => v.category).sum ≤ 8) (hcs : cs ≤ mc) (hsl : sl ≤ ms) (hv : (if y < x then y else x) = v) (hd : decode cc pc = .ok (.invokestatic index, 3)) (hp : pc + 3 = pc') (kk : X k cs sl w pc' L (.int v :: st)) : X k cs sl w pc L (.int y :: .int x :: st) := fun H locs ls hP hD hS hl => by
  have hR := C.2.2.2.2.2.2.2.2.2.1
  exact va_mmin C.1 C.2.1 (by rw [C.2.2.2.1, hl.2.2.1]) C.2.2.2.2.1 (C.2.2.2.2.2.1 _ h1) (C.2.2.2.2.2.1 _ h2) (C.2.2.2.2.2.1 _ h3) (C.2.2.2.2.2.1 _ h4) (by rw [hR]; exact hdd) (by rw [hR]; show _ ≤ 36 * d; omega) (by rw [hR]; exact hcs) (by rw [hR]; exact hsl) hd (by rw [hv]; exact hp ▸ kk H locs ls hP hD hS hl)
/-- the ends -/
theorem x_iret (C : Ck k own cc (some .int) d mc ms post) {v : Int32} (hcs : cs ≤ mc) (hsl : sl ≤ ms) (hd : decode cc pc = .ok (.ireturn, 1)) (hq : post (some (.int v)) w) : X k cs sl w pc L [.int v] := fun H locs ls hP hD hS hl => by
  obtain ⟨hx, hb, hr, hml, hown, hts, hlk, hG, hHk, hR, Qc, free, hQ, hfr, hend⟩ := C
  rw [hQ]
  exact W.widen hcs hsl (W.iret hx hb hr (fun t ht hW => hend H locs _ w t hP hD hS hq ht hW) (hfr H locs hS) hd hlk)
theorem x_zret (C : Ck k own cc (some .boolean) d mc ms post) {b : Bool} (hcs : cs ≤ mc) (hsl : sl ≤ ms) (hd : decode cc pc = .ok (.ireturn, 1)) (hq : post (some (.int (bI b))) w) : X k cs sl w pc L [.int (bI b)] := fun H locs ls hP hD hS hl => by
  obtain ⟨hx, hb, hr, hml, hown, hts, hlk, hG, hHk, hR, Qc, free, hQ, hfr, hend⟩ := C
  rw [hQ]
  exact W.widen hcs hsl (W.zret hx hb hr (bI_nar b) (fun t ht hW => hend H locs _ w t hP hD hS hq ht hW) (hfr H locs hS) hd hlk)
theorem x_nret (C : Ck k own cc ret d mc ms post) {ty : FieldType} {v : Int32} (hty : ret = some ty) (hn : narrow ty (.int v) = .int v) (hcs : cs ≤ mc) (hsl : sl ≤ ms) (hd : decode cc pc = .ok (.ireturn, 1)) (hq : post (some (.int v)) w) : X k cs sl w pc L [.int v] := fun H locs ls hP hD hS hl => by
  obtain ⟨hx, hb, hr, hml, hown, hts, hlk, hG, hHk, hR, Qc, free, hQ, hfr, hend⟩ := C
  rw [hQ]
  exact W.widen hcs hsl (W.zret hx hb (hr.trans hty) hn (fun t ht hW => hend H locs _ w t hP hD hS hq ht hW) (hfr H locs hS) hd hlk)
theorem x_vret (C : Ck k own cc none d mc ms post) (hcs : cs ≤ mc) (hsl : sl ≤ ms) (hd : decode cc pc = .ok (.return_, 1)) (hq : post none w) : X k cs sl w pc L [] := fun H locs ls hP hD hS hl => by
  obtain ⟨hx, hb, hr, hml, hown, hts, hlk, hG, hHk, hR, Qc, free, hQ, hfr, hend⟩ := C
  rw [hQ]
  exact W.widen hcs hsl (W.vret hx hb hr (fun t ht hW => hend H locs _ w t hP hD hS hq ht hW) (hfr H locs hS) hd hlk)
theorem x_aret (C : Ck k own cc ret d mc ms post) {nm : String} {r : Option Nat} (hty : ret = some (.object nm)) (hcs : cs ≤ mc) (hsl : sl ≤ ms) (hd : decode cc pc = .ok (.areturn, 1)) (hq : post (some (va_rf r)) w) : X k cs sl w pc L [va_rf r] := fun H locs ls hP hD hS hl => by
  obtain ⟨hx, hb, hr, hml, hown, hts, hlk, hG, hHk, hR, Qc, free, hQ, hfr, hend⟩ := C
  rw [hQ]
  exact W.widen hcs hsl (W.aret hx hb (hr.trans hty) (Or.inl ⟨_, rfl⟩) (by cases r with | none => exact Or.inl rfl | some a => exact Or.inr ⟨a, rfl⟩) (fun t ht hW => hend H locs _ w t hP hD hS hq ht hW) (hfr H locs hS) hd hlk)
end RULES
/-! CONTRACTS: a method that only reads (CR), a method that writes its world (CWx; CW where the new world is known) -/
def wA (w : va_W) : Nat → Prop := fun q => ∃ (k : Nat) (e : va_E), w[k]? = some (q, e)
theorem wA_D {A : Nat → Prop} {w : va_W} (h : va_D A w) : va_D (wA w) w := ⟨h.1, fun k q hk => ⟨k, q.2, hk⟩⟩
def QR (post : Option Value → Prop) : Array Value → State → Outcome → State → Prop := fun _ st o t => ∃ v : Option Value, o = .returned v ∧ post v ∧ t.heap = st.heap
def PR (g : GT) (w : va_W) : State → Prop := fun U => va_P g.1 vwCl w U.heap ∧ va_D (fun _ => True) w ∧ GS g (wA w) U U.heap
def CRx (l : Launch) (y : MethodName) (cy : Cond) (d : Nat) (g : GT) (av : List Value) (w : va_W) (post : Option Value → Prop) : Prop := Met l y (wB cy) (rmd d 0 0) (va_Pc av (PR g w)) (QR post) 0 0 (fun _ => False)
def CR (l : Launch) (y : MethodName) (cy : Cond) (d : Nat) (g : GT) (av : List Value) (w : va_W) (r : Option Value) : Prop := CRx l y cy d g av w (fun v => v = r)
def PW (g : GT) (w : va_W) (sz : Nat) : State → Prop := fun U => U.heap.size = sz ∧ va_P g.1 vwCl w U.heap ∧ va_D (fun _ => True) w ∧ GS g (va_A w sz) U U.heap
def QW (g : GT) (w : va_W) (sz : Nat) (post : Option Value → va_W → Prop) : Array Value → State → Outcome → State → Prop := fun _ st o t => (∃ (v : Option Value) (u : va_W), o = .returned v ∧ post v u ∧ va_P g.1 vwCl u t.heap ∧ va_D (va_A w sz) u) ∧ va_F (va_A w sz) st t
def CWx (l : Launch) (y : MethodName) (cy : Cond) (d mc ms : Nat) (g : GT) (av : List Value) (w : va_W) (post : Option Value → va_W → Prop) : Prop := ∀ sz : Nat, Met l y (wB cy) (rmd d mc ms) (va_Pc av (PW g w sz)) (QW g w sz post) mc ms (va_A w sz)
def CW (l : Launch) (y : MethodName) (cy : Cond) (d : Nat) (g : GT) (av : List Value) (w : va_W) (r : Option Value) (w' : va_W) : Prop := CWx l y cy d 0 0 g av w (fun v u => v = r ∧ u = w')
theorem CRx.of {l : Launch} {y : MethodName} {cy : Cond} {own : String} {cc : ByteArray} {nL d : Nat} {ret : Option FieldType} {g : GT} {av : List Value} {w : va_W} {post : Option Value → Prop} (hcy : cy = .code y cc nL ret) (hy : plainName y.cls = true) (ho : y.cls = own) (hc : ∀ v ∈ av, v.category = 1) (hn : av.length ≤ nL)
    (body : ∀ k : KT, Ck k own cc ret d 0 0 (fun v _ => post v) → kl k = l → kg k = g → X k 0 0 w 0 (av.map some ++ List.replicate (nL - av.length) none) []) : CRx l y cy d g av w post := by
  subst hcy
  refine Met.ofW (cc := cc) (maxL := nL) (ret := ret) hy rfl ?_
  intro p e s m args below meth c s₁ B hml hv
  obtain ⟨rfl, hP, hD, hG⟩ := hv
  have hts := atoms_spec (ws := wB (.code y cc nL ret)) B.pre
  have hown : s.vm.findClass own = some m.cls := ho ▸ findClass_of_methodNamed B.named
  have key := body (p, l, e, rmd d 0 0, s, m, av.toArray, below, meth, c, g, wA w, (fun H locs => H = s.heap ∧ locs = []), MQ below (QR post) av.toArray s 0 0 (fun _ => False), nL)
    ⟨B.exec, B.bytes, B.returns, hml, hown, fun w hw => hts w (List.mem_cons_of_mem _ hw), B.notSynchronized, hG, ?_, rfl, QR post, (fun _ => False), rfl, ?_, ?_⟩ rfl rfl
  · rw [lg_entry_eq]
    exact key s.heap [] _ hP (wA_D hD) ⟨rfl, rfl⟩ (lh_entry av nL hc hn)
  · rintro H locs ⟨rfl, rfl⟩
    exact ⟨Nat.le_refl _, fun _ _ _ => rfl⟩
  · rintro H locs ⟨rfl, rfl⟩ q hq
    cases hq
  · rintro H locs v w t hP hD ⟨rfl, rfl⟩ hpost ht hW
    exact ⟨v, rfl, hpost, ht⟩
theorem CWx.of {l : Launch} {y : MethodName} {cy : Cond} {own : String} {cc : ByteArray} {nL d mc ms : Nat} {ret : Option FieldType} {g : GT} {av : List Value} {w : va_W} {post : Option Value → va_W → Prop} (hcy : cy = .code y cc nL ret) (hy : plainName y.cls = true) (ho : y.cls = own) (hc : ∀ v ∈ av, v.category = 1) (hn : av.length ≤ nL)
    (body : ∀ k : KT, Ck k own cc ret d mc ms post → Cw k → (y.name = "<init>" → (kme k).name = "<init>") → kl k = l → kg k = g → X k 0 0 w 0 (av.map some ++ List.replicate (nL - av.length) none) []) : CWx l y cy d mc ms g av w post := by
  subst hcy
  intro sz
  refine Met.ofW (cc := cc) (maxL := nL) (ret := ret) hy rfl ?_
  intro p e s m args below meth c s₁ B hml hv
  obtain ⟨rfl, hsz, hP, hD, hG⟩ := hv
  subst hsz
  have hts := atoms_spec (ws := wB (.code y cc nL ret)) B.pre
  have hown : s.vm.findClass own = some m.cls := ho ▸ findClass_of_methodNamed B.named
  have key := body (p, l, e, rmd d mc ms, s, m, av.toArray, below, meth, c, g, va_A w s.heap.size, va_S (va_A w s.heap.size) s.heap, MQ below (QW g w s.heap.size post) av.toArray s mc ms (va_A w s.heap.size), nL)
    ⟨B.exec, B.bytes, B.returns, hml, hown, fun w hw => hts w (List.mem_cons_of_mem _ hw), B.notSynchronized, hG, ?_, rfl, QW g w s.heap.size post, va_A w s.heap.size, rfl, ?_, ?_⟩ ⟨rfl, fun q hq => Or.inr hq⟩ (fun h => (name_of_methodNamed B.named B.method).1.trans h) rfl rfl
  · rw [lg_entry_eq]
    exact key s.heap [] _ hP hD.self va_S.rf (lh_entry av nL hc hn)
  · intro H locs hS
    exact ⟨hS.1, hS.2.1⟩
  · intro H locs hS q hq
    exact hS.2.2 q hq
  · intro H locs v u t hP hD hS hpost ht hW
    exact ⟨⟨v, u, rfl, hpost, by rw [ht]; exact hP, hD⟩, hS.F ht⟩
theorem fb_R {g : GT} {av : List Value} {w : va_W} : FrameBlind (va_Pc av (PR g w)) := fun _ _ _ _ q => ⟨q.1, q.2.1, q.2.2.1, GS.same rfl q.2.2.2⟩
theorem fb_W {g : GT} {av : List Value} {w : va_W} {sz : Nat} : FrameBlind (va_Pc av (PW g w sz)) := fun _ _ _ _ q => ⟨q.1, q.2.1, q.2.2.1, q.2.2.2.1, GS.same rfl q.2.2.2.2⟩
/-- the cells of a world at some places -/
def pick (w : va_W) (is : List Nat) : va_W := is.filterMap (fun i => w[i]?)
theorem pick_of : ∀ {is : List Nat} {w w' : va_W}, is.map (fun i => w[i]?) = w'.map some → is.filterMap (fun i => w[i]?) = w'
  | [], w, w', h => by
    cases w' with
    | nil => rfl
    | cons a t => simp at h
  | i :: t, w, w', h => by
    cases w' with
    | nil => simp at h
    | cons a u =>
      rw [List.map_cons, List.map_cons] at h
      have h1 := List.cons.inj h
      rw [List.filterMap_cons, h1.1, pick_of h1.2]
theorem wA_of {A : Nat → Prop} {w wc : va_W} (hD : va_D A w) {is : List Nat} (hs : is.map (fun i => w[i]?) = wc.map some) : ∀ q, wA wc q → A q := by
  rintro q ⟨k, e, h⟩
  have hm : (q, e) ∈ wc := List.mem_of_getElem? h
  rw [← pick_of hs] at hm
  obtain ⟨i, -, hi⟩ := List.mem_filterMap.mp hm
  exact hD.2 i (q, e) hi
section CALLS
variable {k : KT} {own : String} {cc : ByteArray} {ret : Option FieldType} {d mc ms : Nat} {post : Option Value → va_W → Prop} {cs sl : Nat} {w : va_W} {pc pc' : Nat} {L L' : List (Option Value)} {st st' st2 : List Value}
variable {y : MethodName} {bytes : ByteArray} {maxL n d0 index : Nat} {rt : Option FieldType} {As : List Value} {wc : va_W} {r : Option Value} {postr : Option Value → Prop}
def okV (y : MethodName) (n maxL : Nat) : Prop := y.cls ≠ "java/lang/invoke/MethodHandle" ∧ y.cls ≠ "java/lang/invoke/VarHandle" ∧ (parseMethodDescriptor y.desc).map (fun d => d.parameters.length) = some n ∧ maxL ≤ 17
theorem room_le {d0 d maxL mc ms mc0 ms0 : Nat} (hd : d0 + 1 ≤ d) (hm : maxL ≤ 17) : (rmd d0 mc0 ms0).frames + 1 ≤ (rmd d mc ms).frames ∧ 8 + (maxL + 11) + (rmd d0 mc0 ms0).locals ≤ (rmd d mc ms).locals := ⟨hd, by show 8 + (maxL + 11) + 36 * d0 ≤ 36 * d; omega⟩
/-- what a call that only reads gives back -/
theorem x_backR {H : Heap} {locs : List Loc} {ls : Array Slot} {Qa : State → Outcome → State → Prop} (hP : va_P (kg k).1 vwCl w H) (hD : va_D (kA k) w) (hS : kH k H locs) (hl : lh ls (kn k) L)
    (hr : CallRun (kp k) (kl k) (ke k) (kR k) (ks k) (km k) (kar k) (kbe k) (kme k) (kc k) H locs cs sl 0 0 (F0 (km k) pc ls st') st Qa (fun _ => False)) (hQ : ∀ st₀ o t, Qa st₀ o t → ∃ v : Option Value, o = .returned v ∧ postr v ∧ t.heap = st₀.heap) (kk : ∀ v : Option Value, postr v → X k cs sl w (pc + 3) L (v.toList ++ st)) :
    W (kp k) (kl k) (ke k) (kR k) (ks k) (km k) (kar k) (kbe k) (kme k) (kc k) H locs cs sl (kQ k) (F0 (km k) pc ls st') := by
  intro T hT X0
  obtain ⟨v, st₀, t, T', L1, h0, X', hL, e1, hq, go⟩ := hr T hT X0
  obtain ⟨v', hv, hp, hh⟩ := hQ _ _ _ hq
  cases hv
  obtain ⟨t2, a1, b1⟩ := kk v hp H locs ls hP hD hS hl T' (by rw [e1, hh, h0]) (Stand.forget X' (fun q h => (hL q h).elim))
  exact ⟨t2, go t2 a1, b1⟩
theorem x_preR (C : Ck k own cc ret d mc ms post) {H : Heap} {locs : List Loc} (hP : va_P (kg k).1 vwCl w H) (hD : va_D (kA k) w) (hS : kH k H locs) (is : List Nat) (hnd : va_nd is = true) (hs : is.map (fun i => w[i]?) = wc.map some) : ∀ U : State, U.heap = H → (ks k).WarmedH U.vm → PR (kg k) wc U := by
  intro U hU hW
  have h1 := C.2.2.2.2.2.2.2.2.1 H locs hS
  have hG := (((C.2.2.2.2.2.2.2.1.kept h1.2).narrow (wA_of hD hs)).warm hW)
  exact ⟨by rw [hU]; exact hP.sub is (pick_of hs), (hD.sub is hnd hs).weaken (fun _ _ _ _ => trivial), by rw [hU]; exact hG⟩
theorem x_rV (C : Ck k own cc ret d mc ms post) {Cn : String} {T : u_T} {N b ci : Nat} {fs : List Value} (hM : CRx (kl k) y (.code y bytes maxL rt) d0 (kg k) (.ref b :: As) wc postr) (gw : GoodIn BIG (wsV own index Cn y (wB (.code y bytes maxL rt)))) (hy : okV y n maxL) (hyc : y.cls = Cn) (hdd : d0 + 1 ≤ d) (q0 : Nat) (he : w[q0]? = some (b, .inr (ci, fs))) (hcl : vwCl[ci]? = some (Cn, T, N)) (is : List Nat) (hnd : va_nd is = true) (hs : is.map (fun i => w[i]?) = wc.map some) (hn : As.length = n) (hcat : (st.map fun v => v.category).sum ≤ 8) (hcs : cs ≤ mc) (hsl : sl ≤ ms) (hst : st' = As.reverse ++ .ref b :: st) (hd : decode cc pc = .ok (.invokevirtual index, 3)) (hp : pc + 3 = pc') (kk : ∀ v : Option Value, postr v → X k cs sl w pc' L (v.toList ++ st)) : X k cs sl w pc L st' := by
  intro H locs ls hP hD hS hl
  have hR := C.2.2.2.2.2.2.2.2.2.1
  refine x_backR (postr := postr) hP hD hS hl (W.runV (C := Cn) (n := n) (nL := kn k) (own := own) (Ts := BIG) (rest := st) (As := As) (mc := 0) (ms := 0) ⟨C.1, C.2.1, C.2.2.2.1, C.2.2.2.2.1, C.2.2.2.2.2.1⟩ hM (cwV n C.2.2.2.2.2.1 gw rfl rfl rfl ⟨hyc, hy.1, hy.2.1, hy.2.2.1⟩ (by rw [hR]; exact room_le hdd hy.2.2.2)) ⟨fb_R, va_recv C.2.2.2.2.2.2.2.1.1 hP hcl he, fun U hU hW => ⟨rfl, x_preR C hP hD hS is hnd hs U hU hW⟩⟩ rfl hn hl.2.2.1 hst (lv_room hcat) hd ⟨by rw [hR]; exact hcs, by rw [hR]; exact hsl⟩) (fun _ _ _ q => q) (hp ▸ kk)
theorem x_rS (C : Ck k own cc ret d mc ms post) (hM : CRx (kl k) y (.code y bytes maxL rt) d0 (kg k) As wc postr) (gw : GoodIn BIG (va_wsS own index y (wB (.code y bytes maxL rt)))) (hy : okV y n maxL) (hdd : d0 + 1 ≤ d) (is : List Nat) (hnd : va_nd is = true) (hs : is.map (fun i => w[i]?) = wc.map some) (hn : As.length = n) (hcat : (st.map fun v => v.category).sum ≤ 8) (hcs : cs ≤ mc) (hsl : sl ≤ ms) (hst : st' = As.reverse ++ st) (hd : decode cc pc = .ok (.invokestatic index, 3)) (hp : pc + 3 = pc') (kk : ∀ v : Option Value, postr v → X k cs sl w pc' L (v.toList ++ st)) : X k cs sl w pc L st' := by
  intro H locs ls hP hD hS hl
  have hR := C.2.2.2.2.2.2.2.2.2.1
  refine x_backR (postr := postr) hP hD hS hl (W.runS (n := n) (nL := kn k) (own := own) (Ts := BIG) (rest := st) (As := As) (mc := 0) (ms := 0) ⟨C.1, C.2.1, C.2.2.2.1, C.2.2.2.2.1, C.2.2.2.2.2.1⟩ hM (va_cwS n C.2.2.2.2.2.1 gw rfl rfl rfl ⟨hy.1, hy.2.1, hy.2.2.1⟩ (by rw [hR]; exact room_le hdd hy.2.2.2)) ⟨fb_R, fun U hU hW => ⟨rfl, x_preR C hP hD hS is hnd hs U hU hW⟩⟩ rfl hn hl.2.2.1 hst (lv_room hcat) hd ⟨by rw [hR]; exact hcs, by rw [hR]; exact hsl⟩) (fun _ _ _ q => q) (hp ▸ kk)
/-- the same with a known answer -/
theorem x_RV (C : Ck k own cc ret d mc ms post) {Cn : String} {T : u_T} {N b ci : Nat} {fs : List Value} (hM : CR (kl k) y (.code y bytes maxL rt) d0 (kg k) (.ref b :: As) wc r) (gw : GoodIn BIG (wsV own index Cn y (wB (.code y bytes maxL rt)))) (hy : okV y n maxL) (hyc : y.cls = Cn) (hdd : d0 + 1 ≤ d) (q0 : Nat) (he : w[q0]? = some (b, .inr (ci, fs))) (hcl : vwCl[ci]? = some (Cn, T, N)) (is : List Nat) (hnd : va_nd is = true) (hs : is.map (fun i => w[i]?) = wc.map some) (hn : As.length = n) (hcat : (st.map fun v => v.category).sum ≤ 8) (hcs : cs ≤ mc) (hsl : sl ≤ ms) (hst : st' = As.reverse ++ .ref b :: st) (hd : decode cc pc = .ok (.invokevirtual index, 3)) (hp : pc + 3 = pc') (hr : r.toList ++ st = st2) (kk : X k cs sl w pc' L st2) : X k cs sl w pc L st' :=
  x_rV C hM gw hy hyc hdd q0 he hcl is hnd hs hn hcat hcs hsl hst hd hp (fun v hv => by rw [hv, hr]; exact kk)
theorem x_RS (C : Ck k own cc ret d mc ms post) (hM : CR (kl k) y (.code y bytes maxL rt) d0 (kg k) As wc r) (gw : GoodIn BIG (va_wsS own index y (wB (.code y bytes maxL rt)))) (hy : okV y n maxL) (hdd : d0 + 1 ≤ d) (is : List Nat) (hnd : va_nd is = true) (hs : is.map (fun i => w[i]?) = wc.map some) (hn : As.length = n) (hcat : (st.map fun v => v.category).sum ≤ 8) (hcs : cs ≤ mc) (hsl : sl ≤ ms) (hst : st' = As.reverse ++ st) (hd : decode cc pc = .ok (.invokestatic index, 3)) (hp : pc + 3 = pc') (hr : r.toList ++ st = st2) (kk : X k cs sl w pc' L st2) : X k cs sl w pc L st' :=
  x_rS C hM gw hy hdd is hnd hs hn hcat hcs hsl hst hd hp (fun v hv => by rw [hv, hr]; exact kk)
/-- what a call that writes gives back -/
theorem x_backW (C : Ck k own cc ret d mc ms post) (B : Cw k) {H : Heap} {locs : List Loc} {ls : Array Slot} {mc0 ms0 : Nat} {postw : Option Value → va_W → Prop} {a : Array Value} (hP : va_P (kg k).1 vwCl w H) (hD : va_D (kA k) w) (hS : kH k H locs) (hl : lh ls (kn k) L) (is iR : List Nat) (hs : is.map (fun i => w[i]?) = wc.map some) (hsR : iR.map (fun i => w[i]?) = (pick w iR).map some) (hnR : va_nd iR = true) (hdis : ∀ i ∈ iR, i ∉ is)
    (hr : va_Run (kp k) (kl k) (ke k) (kR k) (ks k) (km k) (kar k) (kbe k) (kme k) (kc k) H locs cs sl mc0 ms0 (F0 (km k) pc ls st') st (QW (kg k) wc H.size postw a) (va_A wc H.size)) (kk : ∀ (v : Option Value) (u : va_W), postw v u → X k (cs + mc0) (sl + ms0) (pick w iR ++ u) (pc + 3) L (v.toList ++ st)) :
    W (kp k) (kl k) (ke k) (kR k) (ks k) (km k) (kar k) (kbe k) (kme k) (kc k) H locs cs sl (kQ k) (F0 (km k) pc ls st') := by
  intro T hT X0
  obtain ⟨v, st₀, t, T', L1, h0, X', hL, e1, e2, ⟨⟨v', u, hv, hp, hP1, hD1⟩, hz, hk⟩, go⟩ := hr T hT X0
  cases hv
  rw [h0] at hz hk
  have hS' : va_S (kA k) (ks k).heap H locs := B.1 ▸ hS
  have hF := va_free (wc := wc) hD hS' B.2 is hs
  obtain ⟨hP2, hD2⟩ := va_join (wr := pick w iR) (w1 := u) (H1 := t.heap) hP hD is iR hs hsR hnR hdis hk hF hP1 hD1
  have hS2 : va_S (kA k) (ks k).heap t.heap (locs ++ L1) := ⟨Nat.le_trans hS'.1 hz, fun q h1 h2 => by
      rw [hk q (Nat.lt_of_lt_of_le h1 hS'.1) (fun z => h2 (hF q z))]
      exact hS'.2.1 q h1 h2, fun q hq => by
      rcases List.mem_append.mp hq with h | h
      · exact hS'.2.2 q h
      · exact hF _ (hL q h)⟩
  obtain ⟨t2, a1, b1⟩ := kk v u hp t.heap (locs ++ L1) ls hP2 hD2 (by rw [B.1]; exact hS2) hl T' e1 X'
  exact ⟨t2, go t2 a1, b1⟩
theorem x_preW (C : Ck k own cc ret d mc ms post) (B : Cw k) {H : Heap} {locs : List Loc} (hP : va_P (kg k).1 vwCl w H) (hD : va_D (kA k) w) (hS : kH k H locs) (is : List Nat) (hnd : va_nd is = true) (hs : is.map (fun i => w[i]?) = wc.map some) : ∀ U : State, U.heap = H → (ks k).WarmedH U.vm → PW (kg k) wc H.size U := by
  intro U hU hW
  have h1 := C.2.2.2.2.2.2.2.2.1 H locs hS
  have hS' : va_S (kA k) (ks k).heap H locs := B.1 ▸ hS
  have hG := (((C.2.2.2.2.2.2.2.1.kept h1.2).narrow (va_free (wc := wc) hD hS' B.2 is hs)).warm hW)
  exact ⟨by rw [hU], by rw [hU]; exact hP.sub is (pick_of hs), (hD.sub is hnd hs).weaken (fun _ _ _ _ => trivial), by rw [hU]; exact hG⟩
theorem x_wV (C : Ck k own cc ret d mc ms post) (B : Cw k) {mc0 ms0 : Nat} {postw : Option Value → va_W → Prop} {Cn : String} {T : u_T} {N b ci : Nat} {fs : List Value} (hM : CWx (kl k) y (.code y bytes maxL rt) d0 mc0 ms0 (kg k) (.ref b :: As) wc postw) (gw : GoodIn BIG (wsV own index Cn y (wB (.code y bytes maxL rt)))) (hy : okV y n maxL) (hyc : y.cls = Cn) (hdd : d0 + 1 ≤ d) (q0 : Nat) (he : w[q0]? = some (b, .inr (ci, fs))) (hcl : vwCl[ci]? = some (Cn, T, N)) (is iR : List Nat) (hnd : va_nd is = true) (hs : is.map (fun i => w[i]?) = wc.map some) (hsR : iR.map (fun i => w[i]?) = (pick w iR).map some) (hnR : va_nd iR = true) (hdis : ∀ i ∈ iR, i ∉ is) (hn : As.length = n) (hcat : (st.map fun v => v.category).sum ≤ 8) (hcs : cs + mc0 ≤ mc) (hsl : sl + ms0 ≤ ms) (hst : st' = As.reverse ++ .ref b :: st) (hd : decode cc pc = .ok (.invokevirtual index, 3)) (hp : pc + 3 = pc') (kk : ∀ (v : Option Value) (u : va_W), postw v u → X k (cs + mc0) (sl + ms0) (pick w iR ++ u) pc' L (v.toList ++ st)) : X k cs sl w pc L st' := by
  intro H locs ls hP hD hS hl
  have hR := C.2.2.2.2.2.2.2.2.2.1
  exact x_backW C B (a := (Value.ref b :: As).toArray) hP hD hS hl is iR hs hsR hnR hdis (va_runV (C := Cn) (n := n) (nL := kn k) (own := own) (Ts := BIG) (rest := st) (As := As) ⟨C.1, C.2.1, C.2.2.2.1, C.2.2.2.2.1, C.2.2.2.2.2.1⟩ (hM H.size) (cwV n C.2.2.2.2.2.1 gw rfl rfl rfl ⟨hyc, hy.1, hy.2.1, hy.2.2.1⟩ (by rw [hR]; exact room_le hdd hy.2.2.2)) ⟨fb_W, va_recv C.2.2.2.2.2.2.2.1.1 hP hcl he, fun U hU hW => ⟨rfl, x_preW C B hP hD hS is hnd hs U hU hW⟩⟩ rfl hn hl.2.2.1 hst (lv_room hcat) hd ⟨by rw [hR]; exact hcs, by rw [hR]; exact hsl⟩) (hp ▸ kk)
theorem x_wS (C : Ck k own cc ret d mc ms post) (B : Cw k) {mc0 ms0 : Nat} {postw : Option Value → va_W → Prop} (hM : CWx (kl k) y (.code y bytes maxL rt) d0 mc0 ms0 (kg k) As wc postw) (gw : GoodIn BIG (va_wsS own index y (wB (.code y bytes maxL rt)))) (hy : okV y n maxL) (hdd : d0 + 1 ≤ d) (is iR : List Nat) (hnd : va_nd is = true) (hs : is.map (fun i => w[i]?) = wc.map some) (hsR : iR.map (fun i => w[i]?) = (pick w iR).map some) (hnR : va_nd iR = true) (hdis : ∀ i ∈ iR, i ∉ is) (hn : As.length = n) (hcat : (st.map fun v => v.category).sum ≤ 8) (hcs : cs + mc0 ≤ mc) (hsl : sl + ms0 ≤ ms) (hst : st' = As.reverse ++ st) (hd : decode cc pc = .ok (.invokestatic index, 3)) (hp : pc + 3 = pc') (kk : ∀ (v : Option Value) (u : va_W), postw v u → X k (cs + mc0) (sl + ms0) (pick w iR ++ u) pc' L (v.toList ++ st)) : X k cs sl w pc L st' := by
  intro H locs ls hP hD hS hl
  have hR := C.2.2.2.2.2.2.2.2.2.1
  exact x_backW C B (a := As.toArray) hP hD hS hl is iR hs hsR hnR hdis (va_runS (n := n) (nL := kn k) (own := own) (Ts := BIG) (rest := st) (As := As) ⟨C.1, C.2.1, C.2.2.2.1, C.2.2.2.2.1, C.2.2.2.2.2.1⟩ (hM H.size) (va_cwS n C.2.2.2.2.2.1 gw rfl rfl rfl ⟨hy.1, hy.2.1, hy.2.2.1⟩ (by rw [hR]; exact room_le hdd hy.2.2.2)) ⟨fb_W, fun U hU hW => ⟨rfl, x_preW C B hP hD hS is hnd hs U hU hW⟩⟩ rfl hn hl.2.2.1 hst (lv_room hcat) hd ⟨by rw [hR]; exact hcs, by rw [hR]; exact hsl⟩) (hp ▸ kk)
theorem x_wI (C : Ck k own cc ret d mc ms post) (B : Cw k) {mc0 ms0 b : Nat} {postw : Option Value → va_W → Prop} (hM : CWx (kl k) y (.code y bytes maxL none) d0 mc0 ms0 (kg k) (.ref b :: As) wc postw) (gw : GoodIn BIG (wB (.code y bytes maxL none))) (h1 : Cond.methodLink own index y ∈ BIG) (h2 : Cond.instanceMethod y ∈ BIG) (h3 : Cond.initialized y.cls ∈ BIG) (hy1 : y.name = "<init>") (hy : okV y n maxL) (hdd : d0 + 1 ≤ d) (is iR : List Nat) (hnd : va_nd is = true) (hs : is.map (fun i => w[i]?) = wc.map some) (hsR : iR.map (fun i => w[i]?) = (pick w iR).map some) (hnR : va_nd iR = true) (hdis : ∀ i ∈ iR, i ∉ is) (hn : As.length = n) (hcat : (st.map fun v => v.category).sum ≤ 8) (hcs : cs + mc0 ≤ mc) (hsl : sl + ms0 ≤ ms) (hst : st' = As.reverse ++ .ref b :: st) (hd : decode cc pc = .ok (.invokespecial index, 3)) (hp : pc + 3 = pc') (kk : ∀ (v : Option Value) (u : va_W), postw v u → X k (cs + mc0) (sl + ms0) (pick w iR ++ u) pc' L (v.toList ++ st)) : X k cs sl w pc L st' := by
  intro H locs ls hP hD hS hl
  have hR := C.2.2.2.2.2.2.2.2.2.1
  exact x_backW C B (a := (Value.ref b :: As).toArray) hP hD hS hl is iR hs hsR hnR hdis (va_runI (n := n) (nL := kn k) (own := own) (Ts := BIG) (rest := st) (As := As) ⟨C.1, C.2.1, C.2.2.2.1, C.2.2.2.2.1, C.2.2.2.2.2.1⟩ (hM H.size) (cwI n C.2.2.2.2.2.1 gw rfl rfl rfl (C.2.2.2.2.2.1 _ h3) (C.2.2.2.2.2.1 _ h1) (C.2.2.2.2.2.1 _ h2) hy1 ⟨hy.1, hy.2.1, hy.2.2.1⟩ (by rw [hR]; exact room_le hdd hy.2.2.2)) ⟨fb_W, fun U hU hW => ⟨rfl, x_preW C B hP hD hS is hnd hs U hU hW⟩⟩ rfl hn hl.2.2.1 hst (lv_room hcat) hd ⟨by rw [hR]; exact hcs, by rw [hR]; exact hsl⟩) (hp ▸ kk)
/-- a writing call whose new world is known: it's put in its places; pn: the new world's cells by their places among the rest and the callee's -/
theorem x_WV (C : Ck k own cc ret d mc ms post) (B : Cw k) {Cn : String} {T : u_T} {N b ci : Nat} {fs : List Value} {wc' : va_W} (hM : CW (kl k) y (.code y bytes maxL rt) d0 (kg k) (.ref b :: As) wc r wc') (gw : GoodIn BIG (wsV own index Cn y (wB (.code y bytes maxL rt)))) (hy : okV y n maxL) (hyc : y.cls = Cn) (hdd : d0 + 1 ≤ d) (q0 : Nat) (he : w[q0]? = some (b, .inr (ci, fs))) (hcl : vwCl[ci]? = some (Cn, T, N)) (is iR pn : List Nat) (wn : va_W) (hnd : va_nd is = true) (hs : is.map (fun i => w[i]?) = wc.map some) (hsR : iR.map (fun i => w[i]?) = (pick w iR).map some) (hnR : va_nd iR = true) (hdis : ∀ i ∈ iR, i ∉ is) (hnp : va_nd pn = true) (hpn : pn.map (fun i => (pick w iR ++ wc')[i]?) = wn.map some) (hn : As.length = n) (hcat : (st.map fun v => v.category).sum ≤ 8) (hcs : cs ≤ mc) (hsl : sl ≤ ms) (hst : st' = As.reverse ++ .ref b :: st) (hd : decode cc pc = .ok (.invokevirtual index, 3)) (hp : pc + 3 = pc') (hr : r.toList ++ st = st2) (kk : X k cs sl wn pc' L st2) : X k cs sl w pc L st' :=
  x_wV C B hM gw hy hyc hdd q0 he hcl is iR hnd hs hsR hnR hdis hn hcat hcs hsl hst hd hp (fun v u hv => by rw [hv.1, hv.2, hr]; exact x_perm pn hnp hpn kk)
theorem x_WS (C : Ck k own cc ret d mc ms post) (B : Cw k) {wc' : va_W} (hM : CW (kl k) y (.code y bytes maxL rt) d0 (kg k) As wc r wc') (gw : GoodIn BIG (va_wsS own index y (wB (.code y bytes maxL rt)))) (hy : okV y n maxL) (hdd : d0 + 1 ≤ d) (is iR pn : List Nat) (wn : va_W) (hnd : va_nd is = true) (hs : is.map (fun i => w[i]?) = wc.map some) (hsR : iR.map (fun i => w[i]?) = (pick w iR).map some) (hnR : va_nd iR = true) (hdis : ∀ i ∈ iR, i ∉ is) (hnp : va_nd pn = true) (hpn : pn.map (fun i => (pick w iR ++ wc')[i]?) = wn.map some) (hn : As.length = n) (hcat : (st.map fun v => v.category).sum ≤ 8) (hcs : cs ≤ mc) (hsl : sl ≤ ms) (hst : st' = As.reverse ++ st) (hd : decode cc pc = .ok (.invokestatic index, 3)) (hp : pc + 3 = pc') (hr : r.toList ++ st = st2) (kk : X k cs sl wn pc' L st2) : X k cs sl w pc L st' :=
  x_wS C B hM gw hy hdd is iR hnd hs hsR hnR hdis hn hcat hcs hsl hst hd hp (fun v u hv => by rw [hv.1, hv.2, hr]; exact x_perm pn hnp hpn kk)
theorem x_objInit (C : Ck k own cc ret d mc ms post) {a : Nat} (h1 : Cond.methodLink own index objectInit ∈ BIG) (h2 : Cond.instanceMethod objectInit ∈ BIG) (h3 : Cond.code objectInit ⟨#[0xb1]⟩ 1 none ∈ BIG) (hdd : 1 ≤ d) (hcat : (st.map fun v => v.category).sum ≤ 8) (hd : decode cc pc = .ok (.invokespecial index, 3)) (hp : pc + 3 = pc') (kk : X k cs sl w pc' L st) : X k cs sl w pc L (.ref a :: st) := by
  intro H locs ls hP hD hS hl
  have hR := C.2.2.2.2.2.2.2.2.2.1
  exact W.objInit C.1 C.2.1 C.2.2.2.2.1 (C.2.2.2.2.2.1 _ h1) (C.2.2.2.2.2.1 _ h2) (C.2.2.2.2.2.1 _ h3) rfl (by rw [C.2.2.2.1]; exact hl.2.2.1) rfl hd (by rw [hR]; exact hdd) (by rw [hR]; show 2 * 0 + _ + 12 ≤ 36 * d; omega) (hp ▸ kk H locs ls hP hD hS hl)
end CALLS
/-! helpers of the printed walks -/
def bind1 {α : Type} {β : Sort _} (x : α) (f : α → β) : β := f x
theorem bd {α β : Type} {R : β} {x : α} {f : α → β} (h : R = bind1 x f) (z : α) (e : z = x) : R = f z := e ▸ h
theorem bdP {α : Type} {x : α} {f : α → Prop} (h : bind1 x f) (z : α) (e : z = x) : f z := e ▸ h
theorem x_forget {k : KT} {cs sl : Nat} {w : va_W} {pc : Nat} {L L' : List (Option Value)} {st : List Value} (ps : List Nat) (h1 : L'.length = L.length) (h2 : lv_pick (lpairs 0 L) ps = lpairs 0 L') (kk : X k cs sl w pc L' st) : X k cs sl w pc L st := fun H locs ls hP hD hS hl => kk H locs ls hP hD hS ⟨h1.trans hl.1, fun v hv => by
  obtain ⟨i, hi⟩ := List.getElem?_of_mem hv
  have h3 : (i, v) ∈ lpairs 0 L' := lh_mem hi
  rw [← h2] at h3
  obtain ⟨j, -, hj⟩ := List.mem_filterMap.mp h3
  obtain ⟨-, h4⟩ := (lpairs_mem L 0 i v).mp (List.mem_of_getElem? hj)
  exact hl.2.1 v (List.mem_of_getElem? h4), lv_sub hl.2.2 ps h2⟩
/-- what a system's piece holds: its numbers and its rows, by the fields' places -/
abbrev CS : Type := (Nat → Int32) × (Nat → Nat → Int32)
def setI (S : CS) (j : Nat) (v : Int32) : CS := (upd S.1 j v, S.2)
def setF (S : CS) (j : Nat) (f : Nat → Int32) : CS := (S.1, va_up S.2 j f)
def dfCS : CS := (fun _ => 0, fun _ _ => 0)
def wAr (g : GT) (a n : Nat) (f : Nat → Int32) : va_W := [(a, .inl (gI g, (n, .inl f)))]
def wSt (g : GT) (h : Nat) (ad : Nat → Nat) (S : CS) : va_W := [(h, .inr (3, [.int (S.1 0), .int (S.1 1), .int (S.1 2), .ref (ad 3), .ref (ad 4), .ref (ad 5), .ref (ad 6), .int (S.1 7), .int (S.1 8), .int (S.1 9), .int (S.1 10), .int (S.1 11), .int (S.1 12)])), (ad 3, .inl (gI g, (24, .inl (S.2 3)))), (ad 4, .inl (gI g, (24, .inl (S.2 4)))), (ad 5, .inl (gI g, (24, .inl (S.2 5)))), (ad 6, .inl (gI g, (192, .inl (S.2 6))))]
def wRe (g : GT) (h : Nat) (ad : Nat → Nat) (S : CS) : va_W := [(h, .inr (2, [.int (S.1 0), .ref (ad 1), .ref (ad 2), .ref (ad 3)])), (ad 1, .inl (gI g, (24, .inl (S.2 1)))), (ad 2, .inl (gI g, (24, .inl (S.2 2)))), (ad 3, .inl (gI g, (24, .inl (S.2 3))))]
def wOr (g : GT) (h : Nat) (ad : Nat → Nat) (S : CS) : va_W := [(h, .inr (1, [.ref (ad 0), .int (S.1 1), .int (S.1 2), .int (S.1 3), .ref (ad 4), .ref (ad 5), .ref (ad 6), .ref (ad 7)])), (ad 0, .inl (gC g, (80, .inl (S.2 0)))), (ad 4, .inl (gI g, (16, .inl (S.2 4)))), (ad 5, .inl (gI g, (16, .inl (S.2 5)))), (ad 6, .inl (gI g, (16, .inl (S.2 6)))), (ad 7, .inl (gI g, (16, .inl (S.2 7))))]
def wMo (g : GT) (h : Nat) (ad : Nat → Nat) (S : CS) : va_W := [(h, .inr (5, [.ref (ad 0), .ref (ad 1), .ref (ad 2), .int (S.1 3), .ref (ad 4), .int (S.1 5), .ref (ad 6), .int (S.1 7), .int (S.1 8), .int (S.1 9), .ref (ad 10), .int (S.1 11), .int (S.1 12), .int (S.1 13), .int (S.1 14), .int (S.1 15), .int (S.1 16), .int (S.1 17), .int (S.1 18)])), (ad 0, .inl (gI g, (318, .inl (S.2 0)))), (ad 1, .inl (gI g, (318, .inl (S.2 1)))), (ad 2, .inl (gI g, (1272, .inl (S.2 2)))), (ad 4, .inl (gI g, (318, .inl (S.2 4)))), (ad 6, .inl (gI g, (80, .inl (S.2 6)))), (ad 10, .inl (gI g, (24, .inl (S.2 10))))]
/-- the class's own object; ad: where its parts lie -/
def wMa (h : Nat) (ad : Nat → Nat) (S : CS) : va_W := [(h, .inr (4, [.ref (ad 0), .ref (ad 1), .ref (ad 2), .int (S.1 3), .ref (ad 4), .ref (ad 5), .ref (ad 6), .int (S.1 7), .int (S.1 8), .int (S.1 9)]))]

def ushr (x y : Int32) : Int32 := (x.toUInt32 >>> (y.toUInt32 &&& Int32.toUInt32 31)).toInt32
def imax (x y : Int32) : Int32 := if x < y then y else x
def imin (x y : Int32) : Int32 := if y < x then y else x
def i2c (x : Int32) : Int32 := (x.toUInt32 % 65536).toInt32
theorem bI_fit (b : Bool) : fits .boolean (.int (bI b)) = true := by cases b <;> rfl
theorem in_of {x : Int32} {n : Nat} (h1 : ¬ x < 0) (h2 : x < nI n) (hn : n < 2 ^ 31) : vp_in x n := by
  obtain ⟨j, hj, rfl⟩ := nI_of h1
  exact vp_in_nI ((nI_ltI hj hn).mp h2) hn
/-! cells that nobody writes: a static field, a text, its row of bytes -/
section OUT
variable {k : KT} {own : String} {cc : ByteArray} {ret : Option FieldType} {d mc ms : Nat} {post : Option Value → va_W → Prop} {cs sl : Nat} {w : va_W} {pc pc' : Nat} {L L' : List (Option Value)} {st st' st2 : List Value}
variable {y : MethodName} {bytes : ByteArray} {maxL n d0 index : Nat} {rt : Option FieldType} {As : List Value} {wc : va_W} {r : Option Value} {postr : Option Value → Prop}
theorem x_gets (C : Ck k own cc ret d mc ms post) {Cn nm ds : String} {v : Value} (hZ : va_Z Cn nm ds v (kA k) (ks k) (ks k).heap) (hlink : Cond.fieldLink own index Cn nm ds ∈ BIG) (hd : decode cc pc = .ok (.getstatic index, 3)) (hp : pc + 3 = pc') (kk : X k cs sl w pc' L (v :: st)) : X k cs sl w pc L st := by
  intro H locs ls hP hD hS hl
  obtain ⟨cf, kf, fi, f, a, cell, h1, h2, h3, h4, h5, h6, h7, -⟩ := hZ.kept (C.2.2.2.2.2.2.2.2.1 H locs hS).2
  exact W.gets C.1 C.2.1 C.2.2.2.2.1 (C.2.2.2.2.2.1 _ hlink) h1 h2 h3 h4 h5 (fun e => by rw [e] at h6; cases h6) h7 rfl hd (hp ▸ kk H locs ls hP hD hS hl)
theorem x_getsq (C : Ck k own cc ret d mc ms post) {Cn nm ds : String} (hZ : va_Zq Cn nm ds (kA k) (ks k) (ks k).heap) (hlink : Cond.fieldLink own index Cn nm ds ∈ BIG) (hd : decode cc pc = .ok (.getstatic index, 3)) (hp : pc + 3 = pc') (kk : ∀ o : Option Nat, X k cs sl w pc' L (va_rf o :: st)) : X k cs sl w pc L st := by
  rcases hZ with h | ⟨t, h⟩
  · exact x_gets C h hlink hd hp (kk none)
  · exact x_gets C h hlink hd hp (kk (some t))
theorem x_getO (C : Ck k own cc ret d mc ms post) {Cn nm ds : String} {v : Value} {q : Nat} (hE : va_OF Cn nm ds v q (kA k) (ks k) (ks k).heap) (hlink : Cond.fieldLink own index Cn nm ds ∈ BIG) (hd : decode cc pc = .ok (.getfield index, 3)) (hp : pc + 3 = pc') (kk : X k cs sl w pc' L (v :: st)) : X k cs sl w pc L (.ref q :: st) := by
  intro H locs ls hP hD hS hl
  obtain ⟨cf, k', i, f, cell, h1, h2, h3, h4, h5, h6⟩ := hE.kept (C.2.2.2.2.2.2.2.2.1 H locs hS).2
  exact W.getf C.1 C.2.1 C.2.2.2.2.1 (C.2.2.2.2.2.1 _ hlink) h1 h2 h3 h4 (v := v) h5 rfl rfl hd (hp ▸ kk H locs ls hP hD hS hl)
theorem x_tlen (C : Ck k own cc ret d mc ms post) {ty : FieldType} {t N : Nat} {f : Nat → Value} (hT : va_T ty t N f (kA k) (ks k) (ks k).heap) (hd : decode cc pc = .ok (.arraylength, 1)) (hp : pc + 1 = pc') (kk : X k cs sl w pc' L (.int (nI N) :: st)) : X k cs sl w pc L (.ref t :: st) := by
  intro H locs ls hP hD hS hl
  obtain ⟨cell, h1, h2, h3, h4, h5, h6, h7⟩ := hT.kept (C.2.2.2.2.2.2.2.2.1 H locs hS).2
  exact W.alen (n := Int32.ofNat N) C.1 C.2.1 h1 h2 h5 rfl rfl hd (hp ▸ kk H locs ls hP hD hS hl)
theorem x_tb (C : Ck k own cc ret d mc ms post) {t N : Nat} {f : Nat → Value} (hT : va_T .byte t N f (kA k) (ks k) (ks k).heap) {i : Int32} {v : Value} (hin : vp_in i N) (hv : f i.toNatClampNeg = v) (hd : decode cc pc = .ok (.baload, 1)) (hp : pc + 1 = pc') (kk : X k cs sl w pc' L (v :: st)) : X k cs sl w pc L (.int i :: .ref t :: st) := by
  intro H locs ls hP hD hS hl
  obtain ⟨cell, h1, h2, h3, h4, h5, h6, h7⟩ := hT.kept (C.2.2.2.2.2.2.2.2.1 H locs hS).2
  have hlt : i.toNatClampNeg < N := Nat.not_le.mp fun q => hin (Or.inr q)
  have hin' : ¬ (i < 0 ∨ cell.slots.size ≤ i.toNatClampNeg) := by
    intro q
    rcases q with q | q
    · exact hin (Or.inl q)
    · omega
  exact W.bald (v := v) C.1 C.2.1 h1 h2 h3 hin' (by rw [h6 _ hlt, hv]) rfl rfl hd (hp ▸ kk H locs ls hP hD hS hl)
theorem x_pop (C : Ck k own cc ret d mc ms post) {v : Value} (hd : decode cc pc = .ok (.pop, 1)) (hp : pc + 1 = pc') (hc : v.category = 1) (kk : X k cs sl w pc' L st) : X k cs sl w pc L (v :: st) := fun H locs ls hP hD hS hl => lv_pop C.1 C.2.1 hd hc (hp ▸ kk H locs ls hP hD hS hl)
/-- a reading call on an object that the world doesn't hold -/
theorem x_ROv (C : Ck k own cc ret d mc ms post) {Cn : String} {b : Nat} (hM : CR (kl k) y (.code y bytes maxL rt) d0 (kg k) (.ref b :: As) wc r) (gw : GoodIn BIG (wsV own index Cn y (wB (.code y bytes maxL rt)))) (hy : okV y n maxL) (hyc : y.cls = Cn) (hdd : d0 + 1 ≤ d) (hO : va_O Cn b (kA k) (ks k) (ks k).heap) (is : List Nat) (hnd : va_nd is = true) (hs : is.map (fun i => w[i]?) = wc.map some) (hn : As.length = n) (hcat : (st.map fun v => v.category).sum ≤ 8) (hcs : cs ≤ mc) (hsl : sl ≤ ms) (hst : st' = As.reverse ++ .ref b :: st) (hd : decode cc pc = .ok (.invokevirtual index, 3)) (hp : pc + 3 = pc') (hr : r.toList ++ st = st2) (kk : X k cs sl w pc' L st2) : X k cs sl w pc L st' := by
  intro H locs ls hP hD hS hl
  have hR := C.2.2.2.2.2.2.2.2.2.1
  obtain ⟨cell, q1, q2, q3, -⟩ := hO.kept (C.2.2.2.2.2.2.2.2.1 H locs hS).2
  refine x_backR (postr := fun v => v = r) hP hD hS hl (W.runV (C := Cn) (n := n) (nL := kn k) (own := own) (Ts := BIG) (rest := st) (As := As) (mc := 0) (ms := 0) ⟨C.1, C.2.1, C.2.2.2.1, C.2.2.2.2.1, C.2.2.2.2.2.1⟩ hM (cwV n C.2.2.2.2.2.1 gw rfl rfl rfl ⟨hyc, hy.1, hy.2.1, hy.2.2.1⟩ (by rw [hR]; exact room_le hdd hy.2.2.2)) ⟨fb_R, ⟨cell, q1, q2, q3⟩, fun U hU hW => ⟨rfl, x_preR C hP hD hS is hnd hs U hU hW⟩⟩ rfl hn hl.2.2.1 hst (lv_room hcat) hd ⟨by rw [hR]; exact hcs, by rw [hR]; exact hsl⟩) (fun _ _ _ q => q) (fun v hv => by rw [hv, hr]; exact hp ▸ kk)
end OUT
end
section
theorem tb_1 {w : Cond} (i : Nat) (h : tables_1_1[i]? = some w) (g : goodWord w = true) : w ∈ BIG := big_in (List.mem_append_right _ (List.mem_append_left _ (List.mem_of_getElem? h))) g
theorem tb_2 {w : Cond} (i : Nat) (h : tables_1_2[i]? = some w) (g : goodWord w = true) : w ∈ BIG := big_in (List.mem_append_right _ (List.mem_append_right _ (List.mem_append_left _ (List.mem_of_getElem? h)))) g
theorem tb_3 {w : Cond} (i : Nat) (h : tables_1_3[i]? = some w) (g : goodWord w = true) : w ∈ BIG := big_in (List.mem_append_right _ (List.mem_append_right _ (List.mem_append_right _ (List.mem_append_left _ (List.mem_of_getElem? h))))) g
theorem tb_4 {w : Cond} (i : Nat) (h : tables_1_4[i]? = some w) (g : goodWord w = true) : w ∈ BIG := big_in (List.mem_append_right _ (List.mem_append_right _ (List.mem_append_right _ (List.mem_append_right _ (List.mem_append_left _ (List.mem_of_getElem? h)))))) g
theorem tb_5 {w : Cond} (i : Nat) (h : tables_1_5[i]? = some w) (g : goodWord w = true) : w ∈ BIG := big_in (List.mem_append_right _ (List.mem_append_right _ (List.mem_append_right _ (List.mem_append_right _ (List.mem_append_right _ (List.mem_of_getElem? h)))))) g
theorem tb_0 (z : MethodName) (i n : Nat) (h : lw_privs[i]? = some (z, n)) (g : goodWord (Cond.selects z.cls z z) = true) : Cond.selects z.cls z z ∈ BIG := big_in (List.mem_append_left _ (List.mem_map.mpr ⟨(z, n), List.mem_of_getElem? h, rfl⟩)) g
theorem inBX0 : ∀ w ∈ u_ws RX0 TX0 2, w ∈ BIG := by
  intro w hw
  obtain ⟨k, hk, rfl⟩ := List.mem_map.mp hw
  have hk := List.mem_range.mp hk
  match k, hk with
  | 0, _ => exact tb_1 91 rfl rfl
  | 1, _ => exact tb_1 93 rfl rfl
  | k + 2, h => exact absurd h (by omega)
theorem inBX1 : ∀ w ∈ u_ws RX1 TX1 8, w ∈ BIG := by
  intro w hw
  obtain ⟨k, hk, rfl⟩ := List.mem_map.mp hw
  have hk := List.mem_range.mp hk
  match k, hk with
  | 0, _ => exact tb_1 133 rfl rfl
  | 1, _ => exact tb_1 135 rfl rfl
  | 2, _ => exact tb_1 137 rfl rfl
  | 3, _ => exact tb_1 139 rfl rfl
  | 4, _ => exact tb_1 141 rfl rfl
  | 5, _ => exact tb_1 143 rfl rfl
  | 6, _ => exact tb_1 145 rfl rfl
  | 7, _ => exact tb_1 147 rfl rfl
  | k + 8, h => exact absurd h (by omega)
theorem inBX2 : ∀ w ∈ u_ws RX2 TX2 4, w ∈ BIG := by
  intro w hw
  obtain ⟨k, hk, rfl⟩ := List.mem_map.mp hw
  have hk := List.mem_range.mp hk
  match k, hk with
  | 0, _ => exact tb_1 107 rfl rfl
  | 1, _ => exact tb_1 109 rfl rfl
  | 2, _ => exact tb_1 111 rfl rfl
  | 3, _ => exact tb_1 113 rfl rfl
  | k + 4, h => exact absurd h (by omega)
theorem inBX5 : ∀ w ∈ u_ws RX5 TX5 13, w ∈ BIG := by
  intro w hw
  obtain ⟨k, hk, rfl⟩ := List.mem_map.mp hw
  have hk := List.mem_range.mp hk
  match k, hk with
  | 0, _ => exact tb_1 51 rfl rfl
  | 1, _ => exact tb_1 53 rfl rfl
  | 2, _ => exact tb_1 55 rfl rfl
  | 3, _ => exact tb_1 57 rfl rfl
  | 4, _ => exact tb_1 59 rfl rfl
  | 5, _ => exact tb_1 61 rfl rfl
  | 6, _ => exact tb_1 63 rfl rfl
  | 7, _ => exact tb_1 65 rfl rfl
  | 8, _ => exact tb_1 67 rfl rfl
  | 9, _ => exact tb_1 69 rfl rfl
  | 10, _ => exact tb_1 71 rfl rfl
  | 11, _ => exact tb_1 73 rfl rfl
  | 12, _ => exact tb_1 75 rfl rfl
  | k + 13, h => exact absurd h (by omega)
theorem inBX6 : ∀ w ∈ u_ws RX6 TX6 10, w ∈ BIG := by
  intro w hw
  obtain ⟨k, hk, rfl⟩ := List.mem_map.mp hw
  have hk := List.mem_range.mp hk
  match k, hk with
  | 0, _ => exact tb_1 161 rfl rfl
  | 1, _ => exact tb_1 163 rfl rfl
  | 2, _ => exact tb_1 165 rfl rfl
  | 3, _ => exact tb_1 167 rfl rfl
  | 4, _ => exact tb_1 169 rfl rfl
  | 5, _ => exact tb_1 171 rfl rfl
  | 6, _ => exact tb_1 173 rfl rfl
  | 7, _ => exact tb_1 175 rfl rfl
  | 8, _ => exact tb_1 177 rfl rfl
  | 9, _ => exact tb_1 179 rfl rfl
  | k + 10, h => exact absurd h (by omega)
theorem inBX7 : ∀ w ∈ u_ws RX7 TX7 19, w ∈ BIG := by
  intro w hw
  obtain ⟨k, hk, rfl⟩ := List.mem_map.mp hw
  have hk := List.mem_range.mp hk
  match k, hk with
  | 0, _ => exact tb_4 0 rfl rfl
  | 1, _ => exact tb_4 2 rfl rfl
  | 2, _ => exact tb_4 4 rfl rfl
  | 3, _ => exact tb_4 6 rfl rfl
  | 4, _ => exact tb_4 8 rfl rfl
  | 5, _ => exact tb_4 10 rfl rfl
  | 6, _ => exact tb_4 12 rfl rfl
  | 7, _ => exact tb_4 14 rfl rfl
  | 8, _ => exact tb_4 16 rfl rfl
  | 9, _ => exact tb_4 18 rfl rfl
  | 10, _ => exact tb_4 20 rfl rfl
  | 11, _ => exact tb_4 22 rfl rfl
  | 12, _ => exact tb_4 24 rfl rfl
  | 13, _ => exact tb_4 26 rfl rfl
  | 14, _ => exact tb_4 28 rfl rfl
  | 15, _ => exact tb_4 30 rfl rfl
  | 16, _ => exact tb_4 32 rfl rfl
  | 17, _ => exact tb_4 34 rfl rfl
  | 18, _ => exact tb_4 36 rfl rfl
  | k + 19, h => exact absurd h (by omega)
theorem kn_J6_264 : Cond.constant RJ6 264 (65536 : Int32) ∈ BIG := tb_2 130 rfl rfl
theorem kn_J6_265 : Cond.constant RJ6 265 (1431655765 : Int32) ∈ BIG := tb_2 85 rfl rfl
theorem kn_J6_266 : Cond.constant RJ6 266 (858993459 : Int32) ∈ BIG := tb_2 86 rfl rfl
theorem kn_J6_267 : Cond.constant RJ6 267 (252645135 : Int32) ∈ BIG := tb_2 87 rfl rfl
theorem kn_X7_194 : Cond.constant RX7 194 (1000000000 : Int32) ∈ BIG := tb_5 34 rfl rfl
theorem fl_J0_1053 : Cond.fieldLink RJ0 1053 "jdk/internal/util/Preconditions" "SIOOBE_FORMATTER" "Ljava/util/function/BiFunction;" ∈ BIG := tb_3 26 rfl rfl
theorem fl_J0_15 : Cond.fieldLink RJ0 15 "java/lang/String" "coder" "B" ∈ BIG := tb_5 56 rfl rfl
theorem fl_J0_38 : Cond.fieldLink RJ0 38 "java/lang/String" "COMPACT_STRINGS" "Z" ∈ BIG := tb_3 6 rfl rfl
theorem fl_J0_9 : Cond.fieldLink RJ0 9 "java/lang/String" "value" "[B" ∈ BIG := tb_5 55 rfl rfl
theorem fl_J2_44 : Cond.fieldLink RJ2 44 "java/lang/StringUTF16" "$assertionsDisabled" "Z" ∈ BIG := tb_3 44 rfl rfl
theorem fl_J2_59 : Cond.fieldLink RJ2 59 "java/lang/StringUTF16" "HI_BYTE_SHIFT" "I" ∈ BIG := tb_3 46 rfl rfl
theorem fl_J2_63 : Cond.fieldLink RJ2 63 "java/lang/StringUTF16" "LO_BYTE_SHIFT" "I" ∈ BIG := tb_3 48 rfl rfl
theorem fl_X0_11 : Cond.fieldLink RX0 11 "RootedDeltas$History" "states" "[LRootedDeltas$State;" ∈ BIG := tb_1 88 rfl rfl
theorem fl_X0_18 : Cond.fieldLink RX0 18 "RootedDeltas$History" "size" "I" ∈ BIG := tb_1 89 rfl rfl
theorem fl_X1_15 : Cond.fieldLink RX1 15 "RootedDeltas$Orders" "words" "[I" ∈ BIG := tb_1 129 rfl rfl
theorem fl_X1_19 : Cond.fieldLink RX1 19 "RootedDeltas$Orders" "first" "[I" ∈ BIG := tb_1 130 rfl rfl
theorem fl_X1_22 : Cond.fieldLink RX1 22 "RootedDeltas$Orders" "second" "[I" ∈ BIG := tb_1 131 rfl rfl
theorem fl_X1_25 : Cond.fieldLink RX1 25 "RootedDeltas$Orders" "third" "[I" ∈ BIG := tb_1 132 rfl rfl
theorem fl_X1_28 : Cond.fieldLink RX1 28 "RootedDeltas$Orders" "length" "I" ∈ BIG := tb_1 123 rfl rfl
theorem fl_X1_38 : Cond.fieldLink RX1 38 "RootedDeltas$Orders" "place" "I" ∈ BIG := tb_1 125 rfl rfl
theorem fl_X1_41 : Cond.fieldLink RX1 41 "RootedDeltas$Orders" "size" "I" ∈ BIG := tb_1 127 rfl rfl
theorem fl_X1_9 : Cond.fieldLink RX1 9 "RootedDeltas$Orders" "text" "[C" ∈ BIG := tb_1 122 rfl rfl
theorem fl_X2_15 : Cond.fieldLink RX2 15 "RootedDeltas$Reach" "cells" "[I" ∈ BIG := tb_1 105 rfl rfl
theorem fl_X2_18 : Cond.fieldLink RX2 18 "RootedDeltas$Reach" "before" "[I" ∈ BIG := tb_1 106 rfl rfl
theorem fl_X2_27 : Cond.fieldLink RX2 27 "RootedDeltas$Reach" "reached" "I" ∈ BIG := tb_1 102 rfl rfl
theorem fl_X2_68 : Cond.fieldLink RX2 68 "RootedDeltas$State" "roots" "I" ∈ BIG := tb_1 33 rfl rfl
theorem fl_X2_9 : Cond.fieldLink RX2 9 "RootedDeltas$Reach" "steps" "[I" ∈ BIG := tb_1 104 rfl rfl
theorem fl_X5_15 : Cond.fieldLink RX5 15 "RootedDeltas$State" "roots" "I" ∈ BIG := tb_1 32 rfl rfl
theorem fl_X5_18 : Cond.fieldLink RX5 18 "RootedDeltas$State" "source" "[I" ∈ BIG := tb_1 35 rfl rfl
theorem fl_X5_22 : Cond.fieldLink RX5 22 "RootedDeltas$State" "difference" "[I" ∈ BIG := tb_1 36 rfl rfl
theorem fl_X5_25 : Cond.fieldLink RX5 25 "RootedDeltas$State" "asked" "[I" ∈ BIG := tb_1 37 rfl rfl
theorem fl_X5_28 : Cond.fieldLink RX5 28 "RootedDeltas$State" "numbers" "[I" ∈ BIG := tb_1 38 rfl rfl
theorem fl_X5_31 : Cond.fieldLink RX5 31 "RootedDeltas$State" "rule" "I" ∈ BIG := tb_1 39 rfl rfl
theorem fl_X5_34 : Cond.fieldLink RX5 34 "RootedDeltas$State" "mostSteps" "I" ∈ BIG := tb_1 41 rfl rfl
theorem fl_X5_37 : Cond.fieldLink RX5 37 "RootedDeltas$State" "kept" "I" ∈ BIG := tb_1 31 rfl rfl
theorem fl_X5_46 : Cond.fieldLink RX5 46 "RootedDeltas$State" "askings" "I" ∈ BIG := tb_1 43 rfl rfl
theorem fl_X5_49 : Cond.fieldLink RX5 49 "RootedDeltas$State" "costs" "I" ∈ BIG := tb_1 45 rfl rfl
theorem fl_X5_52 : Cond.fieldLink RX5 52 "RootedDeltas$State" "rootChanges" "I" ∈ BIG := tb_1 47 rfl rfl
theorem fl_X5_55 : Cond.fieldLink RX5 55 "RootedDeltas$State" "wayCuts" "I" ∈ BIG := tb_1 49 rfl rfl
theorem fl_X5_9 : Cond.fieldLink RX5 9 "RootedDeltas$State" "versions" "I" ∈ BIG := tb_1 30 rfl rfl
theorem fl_X6_10 : Cond.fieldLink RX6 10 "RootedDeltas" "now" "LRootedDeltas$State;" ∈ BIG := tb_1 151 rfl rfl
theorem fl_X6_103 : Cond.fieldLink RX6 103 "RootedDeltas$State" "rule" "I" ∈ BIG := tb_1 40 rfl rfl
theorem fl_X6_107 : Cond.fieldLink RX6 107 "RootedDeltas$State" "mostSteps" "I" ∈ BIG := tb_1 42 rfl rfl
theorem fl_X6_114 : Cond.fieldLink RX6 114 "RootedDeltas$Orders" "length" "I" ∈ BIG := tb_1 124 rfl rfl
theorem fl_X6_124 : Cond.fieldLink RX6 124 "RootedDeltas$Orders" "place" "I" ∈ BIG := tb_1 126 rfl rfl
theorem fl_X6_127 : Cond.fieldLink RX6 127 "RootedDeltas$Orders" "size" "I" ∈ BIG := tb_1 128 rfl rfl
theorem fl_X6_137 : Cond.fieldLink RX6 137 "RootedDeltas" "hasStopped" "Z" ∈ BIG := tb_1 158 rfl rfl
theorem fl_X6_141 : Cond.fieldLink RX6 141 "RootedDeltas" "stoppedOrder" "I" ∈ BIG := tb_1 159 rfl rfl
theorem fl_X6_144 : Cond.fieldLink RX6 144 "RootedDeltas" "stoppedError" "I" ∈ BIG := tb_1 160 rfl rfl
theorem fl_X6_151 : Cond.fieldLink RX6 151 "RootedDeltas$History" "size" "I" ∈ BIG := tb_1 90 rfl rfl
theorem fl_X6_156 : Cond.fieldLink RX6 156 "RootedDeltas" "hasSnapshot" "Z" ∈ BIG := tb_1 154 rfl rfl
theorem fl_X6_16 : Cond.fieldLink RX6 16 "RootedDeltas" "before" "LRootedDeltas$State;" ∈ BIG := tb_1 152 rfl rfl
theorem fl_X6_19 : Cond.fieldLink RX6 19 "RootedDeltas" "snapshot" "LRootedDeltas$State;" ∈ BIG := tb_1 153 rfl rfl
theorem fl_X6_208 : Cond.fieldLink RX6 208 "RootedDeltas$Reach" "reached" "I" ∈ BIG := tb_1 103 rfl rfl
theorem fl_X6_217 : Cond.fieldLink RX6 217 "RootedDeltas$State" "askings" "I" ∈ BIG := tb_1 44 rfl rfl
theorem fl_X6_220 : Cond.fieldLink RX6 220 "RootedDeltas$State" "costs" "I" ∈ BIG := tb_1 46 rfl rfl
theorem fl_X6_232 : Cond.fieldLink RX6 232 "RootedDeltas$State" "rootChanges" "I" ∈ BIG := tb_1 48 rfl rfl
theorem fl_X6_235 : Cond.fieldLink RX6 235 "RootedDeltas$State" "wayCuts" "I" ∈ BIG := tb_1 50 rfl rfl
theorem fl_X6_25 : Cond.fieldLink RX6 25 "RootedDeltas" "history" "LRootedDeltas$History;" ∈ BIG := tb_1 155 rfl rfl
theorem fl_X6_278 : Cond.fieldLink RX6 278 "RootedDeltas$State" "roots" "I" ∈ BIG := tb_1 34 rfl rfl
theorem fl_X6_32 : Cond.fieldLink RX6 32 "RootedDeltas" "reach" "LRootedDeltas$Reach;" ∈ BIG := tb_1 156 rfl rfl
theorem fl_X6_39 : Cond.fieldLink RX6 39 "RootedDeltas" "orders" "LRootedDeltas$Orders;" ∈ BIG := tb_1 157 rfl rfl
theorem fl_X7_125 : Cond.fieldLink RX7 125 "RootedDeltasModel" "length" "I" ∈ BIG := tb_3 228 rfl rfl
theorem fl_X7_128 : Cond.fieldLink RX7 128 "RootedDeltasModel" "isWrong" "Z" ∈ BIG := tb_3 235 rfl rfl
theorem fl_X7_13 : Cond.fieldLink RX7 13 "RootedDeltasModel" "aside" "[I" ∈ BIG := tb_3 222 rfl rfl
theorem fl_X7_132 : Cond.fieldLink RX7 132 "RootedDeltasModel" "place" "I" ∈ BIG := tb_3 234 rfl rfl
theorem fl_X7_141 : Cond.fieldLink RX7 141 "RootedDeltasModel" "letter" "I" ∈ BIG := tb_3 236 rfl rfl
theorem fl_X7_151 : Cond.fieldLink RX7 151 "RootedDeltasModel" "one" "I" ∈ BIG := tb_3 237 rfl rfl
theorem fl_X7_154 : Cond.fieldLink RX7 154 "RootedDeltasModel" "two" "I" ∈ BIG := tb_3 238 rfl rfl
theorem fl_X7_157 : Cond.fieldLink RX7 157 "RootedDeltasModel" "three" "I" ∈ BIG := tb_3 239 rfl rfl
theorem fl_X7_16 : Cond.fieldLink RX7 16 "RootedDeltasModel" "before" "[I" ∈ BIG := tb_3 223 rfl rfl
theorem fl_X7_169 : Cond.fieldLink RX7 169 "RootedDeltasModel" "stopError" "I" ∈ BIG := tb_3 230 rfl rfl
theorem fl_X7_179 : Cond.fieldLink RX7 179 "RootedDeltasModel" "isKept" "Z" ∈ BIG := tb_3 226 rfl rfl
theorem fl_X7_19 : Cond.fieldLink RX7 19 "RootedDeltasModel" "kept" "[I" ∈ BIG := tb_3 225 rfl rfl
theorem fl_X7_22 : Cond.fieldLink RX7 22 "RootedDeltasModel" "text" "[I" ∈ BIG := tb_3 227 rfl rfl
theorem fl_X7_25 : Cond.fieldLink RX7 25 "RootedDeltasModel" "stopPlace" "I" ∈ BIG := tb_3 229 rfl rfl
theorem fl_X7_29 : Cond.fieldLink RX7 29 "RootedDeltasModel" "way" "[I" ∈ BIG := tb_3 231 rfl rfl
theorem fl_X7_40 : Cond.fieldLink RX7 40 "RootedDeltasModel" "known" "I" ∈ BIG := tb_3 224 rfl rfl
theorem fl_X7_51 : Cond.fieldLink RX7 51 "RootedDeltasModel" "steps" "I" ∈ BIG := tb_3 232 rfl rfl
theorem fl_X7_58 : Cond.fieldLink RX7 58 "RootedDeltasModel" "wayCells" "I" ∈ BIG := tb_3 233 rfl rfl
theorem fl_X7_7 : Cond.fieldLink RX7 7 "RootedDeltasModel" "s" "[I" ∈ BIG := tb_3 221 rfl rfl
theorem cl_X6_22 : Cond.classLink RX6 22 RX0 ∈ BIG := tb_1 79 rfl rfl
theorem cl_X6_29 : Cond.classLink RX6 29 RX2 ∈ BIG := tb_1 96 rfl rfl
theorem cl_X6_36 : Cond.classLink RX6 36 RX1 ∈ BIG := tb_1 116 rfl rfl
theorem cl_X6_7 : Cond.classLink RX6 7 RX5 ∈ BIG := tb_1 24 rfl rfl
theorem cl_X0_9 : Cond.classLink RX0 9 RX5 ∈ BIG := tb_1 85 rfl rfl
theorem cl_L_10 : Cond.classLink RL 10 RX7 ∈ BIG := tb_3 212 rfl rfl
theorem cl_L_7 : Cond.classLink RL 7 RX6 ∈ BIG := tb_1 16 rfl rfl
theorem ia_X6 : Cond.instantiable RX6 10 ∈ BIG := tb_1 17 rfl rfl
theorem ia_X0 : Cond.instantiable RX0 2 ∈ BIG := tb_1 80 rfl rfl
theorem ia_X1 : Cond.instantiable RX1 8 ∈ BIG := tb_1 117 rfl rfl
theorem ia_X2 : Cond.instantiable RX2 4 ∈ BIG := tb_1 97 rfl rfl
theorem ia_X5 : Cond.instantiable RX5 13 ∈ BIG := tb_1 25 rfl rfl
theorem ia_X7 : Cond.instantiable RX7 19 ∈ BIG := tb_3 213 rfl rfl
theorem in_X0 : Cond.initialized RX0 ∈ BIG := tb_1 3 rfl rfl
theorem in_X1 : Cond.initialized RX1 ∈ BIG := tb_1 5 rfl rfl
theorem in_X2 : Cond.initialized RX2 ∈ BIG := tb_1 4 rfl rfl
theorem in_X3 : Cond.initialized RX3 ∈ BIG := tb_1 7 rfl rfl
theorem in_X4 : Cond.initialized RX4 ∈ BIG := tb_1 10 rfl rfl
theorem in_X5 : Cond.initialized RX5 ∈ BIG := tb_1 2 rfl rfl
theorem in_X6 : Cond.initialized RX6 ∈ BIG := tb_1 1 rfl rfl
theorem in_X7 : Cond.initialized RX7 ∈ BIG := tb_1 6 rfl rfl
theorem in_J0 : Cond.initialized RJ0 ∈ BIG := tb_1 12 rfl rfl
theorem in_J1 : Cond.initialized RJ1 ∈ BIG := tb_1 13 rfl rfl
theorem in_J2 : Cond.initialized RJ2 ∈ BIG := tb_1 15 rfl rfl
theorem in_J3 : Cond.initialized RJ3 ∈ BIG := tb_1 14 rfl rfl
theorem in_J6 : Cond.initialized RJ6 ∈ BIG := tb_1 11 rfl rfl
theorem in_Math : Cond.initialized "java/lang/Math" ∈ BIG := tb_1 8 rfl rfl
theorem in_System : Cond.initialized "java/lang/System" ∈ BIG := tb_1 9 rfl rfl
theorem im_obj : Cond.instanceMethod objectInit ∈ BIG := tb_1 22 rfl rfl
theorem co_obj : Cond.code objectInit ⟨#[0xb1]⟩ 1 none ∈ BIG := tb_1 23 rfl rfl
theorem st_max : Cond.static Lib.Math.max.name ∈ BIG := tb_3 51 rfl rfl
theorem co_max : Cond.code Lib.Math.max.name Lib.Math.max.code 2 (some .int) ∈ BIG := tb_3 52 rfl rfl
theorem st_min : Cond.static Lib.Math.min.name ∈ BIG := tb_1 198 rfl rfl
theorem co_min : Cond.code Lib.Math.min.name Lib.Math.min.code 2 (some .int) ∈ BIG := tb_1 199 rfl rfl
theorem st_acopy : Cond.static arraycopyName ∈ BIG := tb_1 201 rfl rfl
theorem na_acopy : Cond.native arraycopyName ∈ BIG := tb_1 202 rfl rfl
theorem ml_X0_3 : Cond.methodLink RX0 3 objectInit ∈ BIG := tb_1 84 rfl rfl
theorem ml_X1_3 : Cond.methodLink RX1 3 objectInit ∈ BIG := tb_1 121 rfl rfl
theorem ml_X1_79 : Cond.methodLink RX1 79 Lib.Math.max.name ∈ BIG := tb_3 50 rfl rfl
theorem ml_X2_3 : Cond.methodLink RX2 3 objectInit ∈ BIG := tb_1 101 rfl rfl
theorem ml_X2_78 : Cond.methodLink RX2 78 Lib.Math.max.name ∈ BIG := tb_3 202 rfl rfl
theorem ml_X3_13 : Cond.methodLink RX3 13 arraycopyName ∈ BIG := tb_1 200 rfl rfl
theorem ml_X3_7 : Cond.methodLink RX3 7 Lib.Math.min.name ∈ BIG := tb_1 197 rfl rfl
theorem ml_X5_3 : Cond.methodLink RX5 3 objectInit ∈ BIG := tb_1 29 rfl rfl
theorem ml_X6_296 : Cond.methodLink RX6 296 Lib.Math.max.name ∈ BIG := tb_3 203 rfl rfl
theorem ml_X7_1 : Cond.methodLink RX7 1 objectInit ∈ BIG := tb_3 217 rfl rfl
theorem co_J0_charAt_5068e : Cond.code yJ0_charAt_5068e cJ0_charAt_5068e 2 (some .char) ∈ BIG := tb_3 15 rfl rfl
theorem ok_J0_charAt_5068e : okV yJ0_charAt_5068e 1 2 := ⟨by decide +kernel, by decide +kernel, by decide +kernel, by decide +kernel⟩
theorem co_J0_checkIndex_df160 : Cond.code yJ0_checkIndex_df160 cJ0_checkIndex_df160 2 none ∈ BIG := tb_3 25 rfl rfl
theorem ok_J0_checkIndex_df160 : okV yJ0_checkIndex_df160 2 2 := ⟨by decide +kernel, by decide +kernel, by decide +kernel, by decide +kernel⟩
theorem co_J0_coder_7d493 : Cond.code yJ0_coder_7d493 cJ0_coder_7d493 1 (some .byte) ∈ BIG := tb_3 5 rfl rfl
theorem ok_J0_coder_7d493 : okV yJ0_coder_7d493 0 1 := ⟨by decide +kernel, by decide +kernel, by decide +kernel, by decide +kernel⟩
theorem co_J0_isLatin1_aae02 : Cond.code yJ0_isLatin1_aae02 cJ0_isLatin1_aae02 1 (some .boolean) ∈ BIG := tb_3 19 rfl rfl
theorem ok_J0_isLatin1_aae02 : okV yJ0_isLatin1_aae02 0 1 := ⟨by decide +kernel, by decide +kernel, by decide +kernel, by decide +kernel⟩
theorem co_J0_length_8abf5 : Cond.code yJ0_length_8abf5 cJ0_length_8abf5 1 (some .int) ∈ BIG := tb_3 1 rfl rfl
theorem ok_J0_length_8abf5 : okV yJ0_length_8abf5 0 1 := ⟨by decide +kernel, by decide +kernel, by decide +kernel, by decide +kernel⟩
theorem co_J1_charAt_3b067 : Cond.code yJ1_charAt_3b067 cJ1_charAt_3b067 2 (some .char) ∈ BIG := tb_3 22 rfl rfl
theorem ok_J1_charAt_3b067 : okV yJ1_charAt_3b067 2 2 := ⟨by decide +kernel, by decide +kernel, by decide +kernel, by decide +kernel⟩
theorem co_J2_charAt_3b067 : Cond.code yJ2_charAt_3b067 cJ2_charAt_3b067 2 (some .char) ∈ BIG := tb_3 33 rfl rfl
theorem ok_J2_charAt_3b067 : okV yJ2_charAt_3b067 2 2 := ⟨by decide +kernel, by decide +kernel, by decide +kernel, by decide +kernel⟩
theorem co_J2_checkIndex_2214a : Cond.code yJ2_checkIndex_2214a cJ2_checkIndex_2214a 2 none ∈ BIG := tb_3 36 rfl rfl
theorem ok_J2_checkIndex_2214a : okV yJ2_checkIndex_2214a 2 2 := ⟨by decide +kernel, by decide +kernel, by decide +kernel, by decide +kernel⟩
theorem co_J2_getChar_3b067 : Cond.code yJ2_getChar_3b067 cJ2_getChar_3b067 2 (some .char) ∈ BIG := tb_3 43 rfl rfl
theorem ok_J2_getChar_3b067 : okV yJ2_getChar_3b067 2 2 := ⟨by decide +kernel, by decide +kernel, by decide +kernel, by decide +kernel⟩
theorem co_J2_length_9d52b : Cond.code yJ2_length_9d52b cJ2_length_9d52b 1 (some .int) ∈ BIG := tb_3 39 rfl rfl
theorem ok_J2_length_9d52b : okV yJ2_length_9d52b 1 1 := ⟨by decide +kernel, by decide +kernel, by decide +kernel, by decide +kernel⟩
theorem co_J3_checkIndex_8e157 : Cond.code yJ3_checkIndex_8e157 cJ3_checkIndex_8e157 3 (some .int) ∈ BIG := tb_3 30 rfl rfl
theorem ok_J3_checkIndex_8e157 : okV yJ3_checkIndex_8e157 3 3 := ⟨by decide +kernel, by decide +kernel, by decide +kernel, by decide +kernel⟩
theorem co_J6_bitCount_0f7a4 : Cond.code yJ6_bitCount_0f7a4 cJ6_bitCount_0f7a4 1 (some .int) ∈ BIG := tb_2 84 rfl rfl
theorem ok_J6_bitCount_0f7a4 : okV yJ6_bitCount_0f7a4 1 1 := ⟨by decide +kernel, by decide +kernel, by decide +kernel, by decide +kernel⟩
theorem co_J6_numberOfTrailingZeros_0f7a4 : Cond.code yJ6_numberOfTrailingZeros_0f7a4 cJ6_numberOfTrailingZeros_0f7a4 2 (some .int) ∈ BIG := tb_2 129 rfl rfl
theorem ok_J6_numberOfTrailingZeros_0f7a4 : okV yJ6_numberOfTrailingZeros_0f7a4 1 2 := ⟨by decide +kernel, by decide +kernel, by decide +kernel, by decide +kernel⟩
theorem co_X0_dropOldest : Cond.code yX0_dropOldest cX0_dropOldest 3 none ∈ BIG := tb_2 27 rfl rfl
theorem ok_X0_dropOldest : okV yX0_dropOldest 0 3 := ⟨by decide +kernel, by decide +kernel, by decide +kernel, by decide +kernel⟩
theorem co_X0_record : Cond.code yX0_record cX0_record 3 none ∈ BIG := tb_2 23 rfl rfl
theorem ok_X0_record : okV yX0_record 1 3 := ⟨by decide +kernel, by decide +kernel, by decide +kernel, by decide +kernel⟩
theorem co_X0_stateAt : Cond.code yX0_stateAt cX0_stateAt 2 (some (.object "RootedDeltas$State")) ∈ BIG := tb_2 31 rfl rfl
theorem ok_X0_stateAt : okV yX0_stateAt 1 2 := ⟨by decide +kernel, by decide +kernel, by decide +kernel, by decide +kernel⟩
theorem co_X0_takeLatest : Cond.code yX0_takeLatest cX0_takeLatest 3 (some .boolean) ∈ BIG := tb_3 112 rfl rfl
theorem ok_X0_takeLatest : okV yX0_takeLatest 1 3 := ⟨by decide +kernel, by decide +kernel, by decide +kernel, by decide +kernel⟩
theorem co_X1_add : Cond.code yX1_add cX1_add 2 (some .boolean) ∈ BIG := tb_2 201 rfl rfl
theorem ok_X1_add : okV yX1_add 1 2 := ⟨by decide +kernel, by decide +kernel, by decide +kernel, by decide +kernel⟩
theorem co_X1_alikeFromHere : Cond.code yX1_alikeFromHere cX1_alikeFromHere 3 (some .int) ∈ BIG := tb_2 237 rfl rfl
theorem ok_X1_alikeFromHere : okV yX1_alikeFromHere 1 3 := ⟨by decide +kernel, by decide +kernel, by decide +kernel, by decide +kernel⟩
theorem co_X1_clear : Cond.code yX1_clear cX1_clear 2 (some .int) ∈ BIG := tb_2 209 rfl rfl
theorem ok_X1_clear : okV yX1_clear 0 2 := ⟨by decide +kernel, by decide +kernel, by decide +kernel, by decide +kernel⟩
theorem co_X1_digitAt : Cond.code yX1_digitAt cX1_digitAt 3 (some .int) ∈ BIG := tb_3 65 rfl rfl
theorem ok_X1_digitAt : okV yX1_digitAt 1 3 := ⟨by decide +kernel, by decide +kernel, by decide +kernel, by decide +kernel⟩
theorem co_X1_firstOf : Cond.code yX1_firstOf cX1_firstOf 2 (some .int) ∈ BIG := tb_3 82 rfl rfl
theorem ok_X1_firstOf : okV yX1_firstOf 1 2 := ⟨by decide +kernel, by decide +kernel, by decide +kernel, by decide +kernel⟩
theorem co_X1_lettersOf : Cond.code yX1_lettersOf cX1_lettersOf 1 (some (.object "java/lang/String")) ∈ BIG := tb_2 228 rfl rfl
theorem ok_X1_lettersOf : okV yX1_lettersOf 1 1 := ⟨by decide +kernel, by decide +kernel, by decide +kernel, by decide +kernel⟩
theorem co_X1_read : Cond.code yX1_read cX1_read 2 (some .boolean) ∈ BIG := tb_2 217 rfl rfl
theorem ok_X1_read : okV yX1_read 0 2 := ⟨by decide +kernel, by decide +kernel, by decide +kernel, by decide +kernel⟩
theorem co_X1_readCells : Cond.code yX1_readCells cX1_readCells 4 (some .boolean) ∈ BIG := tb_3 73 rfl rfl
theorem ok_X1_readCells : okV yX1_readCells 0 4 := ⟨by decide +kernel, by decide +kernel, by decide +kernel, by decide +kernel⟩
theorem co_X1_readMoreDigits : Cond.code yX1_readMoreDigits cX1_readMoreDigits 5 (some .int) ∈ BIG := tb_3 69 rfl rfl
theorem ok_X1_readMoreDigits : okV yX1_readMoreDigits 2 5 := ⟨by decide +kernel, by decide +kernel, by decide +kernel, by decide +kernel⟩
theorem co_X1_readNumber : Cond.code yX1_readNumber cX1_readNumber 4 (some .boolean) ∈ BIG := tb_3 57 rfl rfl
theorem ok_X1_readNumber : okV yX1_readNumber 2 4 := ⟨by decide +kernel, by decide +kernel, by decide +kernel, by decide +kernel⟩
theorem co_X1_readOrder : Cond.code yX1_readOrder cX1_readOrder 2 (some .boolean) ∈ BIG := tb_2 221 rfl rfl
theorem ok_X1_readOrder : okV yX1_readOrder 0 2 := ⟨by decide +kernel, by decide +kernel, by decide +kernel, by decide +kernel⟩
theorem co_X1_readSign : Cond.code yX1_readSign cX1_readSign 2 (some .boolean) ∈ BIG := tb_3 61 rfl rfl
theorem ok_X1_readSign : okV yX1_readSign 1 2 := ⟨by decide +kernel, by decide +kernel, by decide +kernel, by decide +kernel⟩
theorem co_X1_readWord : Cond.code yX1_readWord cX1_readWord 5 (some .int) ∈ BIG := tb_2 225 rfl rfl
theorem ok_X1_readWord : okV yX1_readWord 0 5 := ⟨by decide +kernel, by decide +kernel, by decide +kernel, by decide +kernel⟩
theorem co_X1_secondOf : Cond.code yX1_secondOf cX1_secondOf 2 (some .int) ∈ BIG := tb_3 87 rfl rfl
theorem ok_X1_secondOf : okV yX1_secondOf 1 2 := ⟨by decide +kernel, by decide +kernel, by decide +kernel, by decide +kernel⟩
theorem co_X1_signAt : Cond.code yX1_signAt cX1_signAt 2 (some .int) ∈ BIG := tb_3 11 rfl rfl
theorem ok_X1_signAt : okV yX1_signAt 1 2 := ⟨by decide +kernel, by decide +kernel, by decide +kernel, by decide +kernel⟩
theorem co_X1_thirdOf : Cond.code yX1_thirdOf cX1_thirdOf 2 (some .int) ∈ BIG := tb_3 91 rfl rfl
theorem ok_X1_thirdOf : okV yX1_thirdOf 1 2 := ⟨by decide +kernel, by decide +kernel, by decide +kernel, by decide +kernel⟩
theorem co_X1_wordOf : Cond.code yX1_wordOf cX1_wordOf 2 (some .int) ∈ BIG := tb_3 95 rfl rfl
theorem ok_X1_wordOf : okV yX1_wordOf 1 2 := ⟨by decide +kernel, by decide +kernel, by decide +kernel, by decide +kernel⟩
theorem co_X2_cellsTo : Cond.code yX2_cellsTo cX2_cellsTo 2 (some .int) ∈ BIG := tb_2 117 rfl rfl
theorem ok_X2_cellsTo : okV yX2_cellsTo 1 2 := ⟨by decide +kernel, by decide +kernel, by decide +kernel, by decide +kernel⟩
theorem co_X2_farthest : Cond.code yX2_farthest cX2_farthest 3 (some .int) ∈ BIG := tb_3 201 rfl rfl
theorem ok_X2_farthest : okV yX2_farthest 0 3 := ⟨by decide +kernel, by decide +kernel, by decide +kernel, by decide +kernel⟩
theorem co_X2_rootReached : Cond.code yX2_rootReached cX2_rootReached 2 (some .int) ∈ BIG := tb_2 126 rfl rfl
theorem ok_X2_rootReached : okV yX2_rootReached 1 2 := ⟨by decide +kernel, by decide +kernel, by decide +kernel, by decide +kernel⟩
theorem co_X2_spread : Cond.code yX2_spread cX2_spread 6 none ∈ BIG := tb_2 99 rfl rfl
theorem ok_X2_spread : okV yX2_spread 2 6 := ⟨by decide +kernel, by decide +kernel, by decide +kernel, by decide +kernel⟩
theorem co_X2_spreadAlong : Cond.code yX2_spreadAlong cX2_spreadAlong 7 none ∈ BIG := tb_2 106 rfl rfl
theorem ok_X2_spreadAlong : okV yX2_spreadAlong 2 7 := ⟨by decide +kernel, by decide +kernel, by decide +kernel, by decide +kernel⟩
theorem co_X2_stepsTo : Cond.code yX2_stepsTo cX2_stepsTo 2 (some .int) ∈ BIG := tb_2 112 rfl rfl
theorem ok_X2_stepsTo : okV yX2_stepsTo 1 2 := ⟨by decide +kernel, by decide +kernel, by decide +kernel, by decide +kernel⟩
theorem co_X2_towardsStart : Cond.code yX2_towardsStart cX2_towardsStart 5 (some .int) ∈ BIG := tb_2 144 rfl rfl
theorem ok_X2_towardsStart : okV yX2_towardsStart 2 5 := ⟨by decide +kernel, by decide +kernel, by decide +kernel, by decide +kernel⟩
theorem co_X3_at : Cond.code yX3_at cX3_at 2 (some .int) ∈ BIG := tb_1 232 rfl rfl
theorem ok_X3_at : okV yX3_at 2 2 := ⟨by decide +kernel, by decide +kernel, by decide +kernel, by decide +kernel⟩
theorem co_X3_copy : Cond.code yX3_copy cX3_copy 2 none ∈ BIG := tb_1 196 rfl rfl
theorem ok_X3_copy : okV yX3_copy 2 2 := ⟨by decide +kernel, by decide +kernel, by decide +kernel, by decide +kernel⟩
theorem co_X3_put : Cond.code yX3_put cX3_put 3 none ∈ BIG := tb_1 239 rfl rfl
theorem ok_X3_put : okV yX3_put 3 3 := ⟨by decide +kernel, by decide +kernel, by decide +kernel, by decide +kernel⟩
theorem co_X4_isIn : Cond.code yX4_isIn cX4_isIn 2 (some .boolean) ∈ BIG := tb_1 213 rfl rfl
theorem ok_X4_isIn : okV yX4_isIn 2 2 := ⟨by decide +kernel, by decide +kernel, by decide +kernel, by decide +kernel⟩
theorem co_X4_of : Cond.code yX4_of cX4_of 1 (some .int) ∈ BIG := tb_2 7 rfl rfl
theorem ok_X4_of : okV yX4_of 1 1 := ⟨by decide +kernel, by decide +kernel, by decide +kernel, by decide +kernel⟩
theorem co_X5_addRoot : Cond.code yX5_addRoot cX5_addRoot 2 none ∈ BIG := tb_2 65 rfl rfl
theorem ok_X5_addRoot : okV yX5_addRoot 1 2 := ⟨by decide +kernel, by decide +kernel, by decide +kernel, by decide +kernel⟩
theorem co_X5_ancestors : Cond.code yX5_ancestors cX5_ancestors 5 (some .int) ∈ BIG := tb_3 152 rfl rfl
theorem ok_X5_ancestors : okV yX5_ancestors 1 5 := ⟨by decide +kernel, by decide +kernel, by decide +kernel, by decide +kernel⟩
theorem co_X5_askedFor : Cond.code yX5_askedFor cX5_askedFor 2 (some .int) ∈ BIG := tb_2 140 rfl rfl
theorem ok_X5_askedFor : okV yX5_askedFor 1 2 := ⟨by decide +kernel, by decide +kernel, by decide +kernel, by decide +kernel⟩
theorem co_X5_copyCells : Cond.code yX5_copyCells cX5_copyCells 5 none ∈ BIG := tb_1 225 rfl rfl
theorem ok_X5_copyCells : okV yX5_copyCells 3 5 := ⟨by decide +kernel, by decide +kernel, by decide +kernel, by decide +kernel⟩
theorem co_X5_copyFrom : Cond.code yX5_copyFrom cX5_copyFrom 2 none ∈ BIG := tb_1 193 rfl rfl
theorem ok_X5_copyFrom : okV yX5_copyFrom 1 2 := ⟨by decide +kernel, by decide +kernel, by decide +kernel, by decide +kernel⟩
theorem co_X5_cutBetween : Cond.code yX5_cutBetween cX5_cutBetween 4 none ∈ BIG := tb_2 148 rfl rfl
theorem ok_X5_cutBetween : okV yX5_cutBetween 2 4 := ⟨by decide +kernel, by decide +kernel, by decide +kernel, by decide +kernel⟩
theorem co_X5_cutDifference : Cond.code yX5_cutDifference cX5_cutDifference 2 none ∈ BIG := tb_2 73 rfl rfl
theorem ok_X5_cutDifference : okV yX5_cutDifference 1 2 := ⟨by decide +kernel, by decide +kernel, by decide +kernel, by decide +kernel⟩
theorem co_X5_cuts : Cond.code yX5_cuts cX5_cuts 1 (some .int) ∈ BIG := tb_3 193 rfl rfl
theorem ok_X5_cuts : okV yX5_cuts 0 1 := ⟨by decide +kernel, by decide +kernel, by decide +kernel, by decide +kernel⟩
theorem co_X5_differenceOf : Cond.code yX5_differenceOf cX5_differenceOf 2 (some .int) ∈ BIG := tb_2 121 rfl rfl
theorem ok_X5_differenceOf : okV yX5_differenceOf 1 2 := ⟨by decide +kernel, by decide +kernel, by decide +kernel, by decide +kernel⟩
theorem co_X5_drop : Cond.code yX5_drop cX5_drop 2 none ∈ BIG := tb_2 69 rfl rfl
theorem ok_X5_drop : okV yX5_drop 1 2 := ⟨by decide +kernel, by decide +kernel, by decide +kernel, by decide +kernel⟩
theorem co_X5_dropRoot : Cond.code yX5_dropRoot cX5_dropRoot 2 none ∈ BIG := tb_2 77 rfl rfl
theorem ok_X5_dropRoot : okV yX5_dropRoot 1 2 := ⟨by decide +kernel, by decide +kernel, by decide +kernel, by decide +kernel⟩
theorem co_X5_hang : Cond.code yX5_hang cX5_hang 3 none ∈ BIG := tb_2 4 rfl rfl
theorem ok_X5_hang : okV yX5_hang 2 3 := ⟨by decide +kernel, by decide +kernel, by decide +kernel, by decide +kernel⟩
theorem co_X5_has : Cond.code yX5_has cX5_has 2 (some .boolean) ∈ BIG := tb_1 210 rfl rfl
theorem ok_X5_has : okV yX5_has 1 2 := ⟨by decide +kernel, by decide +kernel, by decide +kernel, by decide +kernel⟩
theorem co_X5_hasRowBelow : Cond.code yX5_hasRowBelow cX5_hasRowBelow 3 (some .boolean) ∈ BIG := tb_3 211 rfl rfl
theorem ok_X5_hasRowBelow : okV yX5_hasRowBelow 1 3 := ⟨by decide +kernel, by decide +kernel, by decide +kernel, by decide +kernel⟩
theorem co_X5_howMany : Cond.code yX5_howMany cX5_howMany 1 (some .int) ∈ BIG := tb_2 81 rfl rfl
theorem ok_X5_howMany : okV yX5_howMany 0 1 := ⟨by decide +kernel, by decide +kernel, by decide +kernel, by decide +kernel⟩
theorem co_X5_isKept : Cond.code yX5_isKept cX5_isKept 2 (some .boolean) ∈ BIG := tb_2 60 rfl rfl
theorem ok_X5_isKept : okV yX5_isKept 1 2 := ⟨by decide +kernel, by decide +kernel, by decide +kernel, by decide +kernel⟩
theorem co_X5_isRoot : Cond.code yX5_isRoot cX5_isRoot 2 (some .boolean) ∈ BIG := tb_2 56 rfl rfl
theorem ok_X5_isRoot : okV yX5_isRoot 1 2 := ⟨by decide +kernel, by decide +kernel, by decide +kernel, by decide +kernel⟩
theorem co_X5_keepDifference : Cond.code yX5_keepDifference cX5_keepDifference 2 none ∈ BIG := tb_2 15 rfl rfl
theorem ok_X5_keepDifference : okV yX5_keepDifference 1 2 := ⟨by decide +kernel, by decide +kernel, by decide +kernel, by decide +kernel⟩
theorem co_X5_lowestFree : Cond.code yX5_lowestFree cX5_lowestFree 2 (some .int) ∈ BIG := tb_1 220 rfl rfl
theorem ok_X5_lowestFree : okV yX5_lowestFree 0 2 := ⟨by decide +kernel, by decide +kernel, by decide +kernel, by decide +kernel⟩
theorem co_X5_madeOf : Cond.code yX5_madeOf cX5_madeOf 4 (some .int) ∈ BIG := tb_2 48 rfl rfl
theorem ok_X5_madeOf : okV yX5_madeOf 1 4 := ⟨by decide +kernel, by decide +kernel, by decide +kernel, by decide +kernel⟩
theorem co_X5_moveRoot : Cond.code yX5_moveRoot cX5_moveRoot 3 none ∈ BIG := tb_2 157 rfl rfl
theorem ok_X5_moveRoot : okV yX5_moveRoot 2 3 := ⟨by decide +kernel, by decide +kernel, by decide +kernel, by decide +kernel⟩
theorem co_X5_neverAsked : Cond.code yX5_neverAsked cX5_neverAsked 3 (some .int) ∈ BIG := tb_3 189 rfl rfl
theorem ok_X5_neverAsked : okV yX5_neverAsked 0 3 := ⟨by decide +kernel, by decide +kernel, by decide +kernel, by decide +kernel⟩
theorem co_X5_noteAsking : Cond.code yX5_noteAsking cX5_noteAsking 3 none ∈ BIG := tb_2 136 rfl rfl
theorem ok_X5_noteAsking : okV yX5_noteAsking 2 3 := ⟨by decide +kernel, by decide +kernel, by decide +kernel, by decide +kernel⟩
theorem co_X5_numberIn : Cond.code yX5_numberIn cX5_numberIn 3 (some .int) ∈ BIG := tb_1 229 rfl rfl
theorem ok_X5_numberIn : okV yX5_numberIn 2 3 := ⟨by decide +kernel, by decide +kernel, by decide +kernel, by decide +kernel⟩
theorem co_X5_putNumber : Cond.code yX5_putNumber cX5_putNumber 4 none ∈ BIG := tb_1 236 rfl rfl
theorem ok_X5_putNumber : okV yX5_putNumber 3 4 := ⟨by decide +kernel, by decide +kernel, by decide +kernel, by decide +kernel⟩
theorem co_X5_room : Cond.code yX5_room cX5_room 3 (some .int) ∈ BIG := tb_3 178 rfl rfl
theorem ok_X5_room : okV yX5_room 0 3 := ⟨by decide +kernel, by decide +kernel, by decide +kernel, by decide +kernel⟩
theorem co_X5_roomOf : Cond.code yX5_roomOf cX5_roomOf 2 (some .int) ∈ BIG := tb_3 173 rfl rfl
theorem ok_X5_roomOf : okV yX5_roomOf 1 2 := ⟨by decide +kernel, by decide +kernel, by decide +kernel, by decide +kernel⟩
theorem co_X5_sourceOf : Cond.code yX5_sourceOf cX5_sourceOf 2 (some .int) ∈ BIG := tb_2 52 rfl rfl
theorem ok_X5_sourceOf : okV yX5_sourceOf 1 2 := ⟨by decide +kernel, by decide +kernel, by decide +kernel, by decide +kernel⟩
theorem co_X5_trees : Cond.code yX5_trees cX5_trees 1 (some .int) ∈ BIG := tb_2 179 rfl rfl
theorem ok_X5_trees : okV yX5_trees 0 1 := ⟨by decide +kernel, by decide +kernel, by decide +kernel, by decide +kernel⟩
theorem co_X5_unlikeCells : Cond.code yX5_unlikeCells cX5_unlikeCells 5 (some .int) ∈ BIG := tb_2 11 rfl rfl
theorem ok_X5_unlikeCells : okV yX5_unlikeCells 2 5 := ⟨by decide +kernel, by decide +kernel, by decide +kernel, by decide +kernel⟩
theorem co_X5_unlikeRows : Cond.code yX5_unlikeRows cX5_unlikeRows 3 (some .int) ∈ BIG := tb_3 207 rfl rfl
theorem ok_X5_unlikeRows : okV yX5_unlikeRows 0 3 := ⟨by decide +kernel, by decide +kernel, by decide +kernel, by decide +kernel⟩
theorem co_X6_ask : Cond.code yX6_ask cX6_ask 2 (some .int) ∈ BIG := tb_2 91 rfl rfl
theorem ok_X6_ask : okV yX6_ask 1 2 := ⟨by decide +kernel, by decide +kernel, by decide +kernel, by decide +kernel⟩
theorem co_X6_beginAct : Cond.code yX6_beginAct cX6_beginAct 1 none ∈ BIG := tb_1 189 rfl rfl
theorem ok_X6_beginAct : okV yX6_beginAct 0 1 := ⟨by decide +kernel, by decide +kernel, by decide +kernel, by decide +kernel⟩
theorem co_X6_bestRoot : Cond.code yX6_bestRoot cX6_bestRoot 7 (some .int) ∈ BIG := tb_3 165 rfl rfl
theorem ok_X6_bestRoot : okV yX6_bestRoot 1 7 := ⟨by decide +kernel, by decide +kernel, by decide +kernel, by decide +kernel⟩
theorem co_X6_carryOut : Cond.code yX6_carryOut cX6_carryOut 5 (some .int) ∈ BIG := tb_3 78 rfl rfl
theorem ok_X6_carryOut : okV yX6_carryOut 1 5 := ⟨by decide +kernel, by decide +kernel, by decide +kernel, by decide +kernel⟩
theorem co_X6_cell : Cond.code yX6_cell cX6_cell 3 (some .int) ∈ BIG := tb_3 124 rfl rfl
theorem ok_X6_cell : okV yX6_cell 2 3 := ⟨by decide +kernel, by decide +kernel, by decide +kernel, by decide +kernel⟩
theorem co_X6_clearText : Cond.code yX6_clearText cX6_clearText 1 (some .int) ∈ BIG := tb_2 205 rfl rfl
theorem ok_X6_clearText : okV yX6_clearText 0 1 := ⟨by decide +kernel, by decide +kernel, by decide +kernel, by decide +kernel⟩
theorem co_X6_common : Cond.code yX6_common cX6_common 6 (some .int) ∈ BIG := tb_3 148 rfl rfl
theorem ok_X6_common : okV yX6_common 2 6 := ⟨by decide +kernel, by decide +kernel, by decide +kernel, by decide +kernel⟩
theorem co_X6_costFrom : Cond.code yX6_costFrom cX6_costFrom 4 (some .int) ∈ BIG := tb_3 161 rfl rfl
theorem ok_X6_costFrom : okV yX6_costFrom 1 4 := ⟨by decide +kernel, by decide +kernel, by decide +kernel, by decide +kernel⟩
theorem co_X6_count : Cond.code yX6_count cX6_count 2 (some .int) ∈ BIG := tb_3 185 rfl rfl
theorem ok_X6_count : okV yX6_count 1 2 := ⟨by decide +kernel, by decide +kernel, by decide +kernel, by decide +kernel⟩
theorem co_X6_cut : Cond.code yX6_cut cX6_cut 2 (some .int) ∈ BIG := tb_2 170 rfl rfl
theorem ok_X6_cut : okV yX6_cut 1 2 := ⟨by decide +kernel, by decide +kernel, by decide +kernel, by decide +kernel⟩
theorem co_X6_endAct : Cond.code yX6_endAct cX6_endAct 2 (some .int) ∈ BIG := tb_2 19 rfl rfl
theorem ok_X6_endAct : okV yX6_endAct 1 2 := ⟨by decide +kernel, by decide +kernel, by decide +kernel, by decide +kernel⟩
theorem co_X6_giveRoot : Cond.code yX6_giveRoot cX6_giveRoot 4 none ∈ BIG := tb_2 175 rfl rfl
theorem ok_X6_giveRoot : okV yX6_giveRoot 2 4 := ⟨by decide +kernel, by decide +kernel, by decide +kernel, by decide +kernel⟩
theorem co_X6_ifCut : Cond.code yX6_ifCut cX6_ifCut 3 (some .int) ∈ BIG := tb_3 169 rfl rfl
theorem ok_X6_ifCut : okV yX6_ifCut 1 3 := ⟨by decide +kernel, by decide +kernel, by decide +kernel, by decide +kernel⟩
theorem co_X6_ifRoot : Cond.code yX6_ifRoot cX6_ifRoot 2 (some .int) ∈ BIG := tb_3 157 rfl rfl
theorem ok_X6_ifRoot : okV yX6_ifRoot 1 2 := ⟨by decide +kernel, by decide +kernel, by decide +kernel, by decide +kernel⟩
theorem co_X6_isCell : Cond.code yX6_isCell cX6_isCell 1 (some .boolean) ∈ BIG := tb_1 216 rfl rfl
theorem ok_X6_isCell : okV yX6_isCell 1 1 := ⟨by decide +kernel, by decide +kernel, by decide +kernel, by decide +kernel⟩
theorem co_X6_join : Cond.code yX6_join cX6_join 2 (some .int) ∈ BIG := tb_2 183 rfl rfl
theorem ok_X6_join : okV yX6_join 1 2 := ⟨by decide +kernel, by decide +kernel, by decide +kernel, by decide +kernel⟩
theorem co_X6_keep : Cond.code yX6_keep cX6_keep 1 (some .int) ∈ BIG := tb_3 116 rfl rfl
theorem ok_X6_keep : okV yX6_keep 0 1 := ⟨by decide +kernel, by decide +kernel, by decide +kernel, by decide +kernel⟩
theorem co_X6_longestWay : Cond.code yX6_longestWay cX6_longestWay 3 (some .int) ∈ BIG := tb_3 197 rfl rfl
theorem ok_X6_longestWay : okV yX6_longestWay 0 3 := ⟨by decide +kernel, by decide +kernel, by decide +kernel, by decide +kernel⟩
theorem co_X6_make : Cond.code yX6_make cX6_make 4 (some .int) ∈ BIG := tb_1 185 rfl rfl
theorem ok_X6_make : okV yX6_make 3 4 := ⟨by decide +kernel, by decide +kernel, by decide +kernel, by decide +kernel⟩
theorem co_X6_mix : Cond.code yX6_mix cX6_mix 4 (some .int) ∈ BIG := tb_2 36 rfl rfl
theorem ok_X6_mix : okV yX6_mix 3 4 := ⟨by decide +kernel, by decide +kernel, by decide +kernel, by decide +kernel⟩
theorem co_X6_perform : Cond.code yX6_perform cX6_perform 3 (some .int) ∈ BIG := tb_2 213 rfl rfl
theorem ok_X6_perform : okV yX6_perform 0 3 := ⟨by decide +kernel, by decide +kernel, by decide +kernel, by decide +kernel⟩
theorem co_X6_remove : Cond.code yX6_remove cX6_remove 2 (some .int) ∈ BIG := tb_2 44 rfl rfl
theorem ok_X6_remove : okV yX6_remove 1 2 := ⟨by decide +kernel, by decide +kernel, by decide +kernel, by decide +kernel⟩
theorem co_X6_restore : Cond.code yX6_restore cX6_restore 1 (some .int) ∈ BIG := tb_3 120 rfl rfl
theorem ok_X6_restore : okV yX6_restore 0 1 := ⟨by decide +kernel, by decide +kernel, by decide +kernel, by decide +kernel⟩
theorem co_X6_root : Cond.code yX6_root cX6_root 2 (some .int) ∈ BIG := tb_2 162 rfl rfl
theorem ok_X6_root : okV yX6_root 1 2 := ⟨by decide +kernel, by decide +kernel, by decide +kernel, by decide +kernel⟩
theorem co_X6_rulePrefers : Cond.code yX6_rulePrefers cX6_rulePrefers 3 (some .boolean) ∈ BIG := tb_2 152 rfl rfl
theorem ok_X6_rulePrefers : okV yX6_rulePrefers 2 3 := ⟨by decide +kernel, by decide +kernel, by decide +kernel, by decide +kernel⟩
theorem co_X6_set : Cond.code yX6_set cX6_set 5 (some .int) ∈ BIG := tb_2 193 rfl rfl
theorem ok_X6_set : okV yX6_set 2 5 := ⟨by decide +kernel, by decide +kernel, by decide +kernel, by decide +kernel⟩
theorem co_X6_stopAt : Cond.code yX6_stopAt cX6_stopAt 3 (some .int) ∈ BIG := tb_3 99 rfl rfl
theorem ok_X6_stopAt : okV yX6_stopAt 2 3 := ⟨by decide +kernel, by decide +kernel, by decide +kernel, by decide +kernel⟩
theorem co_X6_stopped : Cond.code yX6_stopped cX6_stopped 2 (some .int) ∈ BIG := tb_3 104 rfl rfl
theorem ok_X6_stopped : okV yX6_stopped 1 2 := ⟨by decide +kernel, by decide +kernel, by decide +kernel, by decide +kernel⟩
theorem co_X6_tellOfTree : Cond.code yX6_tellOfTree cX6_tellOfTree 4 (some .int) ∈ BIG := tb_3 134 rfl rfl
theorem ok_X6_tellOfTree : okV yX6_tellOfTree 2 4 := ⟨by decide +kernel, by decide +kernel, by decide +kernel, by decide +kernel⟩
theorem co_X6_tryAsk : Cond.code yX6_tryAsk cX6_tryAsk 5 (some .int) ∈ BIG := tb_2 95 rfl rfl
theorem ok_X6_tryAsk : okV yX6_tryAsk 1 5 := ⟨by decide +kernel, by decide +kernel, by decide +kernel, by decide +kernel⟩
theorem co_X6_tryJoin : Cond.code yX6_tryJoin cX6_tryJoin 2 (some .int) ∈ BIG := tb_2 187 rfl rfl
theorem ok_X6_tryJoin : okV yX6_tryJoin 1 2 := ⟨by decide +kernel, by decide +kernel, by decide +kernel, by decide +kernel⟩
theorem co_X6_tryMake : Cond.code yX6_tryMake cX6_tryMake 5 (some .int) ∈ BIG := tb_1 206 rfl rfl
theorem ok_X6_tryMake : okV yX6_tryMake 3 5 := ⟨by decide +kernel, by decide +kernel, by decide +kernel, by decide +kernel⟩
theorem co_X6_tryMix : Cond.code yX6_tryMix cX6_tryMix 5 (some .int) ∈ BIG := tb_2 40 rfl rfl
theorem ok_X6_tryMix : okV yX6_tryMix 3 5 := ⟨by decide +kernel, by decide +kernel, by decide +kernel, by decide +kernel⟩
theorem co_X6_tryRoot : Cond.code yX6_tryRoot cX6_tryRoot 3 (some .int) ∈ BIG := tb_2 166 rfl rfl
theorem ok_X6_tryRoot : okV yX6_tryRoot 1 3 := ⟨by decide +kernel, by decide +kernel, by decide +kernel, by decide +kernel⟩
theorem co_X6_type : Cond.code yX6_type cX6_type 2 (some .int) ∈ BIG := tb_2 197 rfl rfl
theorem ok_X6_type : okV yX6_type 1 2 := ⟨by decide +kernel, by decide +kernel, by decide +kernel, by decide +kernel⟩
theorem co_X6_undo : Cond.code yX6_undo cX6_undo 1 (some .int) ∈ BIG := tb_3 108 rfl rfl
theorem ok_X6_undo : okV yX6_undo 0 1 := ⟨by decide +kernel, by decide +kernel, by decide +kernel, by decide +kernel⟩
theorem co_X6_unlike : Cond.code yX6_unlike cX6_unlike 3 (some .int) ∈ BIG := tb_3 143 rfl rfl
theorem ok_X6_unlike : okV yX6_unlike 2 3 := ⟨by decide +kernel, by decide +kernel, by decide +kernel, by decide +kernel⟩
theorem co_X6_version : Cond.code yX6_version cX6_version 3 (some .int) ∈ BIG := tb_3 129 rfl rfl
theorem ok_X6_version : okV yX6_version 2 3 := ⟨by decide +kernel, by decide +kernel, by decide +kernel, by decide +kernel⟩
theorem co_X6_way : Cond.code yX6_way cX6_way 4 (some .int) ∈ BIG := tb_3 139 rfl rfl
theorem ok_X6_way : okV yX6_way 2 4 := ⟨by decide +kernel, by decide +kernel, by decide +kernel, by decide +kernel⟩
theorem co_X7_act : Cond.code yX7_act cX7_act 3 (some .int) ∈ BIG := tb_4 69 rfl rfl
theorem ok_X7_act : okV yX7_act 1 3 := ⟨by decide +kernel, by decide +kernel, by decide +kernel, by decide +kernel⟩
theorem co_X7_ask : Cond.code yX7_ask cX7_ask 2 (some .int) ∈ BIG := tb_4 101 rfl rfl
theorem ok_X7_ask : okV yX7_ask 1 2 := ⟨by decide +kernel, by decide +kernel, by decide +kernel, by decide +kernel⟩
theorem co_X7_asks : Cond.code yX7_asks cX7_asks 6 (some .int) ∈ BIG := tb_4 105 rfl rfl
theorem ok_X7_asks : okV yX7_asks 1 6 := ⟨by decide +kernel, by decide +kernel, by decide +kernel, by decide +kernel⟩
theorem co_X7_becomesRoot : Cond.code yX7_becomesRoot cX7_becomesRoot 2 none ∈ BIG := tb_4 133 rfl rfl
theorem ok_X7_becomesRoot : okV yX7_becomesRoot 1 2 := ⟨by decide +kernel, by decide +kernel, by decide +kernel, by decide +kernel⟩
theorem co_X7_bestRoot : Cond.code yX7_bestRoot cX7_bestRoot 7 (some .int) ∈ BIG := tb_5 33 rfl rfl
theorem ok_X7_bestRoot : okV yX7_bestRoot 1 7 := ⟨by decide +kernel, by decide +kernel, by decide +kernel, by decide +kernel⟩
theorem co_X7_cell : Cond.code yX7_cell cX7_cell 3 (some .int) ∈ BIG := tb_4 233 rfl rfl
theorem ok_X7_cell : okV yX7_cell 2 3 := ⟨by decide +kernel, by decide +kernel, by decide +kernel, by decide +kernel⟩
theorem co_X7_cells : Cond.code yX7_cells cX7_cells 3 (some .int) ∈ BIG := tb_4 205 rfl rfl
theorem ok_X7_cells : okV yX7_cells 0 3 := ⟨by decide +kernel, by decide +kernel, by decide +kernel, by decide +kernel⟩
theorem co_X7_cellsBetween : Cond.code yX7_cellsBetween cX7_cellsBetween 3 (some .int) ∈ BIG := tb_4 117 rfl rfl
theorem ok_X7_cellsBetween : okV yX7_cellsBetween 2 3 := ⟨by decide +kernel, by decide +kernel, by decide +kernel, by decide +kernel⟩
theorem co_X7_cellsUnlike : Cond.code yX7_cellsUnlike cX7_cellsUnlike 5 (some .int) ∈ BIG := tb_5 1 rfl rfl
theorem ok_X7_cellsUnlike : okV yX7_cellsUnlike 2 5 := ⟨by decide +kernel, by decide +kernel, by decide +kernel, by decide +kernel⟩
theorem co_X7_clearText : Cond.code yX7_clearText cX7_clearText 2 (some .int) ∈ BIG := tb_4 173 rfl rfl
theorem ok_X7_clearText : okV yX7_clearText 0 2 := ⟨by decide +kernel, by decide +kernel, by decide +kernel, by decide +kernel⟩
theorem co_X7_comes : Cond.code yX7_comes cX7_comes 4 (some .int) ∈ BIG := tb_4 65 rfl rfl
theorem ok_X7_comes : okV yX7_comes 1 4 := ⟨by decide +kernel, by decide +kernel, by decide +kernel, by decide +kernel⟩
theorem co_X7_comesOf : Cond.code yX7_comesOf cX7_comesOf 4 (some .boolean) ∈ BIG := tb_4 125 rfl rfl
theorem ok_X7_comesOf : okV yX7_comesOf 2 4 := ⟨by decide +kernel, by decide +kernel, by decide +kernel, by decide +kernel⟩
theorem co_X7_common : Cond.code yX7_common cX7_common 4 (some .int) ∈ BIG := tb_5 17 rfl rfl
theorem ok_X7_common : okV yX7_common 2 4 := ⟨by decide +kernel, by decide +kernel, by decide +kernel, by decide +kernel⟩
theorem co_X7_costOf : Cond.code yX7_costOf cX7_costOf 6 (some .int) ∈ BIG := tb_5 29 rfl rfl
theorem ok_X7_costOf : okV yX7_costOf 1 6 := ⟨by decide +kernel, by decide +kernel, by decide +kernel, by decide +kernel⟩
theorem co_X7_count : Cond.code yX7_count cX7_count 2 (some .int) ∈ BIG := tb_5 46 rfl rfl
theorem ok_X7_count : okV yX7_count 1 2 := ⟨by decide +kernel, by decide +kernel, by decide +kernel, by decide +kernel⟩
theorem co_X7_cut : Cond.code yX7_cut cX7_cut 2 (some .int) ∈ BIG := tb_4 145 rfl rfl
theorem ok_X7_cut : okV yX7_cut 1 2 := ⟨by decide +kernel, by decide +kernel, by decide +kernel, by decide +kernel⟩
theorem co_X7_cuts : Cond.code yX7_cuts cX7_cuts 3 (some .int) ∈ BIG := tb_4 149 rfl rfl
theorem ok_X7_cuts : okV yX7_cuts 1 3 := ⟨by decide +kernel, by decide +kernel, by decide +kernel, by decide +kernel⟩
theorem co_X7_does : Cond.code yX7_does cX7_does 1 (some .int) ∈ BIG := tb_4 209 rfl rfl
theorem ok_X7_does : okV yX7_does 0 1 := ⟨by decide +kernel, by decide +kernel, by decide +kernel, by decide +kernel⟩
theorem co_X7_free : Cond.code yX7_free cX7_free 2 (some .int) ∈ BIG := tb_4 61 rfl rfl
theorem ok_X7_free : okV yX7_free 0 2 := ⟨by decide +kernel, by decide +kernel, by decide +kernel, by decide +kernel⟩
theorem co_X7_go : Cond.code yX7_go cX7_go 5 (some .int) ∈ BIG := tb_4 181 rfl rfl
theorem ok_X7_go : okV yX7_go 1 5 := ⟨by decide +kernel, by decide +kernel, by decide +kernel, by decide +kernel⟩
theorem co_X7_hangs : Cond.code yX7_hangs cX7_hangs 2 (some .boolean) ∈ BIG := tb_4 93 rfl rfl
theorem ok_X7_hangs : okV yX7_hangs 1 2 := ⟨by decide +kernel, by decide +kernel, by decide +kernel, by decide +kernel⟩
theorem co_X7_ifCut : Cond.code yX7_ifCut cX7_ifCut 3 (some .int) ∈ BIG := tb_5 38 rfl rfl
theorem ok_X7_ifCut : okV yX7_ifCut 1 3 := ⟨by decide +kernel, by decide +kernel, by decide +kernel, by decide +kernel⟩
theorem co_X7_ifRoot : Cond.code yX7_ifRoot cX7_ifRoot 2 (some .int) ∈ BIG := tb_5 25 rfl rfl
theorem ok_X7_ifRoot : okV yX7_ifRoot 1 2 := ⟨by decide +kernel, by decide +kernel, by decide +kernel, by decide +kernel⟩
theorem co_X7_in : Cond.code yX7_in cX7_in 3 (some .boolean) ∈ BIG := tb_4 57 rfl rfl
theorem ok_X7_in : okV yX7_in 3 3 := ⟨by decide +kernel, by decide +kernel, by decide +kernel, by decide +kernel⟩
theorem co_X7_isAhead : Cond.code yX7_isAhead cX7_isAhead 4 (some .boolean) ∈ BIG := tb_5 21 rfl rfl
theorem ok_X7_isAhead : okV yX7_isAhead 2 4 := ⟨by decide +kernel, by decide +kernel, by decide +kernel, by decide +kernel⟩
theorem co_X7_isNext : Cond.code yX7_isNext cX7_isNext 3 (some .boolean) ∈ BIG := tb_4 197 rfl rfl
theorem ok_X7_isNext : okV yX7_isNext 2 3 := ⟨by decide +kernel, by decide +kernel, by decide +kernel, by decide +kernel⟩
theorem co_X7_isVersion : Cond.code yX7_isVersion cX7_isVersion 2 (some .boolean) ∈ BIG := tb_4 54 rfl rfl
theorem ok_X7_isVersion : okV yX7_isVersion 1 2 := ⟨by decide +kernel, by decide +kernel, by decide +kernel, by decide +kernel⟩
theorem co_X7_join : Cond.code yX7_join cX7_join 2 (some .int) ∈ BIG := tb_4 153 rfl rfl
theorem ok_X7_join : okV yX7_join 1 2 := ⟨by decide +kernel, by decide +kernel, by decide +kernel, by decide +kernel⟩
theorem co_X7_joins : Cond.code yX7_joins cX7_joins 2 (some .int) ∈ BIG := tb_4 157 rfl rfl
theorem ok_X7_joins : okV yX7_joins 1 2 := ⟨by decide +kernel, by decide +kernel, by decide +kernel, by decide +kernel⟩
theorem co_X7_keep : Cond.code yX7_keep cX7_keep 2 (some .int) ∈ BIG := tb_4 225 rfl rfl
theorem ok_X7_keep : okV yX7_keep 0 2 := ⟨by decide +kernel, by decide +kernel, by decide +kernel, by decide +kernel⟩
theorem co_X7_layWay : Cond.code yX7_layWay cX7_layWay 7 none ∈ BIG := tb_4 121 rfl rfl
theorem ok_X7_layWay : okV yX7_layWay 2 7 := ⟨by decide +kernel, by decide +kernel, by decide +kernel, by decide +kernel⟩
theorem co_X7_madeOf : Cond.code yX7_madeOf cX7_madeOf 4 (some .int) ∈ BIG := tb_4 89 rfl rfl
theorem ok_X7_madeOf : okV yX7_madeOf 1 4 := ⟨by decide +kernel, by decide +kernel, by decide +kernel, by decide +kernel⟩
theorem co_X7_make : Cond.code yX7_make cX7_make 4 (some .int) ∈ BIG := tb_4 42 rfl rfl
theorem ok_X7_make : okV yX7_make 3 4 := ⟨by decide +kernel, by decide +kernel, by decide +kernel, by decide +kernel⟩
theorem co_X7_makes : Cond.code yX7_makes cX7_makes 5 (some .int) ∈ BIG := tb_4 50 rfl rfl
theorem ok_X7_makes : okV yX7_makes 3 5 := ⟨by decide +kernel, by decide +kernel, by decide +kernel, by decide +kernel⟩
theorem co_X7_mix : Cond.code yX7_mix cX7_mix 4 (some .int) ∈ BIG := tb_4 73 rfl rfl
theorem ok_X7_mix : okV yX7_mix 3 4 := ⟨by decide +kernel, by decide +kernel, by decide +kernel, by decide +kernel⟩
theorem co_X7_mixes : Cond.code yX7_mixes cX7_mixes 6 (some .int) ∈ BIG := tb_4 77 rfl rfl
theorem ok_X7_mixes : okV yX7_mixes 3 6 := ⟨by decide +kernel, by decide +kernel, by decide +kernel, by decide +kernel⟩
theorem co_X7_mostSteps : Cond.code yX7_mostSteps cX7_mostSteps 3 (some .int) ∈ BIG := tb_5 50 rfl rfl
theorem ok_X7_mostSteps : okV yX7_mostSteps 0 3 := ⟨by decide +kernel, by decide +kernel, by decide +kernel, by decide +kernel⟩
theorem co_X7_number : Cond.code yX7_number cX7_number 3 (some .int) ∈ BIG := tb_4 201 rfl rfl
theorem ok_X7_number : okV yX7_number 1 3 := ⟨by decide +kernel, by decide +kernel, by decide +kernel, by decide +kernel⟩
theorem co_X7_of : Cond.code yX7_of cX7_of 2 (some .int) ∈ BIG := tb_3 220 rfl rfl
theorem ok_X7_of : okV yX7_of 2 2 := ⟨by decide +kernel, by decide +kernel, by decide +kernel, by decide +kernel⟩
theorem co_X7_order : Cond.code yX7_order cX7_order 1 none ∈ BIG := tb_4 185 rfl rfl
theorem ok_X7_order : okV yX7_order 0 1 := ⟨by decide +kernel, by decide +kernel, by decide +kernel, by decide +kernel⟩
theorem co_X7_perform : Cond.code yX7_perform cX7_perform 3 (some .int) ∈ BIG := tb_4 177 rfl rfl
theorem ok_X7_perform : okV yX7_perform 0 3 := ⟨by decide +kernel, by decide +kernel, by decide +kernel, by decide +kernel⟩
theorem co_X7_putAside : Cond.code yX7_putAside cX7_putAside 2 none ∈ BIG := tb_4 46 rfl rfl
theorem ok_X7_putAside : okV yX7_putAside 0 2 := ⟨by decide +kernel, by decide +kernel, by decide +kernel, by decide +kernel⟩
theorem co_X7_putBack : Cond.code yX7_putBack cX7_putBack 2 none ∈ BIG := tb_4 213 rfl rfl
theorem ok_X7_putBack : okV yX7_putBack 0 2 := ⟨by decide +kernel, by decide +kernel, by decide +kernel, by decide +kernel⟩
theorem co_X7_remove : Cond.code yX7_remove cX7_remove 2 (some .int) ∈ BIG := tb_4 81 rfl rfl
theorem ok_X7_remove : okV yX7_remove 1 2 := ⟨by decide +kernel, by decide +kernel, by decide +kernel, by decide +kernel⟩
theorem co_X7_removes : Cond.code yX7_removes cX7_removes 3 (some .int) ∈ BIG := tb_4 85 rfl rfl
theorem ok_X7_removes : okV yX7_removes 1 3 := ⟨by decide +kernel, by decide +kernel, by decide +kernel, by decide +kernel⟩
theorem co_X7_restore : Cond.code yX7_restore cX7_restore 2 (some .int) ∈ BIG := tb_4 229 rfl rfl
theorem ok_X7_restore : okV yX7_restore 0 2 := ⟨by decide +kernel, by decide +kernel, by decide +kernel, by decide +kernel⟩
theorem co_X7_room : Cond.code yX7_room cX7_room 3 (some .int) ∈ BIG := tb_5 42 rfl rfl
theorem ok_X7_room : okV yX7_room 0 3 := ⟨by decide +kernel, by decide +kernel, by decide +kernel, by decide +kernel⟩
theorem co_X7_root : Cond.code yX7_root cX7_root 2 (some .int) ∈ BIG := tb_4 137 rfl rfl
theorem ok_X7_root : okV yX7_root 1 2 := ⟨by decide +kernel, by decide +kernel, by decide +kernel, by decide +kernel⟩
theorem co_X7_rootOf : Cond.code yX7_rootOf cX7_rootOf 4 (some .int) ∈ BIG := tb_4 109 rfl rfl
theorem ok_X7_rootOf : okV yX7_rootOf 1 4 := ⟨by decide +kernel, by decide +kernel, by decide +kernel, by decide +kernel⟩
theorem co_X7_roots : Cond.code yX7_roots cX7_roots 3 (some .int) ∈ BIG := tb_4 141 rfl rfl
theorem ok_X7_roots : okV yX7_roots 1 3 := ⟨by decide +kernel, by decide +kernel, by decide +kernel, by decide +kernel⟩
theorem co_X7_rows : Cond.code yX7_rows cX7_rows 5 (some .int) ∈ BIG := tb_5 54 rfl rfl
theorem ok_X7_rows : okV yX7_rows 0 5 := ⟨by decide +kernel, by decide +kernel, by decide +kernel, by decide +kernel⟩
theorem co_X7_set : Cond.code yX7_set cX7_set 3 (some .int) ∈ BIG := tb_4 161 rfl rfl
theorem ok_X7_set : okV yX7_set 2 3 := ⟨by decide +kernel, by decide +kernel, by decide +kernel, by decide +kernel⟩
theorem co_X7_sets : Cond.code yX7_sets cX7_sets 4 (some .int) ∈ BIG := tb_4 165 rfl rfl
theorem ok_X7_sets : okV yX7_sets 2 4 := ⟨by decide +kernel, by decide +kernel, by decide +kernel, by decide +kernel⟩
theorem co_X7_sign : Cond.code yX7_sign cX7_sign 2 none ∈ BIG := tb_4 193 rfl rfl
theorem ok_X7_sign : okV yX7_sign 1 2 := ⟨by decide +kernel, by decide +kernel, by decide +kernel, by decide +kernel⟩
theorem co_X7_signs : Cond.code yX7_signs cX7_signs 4 none ∈ BIG := tb_4 189 rfl rfl
theorem ok_X7_signs : okV yX7_signs 3 4 := ⟨by decide +kernel, by decide +kernel, by decide +kernel, by decide +kernel⟩
theorem co_X7_size : Cond.code yX7_size cX7_size 5 (some .int) ∈ BIG := tb_5 5 rfl rfl
theorem ok_X7_size : okV yX7_size 1 5 := ⟨by decide +kernel, by decide +kernel, by decide +kernel, by decide +kernel⟩
theorem co_X7_stopped : Cond.code yX7_stopped cX7_stopped 2 (some .int) ∈ BIG := tb_4 217 rfl rfl
theorem ok_X7_stopped : okV yX7_stopped 1 2 := ⟨by decide +kernel, by decide +kernel, by decide +kernel, by decide +kernel⟩
theorem co_X7_top : Cond.code yX7_top cX7_top 3 (some .int) ∈ BIG := tb_4 113 rfl rfl
theorem ok_X7_top : okV yX7_top 1 3 := ⟨by decide +kernel, by decide +kernel, by decide +kernel, by decide +kernel⟩
theorem co_X7_type : Cond.code yX7_type cX7_type 2 (some .int) ∈ BIG := tb_4 169 rfl rfl
theorem ok_X7_type : okV yX7_type 1 2 := ⟨by decide +kernel, by decide +kernel, by decide +kernel, by decide +kernel⟩
theorem co_X7_undo : Cond.code yX7_undo cX7_undo 2 (some .int) ∈ BIG := tb_4 221 rfl rfl
theorem ok_X7_undo : okV yX7_undo 0 2 := ⟨by decide +kernel, by decide +kernel, by decide +kernel, by decide +kernel⟩
theorem co_X7_unlike : Cond.code yX7_unlike cX7_unlike 3 (some .int) ∈ BIG := tb_5 13 rfl rfl
theorem ok_X7_unlike : okV yX7_unlike 2 3 := ⟨by decide +kernel, by decide +kernel, by decide +kernel, by decide +kernel⟩
theorem co_X7_unlikeCells : Cond.code yX7_unlikeCells cX7_unlikeCells 5 (some .int) ∈ BIG := tb_4 129 rfl rfl
theorem ok_X7_unlikeCells : okV yX7_unlikeCells 2 5 := ⟨by decide +kernel, by decide +kernel, by decide +kernel, by decide +kernel⟩
theorem co_X7_version : Cond.code yX7_version cX7_version 4 (some .int) ∈ BIG := tb_4 237 rfl rfl
theorem ok_X7_version : okV yX7_version 2 4 := ⟨by decide +kernel, by decide +kernel, by decide +kernel, by decide +kernel⟩
theorem co_X7_versions : Cond.code yX7_versions cX7_versions 5 (some .int) ∈ BIG := tb_4 97 rfl rfl
theorem ok_X7_versions : okV yX7_versions 1 5 := ⟨by decide +kernel, by decide +kernel, by decide +kernel, by decide +kernel⟩
theorem co_X7_way : Cond.code yX7_way cX7_way 3 (some .int) ∈ BIG := tb_5 9 rfl rfl
theorem ok_X7_way : okV yX7_way 2 3 := ⟨by decide +kernel, by decide +kernel, by decide +kernel, by decide +kernel⟩
theorem co_X0_init : Cond.code yX0_init cX0_init 2 none ∈ BIG := tb_1 83 rfl rfl
theorem ok_X0_init : okV yX0_init 0 2 := ⟨by decide +kernel, by decide +kernel, by decide +kernel, by decide +kernel⟩
theorem co_X1_init : Cond.code yX1_init cX1_init 1 none ∈ BIG := tb_1 120 rfl rfl
theorem ok_X1_init : okV yX1_init 0 1 := ⟨by decide +kernel, by decide +kernel, by decide +kernel, by decide +kernel⟩
theorem co_X2_init : Cond.code yX2_init cX2_init 1 none ∈ BIG := tb_1 100 rfl rfl
theorem ok_X2_init : okV yX2_init 0 1 := ⟨by decide +kernel, by decide +kernel, by decide +kernel, by decide +kernel⟩
theorem co_X5_init : Cond.code yX5_init cX5_init 1 none ∈ BIG := tb_1 28 rfl rfl
theorem ok_X5_init : okV yX5_init 0 1 := ⟨by decide +kernel, by decide +kernel, by decide +kernel, by decide +kernel⟩
theorem co_X6_init : Cond.code yX6_init cX6_init 1 none ∈ BIG := tb_1 20 rfl rfl
theorem ok_X6_init : okV yX6_init 0 1 := ⟨by decide +kernel, by decide +kernel, by decide +kernel, by decide +kernel⟩
theorem co_X7_init : Cond.code yX7_init cX7_init 1 none ∈ BIG := tb_3 216 rfl rfl
theorem ok_X7_init : okV yX7_init 0 1 := ⟨by decide +kernel, by decide +kernel, by decide +kernel, by decide +kernel⟩
theorem im_X0_init : Cond.instanceMethod yX0_init ∈ BIG := tb_1 82 rfl rfl
theorem im_X1_init : Cond.instanceMethod yX1_init ∈ BIG := tb_1 119 rfl rfl
theorem im_X2_init : Cond.instanceMethod yX2_init ∈ BIG := tb_1 99 rfl rfl
theorem im_X5_init : Cond.instanceMethod yX5_init ∈ BIG := tb_1 27 rfl rfl
theorem im_X6_init : Cond.instanceMethod yX6_init ∈ BIG := tb_1 19 rfl rfl
theorem im_X7_init : Cond.instanceMethod yX7_init ∈ BIG := tb_3 215 rfl rfl
theorem ml_L_12 : Cond.methodLink RL 12 yX7_init ∈ BIG := tb_3 214 rfl rfl
theorem ml_X0_17 : Cond.methodLink RX0 17 yX5_init ∈ BIG := tb_1 87 rfl rfl
theorem ml_X6_24 : Cond.methodLink RX6 24 yX0_init ∈ BIG := tb_1 81 rfl rfl
theorem ml_X6_31 : Cond.methodLink RX6 31 yX2_init ∈ BIG := tb_1 98 rfl rfl
theorem ml_X6_38 : Cond.methodLink RX6 38 yX1_init ∈ BIG := tb_1 118 rfl rfl
theorem ml_X6_9 : Cond.methodLink RX6 9 yX5_init ∈ BIG := tb_1 26 rfl rfl
theorem ml_X0_22 : Cond.methodLink RX0 22 yX0_dropOldest ∈ BIG := tb_2 24 rfl rfl
theorem im_X0_dropOldest : Cond.instanceMethod yX0_dropOldest ∈ BIG := tb_2 26 rfl rfl
theorem se_X0_dropOldest : Cond.selects RX0 yX0_dropOldest yX0_dropOldest ∈ BIG := tb_0 yX0_dropOldest 3 _ rfl rfl
theorem cw_X0_22 : GoodIn BIG (wsV RX0 22 RX0 yX0_dropOldest (wB (.code yX0_dropOldest cX0_dropOldest 3 none))) := gV ml_X0_22 im_X0_dropOldest se_X0_dropOldest in_X0 co_X0_dropOldest
theorem ml_X0_25 : Cond.methodLink RX0 25 yX0_stateAt ∈ BIG := tb_2 28 rfl rfl
theorem im_X0_stateAt : Cond.instanceMethod yX0_stateAt ∈ BIG := tb_2 30 rfl rfl
theorem se_X0_stateAt : Cond.selects RX0 yX0_stateAt yX0_stateAt ∈ BIG := tb_0 yX0_stateAt 4 _ rfl rfl
theorem cw_X0_25 : GoodIn BIG (wsV RX0 25 RX0 yX0_stateAt (wB (.code yX0_stateAt cX0_stateAt 2 (some (.object "RootedDeltas$State"))))) := gV ml_X0_25 im_X0_stateAt se_X0_stateAt in_X0 co_X0_stateAt
theorem ml_X0_29 : Cond.methodLink RX0 29 yX5_copyFrom ∈ BIG := tb_2 32 rfl rfl
theorem im_X5_copyFrom : Cond.instanceMethod yX5_copyFrom ∈ BIG := tb_1 191 rfl rfl
theorem se_X5_copyFrom : Cond.selects RX5 yX5_copyFrom yX5_copyFrom ∈ BIG := tb_1 192 rfl rfl
theorem cw_X0_29 : GoodIn BIG (wsV RX0 29 RX5 yX5_copyFrom (wB (.code yX5_copyFrom cX5_copyFrom 2 none))) := gV ml_X0_29 im_X5_copyFrom se_X5_copyFrom in_X5 co_X5_copyFrom
theorem ml_X1_32 : Cond.methodLink RX1 32 yX3_at ∈ BIG := tb_3 83 rfl rfl
theorem st_X3_at : Cond.static yX3_at ∈ BIG := tb_1 231 rfl rfl
theorem cw_X1_32 : GoodIn BIG (va_wsS RX1 32 yX3_at (wB (.code yX3_at cX3_at 2 (some .int)))) := gS ml_X1_32 st_X3_at in_X3 co_X3_at
theorem ml_X1_44 : Cond.methodLink RX1 44 yX1_readOrder ∈ BIG := tb_2 218 rfl rfl
theorem im_X1_readOrder : Cond.instanceMethod yX1_readOrder ∈ BIG := tb_2 220 rfl rfl
theorem se_X1_readOrder : Cond.selects RX1 yX1_readOrder yX1_readOrder ∈ BIG := tb_0 yX1_readOrder 12 _ rfl rfl
theorem cw_X1_44 : GoodIn BIG (wsV RX1 44 RX1 yX1_readOrder (wB (.code yX1_readOrder cX1_readOrder 2 (some .boolean)))) := gV ml_X1_44 im_X1_readOrder se_X1_readOrder in_X1 co_X1_readOrder
theorem ml_X1_48 : Cond.methodLink RX1 48 yX1_readSign ∈ BIG := tb_3 58 rfl rfl
theorem im_X1_readSign : Cond.instanceMethod yX1_readSign ∈ BIG := tb_3 60 rfl rfl
theorem se_X1_readSign : Cond.selects RX1 yX1_readSign yX1_readSign ∈ BIG := tb_0 yX1_readSign 17 _ rfl rfl
theorem cw_X1_48 : GoodIn BIG (wsV RX1 48 RX1 yX1_readSign (wB (.code yX1_readSign cX1_readSign 2 (some .boolean)))) := gV ml_X1_48 im_X1_readSign se_X1_readSign in_X1 co_X1_readSign
theorem ml_X1_52 : Cond.methodLink RX1 52 yX1_readWord ∈ BIG := tb_2 222 rfl rfl
theorem im_X1_readWord : Cond.instanceMethod yX1_readWord ∈ BIG := tb_2 224 rfl rfl
theorem se_X1_readWord : Cond.selects RX1 yX1_readWord yX1_readWord ∈ BIG := tb_0 yX1_readWord 13 _ rfl rfl
theorem cw_X1_52 : GoodIn BIG (wsV RX1 52 RX1 yX1_readWord (wB (.code yX1_readWord cX1_readWord 5 (some .int)))) := gV ml_X1_52 im_X1_readWord se_X1_readWord in_X1 co_X1_readWord
theorem ml_X1_56 : Cond.methodLink RX1 56 yX3_put ∈ BIG := tb_3 53 rfl rfl
theorem st_X3_put : Cond.static yX3_put ∈ BIG := tb_1 238 rfl rfl
theorem cw_X1_56 : GoodIn BIG (va_wsS RX1 56 yX3_put (wB (.code yX3_put cX3_put 3 none))) := gS ml_X1_56 st_X3_put in_X3 co_X3_put
theorem ml_X1_60 : Cond.methodLink RX1 60 yX1_readNumber ∈ BIG := tb_3 54 rfl rfl
theorem im_X1_readNumber : Cond.instanceMethod yX1_readNumber ∈ BIG := tb_3 56 rfl rfl
theorem se_X1_readNumber : Cond.selects RX1 yX1_readNumber yX1_readNumber ∈ BIG := tb_0 yX1_readNumber 16 _ rfl rfl
theorem cw_X1_60 : GoodIn BIG (wsV RX1 60 RX1 yX1_readNumber (wB (.code yX1_readNumber cX1_readNumber 4 (some .boolean)))) := gV ml_X1_60 im_X1_readNumber se_X1_readNumber in_X1 co_X1_readNumber
theorem ml_X1_64 : Cond.methodLink RX1 64 yX1_readCells ∈ BIG := tb_3 70 rfl rfl
theorem im_X1_readCells : Cond.instanceMethod yX1_readCells ∈ BIG := tb_3 72 rfl rfl
theorem se_X1_readCells : Cond.selects RX1 yX1_readCells yX1_readCells ∈ BIG := tb_0 yX1_readCells 20 _ rfl rfl
theorem cw_X1_64 : GoodIn BIG (wsV RX1 64 RX1 yX1_readCells (wB (.code yX1_readCells cX1_readCells 4 (some .boolean)))) := gV ml_X1_64 im_X1_readCells se_X1_readCells in_X1 co_X1_readCells
theorem ml_X1_67 : Cond.methodLink RX1 67 yX1_lettersOf ∈ BIG := tb_2 226 rfl rfl
theorem st_X1_lettersOf : Cond.static yX1_lettersOf ∈ BIG := tb_2 227 rfl rfl
theorem cw_X1_67 : GoodIn BIG (va_wsS RX1 67 yX1_lettersOf (wB (.code yX1_lettersOf cX1_lettersOf 1 (some (.object "java/lang/String"))))) := gS ml_X1_67 st_X1_lettersOf in_X1 co_X1_lettersOf
theorem ml_X1_71 : Cond.methodLink RX1 71 yX1_alikeFromHere ∈ BIG := tb_2 234 rfl rfl
theorem im_X1_alikeFromHere : Cond.instanceMethod yX1_alikeFromHere ∈ BIG := tb_2 236 rfl rfl
theorem se_X1_alikeFromHere : Cond.selects RX1 yX1_alikeFromHere yX1_alikeFromHere ∈ BIG := tb_0 yX1_alikeFromHere 14 _ rfl rfl
theorem cw_X1_71 : GoodIn BIG (wsV RX1 71 RX1 yX1_alikeFromHere (wB (.code yX1_alikeFromHere cX1_alikeFromHere 3 (some .int)))) := gV ml_X1_71 im_X1_alikeFromHere se_X1_alikeFromHere in_X1 co_X1_alikeFromHere
theorem ml_X1_75 : Cond.methodLink RX1 75 yJ0_length_8abf5 ∈ BIG := tb_2 238 rfl rfl
theorem im_J0_length_8abf5 : Cond.instanceMethod yJ0_length_8abf5 ∈ BIG := tb_2 239 rfl rfl
theorem se_J0_length_8abf5 : Cond.selects RJ0 yJ0_length_8abf5 yJ0_length_8abf5 ∈ BIG := tb_3 0 rfl rfl
theorem cw_X1_75 : GoodIn BIG (wsV RX1 75 RJ0 yJ0_length_8abf5 (wB (.code yJ0_length_8abf5 cJ0_length_8abf5 1 (some .int)))) := gV ml_X1_75 im_J0_length_8abf5 se_J0_length_8abf5 in_J0 co_J0_length_8abf5
theorem ml_X1_85 : Cond.methodLink RX1 85 yX1_signAt ∈ BIG := tb_3 8 rfl rfl
theorem im_X1_signAt : Cond.instanceMethod yX1_signAt ∈ BIG := tb_3 10 rfl rfl
theorem se_X1_signAt : Cond.selects RX1 yX1_signAt yX1_signAt ∈ BIG := tb_0 yX1_signAt 15 _ rfl rfl
theorem cw_X1_85 : GoodIn BIG (wsV RX1 85 RX1 yX1_signAt (wB (.code yX1_signAt cX1_signAt 2 (some .int)))) := gV ml_X1_85 im_X1_signAt se_X1_signAt in_X1 co_X1_signAt
theorem ml_X1_89 : Cond.methodLink RX1 89 yJ0_charAt_5068e ∈ BIG := tb_3 12 rfl rfl
theorem im_J0_charAt_5068e : Cond.instanceMethod yJ0_charAt_5068e ∈ BIG := tb_3 13 rfl rfl
theorem se_J0_charAt_5068e : Cond.selects RJ0 yJ0_charAt_5068e yJ0_charAt_5068e ∈ BIG := tb_3 14 rfl rfl
theorem cw_X1_89 : GoodIn BIG (wsV RX1 89 RJ0 yJ0_charAt_5068e (wB (.code yJ0_charAt_5068e cJ0_charAt_5068e 2 (some .char)))) := gV ml_X1_89 im_J0_charAt_5068e se_J0_charAt_5068e in_J0 co_J0_charAt_5068e
theorem ml_X1_103 : Cond.methodLink RX1 103 yX1_digitAt ∈ BIG := tb_3 62 rfl rfl
theorem im_X1_digitAt : Cond.instanceMethod yX1_digitAt ∈ BIG := tb_3 64 rfl rfl
theorem se_X1_digitAt : Cond.selects RX1 yX1_digitAt yX1_digitAt ∈ BIG := tb_0 yX1_digitAt 18 _ rfl rfl
theorem cw_X1_103 : GoodIn BIG (wsV RX1 103 RX1 yX1_digitAt (wB (.code yX1_digitAt cX1_digitAt 3 (some .int)))) := gV ml_X1_103 im_X1_digitAt se_X1_digitAt in_X1 co_X1_digitAt
theorem ml_X1_106 : Cond.methodLink RX1 106 yX1_readMoreDigits ∈ BIG := tb_3 66 rfl rfl
theorem im_X1_readMoreDigits : Cond.instanceMethod yX1_readMoreDigits ∈ BIG := tb_3 68 rfl rfl
theorem se_X1_readMoreDigits : Cond.selects RX1 yX1_readMoreDigits yX1_readMoreDigits ∈ BIG := tb_0 yX1_readMoreDigits 19 _ rfl rfl
theorem cw_X1_106 : GoodIn BIG (wsV RX1 106 RX1 yX1_readMoreDigits (wB (.code yX1_readMoreDigits cX1_readMoreDigits 5 (some .int)))) := gV ml_X1_106 im_X1_readMoreDigits se_X1_readMoreDigits in_X1 co_X1_readMoreDigits
theorem ml_X1_109 : Cond.methodLink RX1 109 yX4_of ∈ BIG := tb_3 74 rfl rfl
theorem st_X4_of : Cond.static yX4_of ∈ BIG := tb_2 6 rfl rfl
theorem cw_X1_109 : GoodIn BIG (va_wsS RX1 109 yX4_of (wB (.code yX4_of cX4_of 1 (some .int)))) := gS ml_X1_109 st_X4_of in_X4 co_X4_of
theorem ml_X2_21 : Cond.methodLink RX2 21 yX4_of ∈ BIG := tb_2 100 rfl rfl
theorem cw_X2_21 : GoodIn BIG (va_wsS RX2 21 yX4_of (wB (.code yX4_of cX4_of 1 (some .int)))) := gS ml_X2_21 st_X4_of in_X4 co_X4_of
theorem ml_X2_31 : Cond.methodLink RX2 31 yX3_put ∈ BIG := tb_2 101 rfl rfl
theorem cw_X2_31 : GoodIn BIG (va_wsS RX2 31 yX3_put (wB (.code yX3_put cX3_put 3 none))) := gS ml_X2_31 st_X3_put in_X3 co_X3_put
theorem ml_X2_37 : Cond.methodLink RX2 37 yX5_isKept ∈ BIG := tb_2 102 rfl rfl
theorem im_X5_isKept : Cond.instanceMethod yX5_isKept ∈ BIG := tb_2 58 rfl rfl
theorem se_X5_isKept : Cond.selects RX5 yX5_isKept yX5_isKept ∈ BIG := tb_2 59 rfl rfl
theorem cw_X2_37 : GoodIn BIG (wsV RX2 37 RX5 yX5_isKept (wB (.code yX5_isKept cX5_isKept 2 (some .boolean)))) := gV ml_X2_37 im_X5_isKept se_X5_isKept in_X5 co_X5_isKept
theorem ml_X2_43 : Cond.methodLink RX2 43 yX2_spreadAlong ∈ BIG := tb_2 103 rfl rfl
theorem im_X2_spreadAlong : Cond.instanceMethod yX2_spreadAlong ∈ BIG := tb_2 105 rfl rfl
theorem se_X2_spreadAlong : Cond.selects RX2 yX2_spreadAlong yX2_spreadAlong ∈ BIG := tb_0 yX2_spreadAlong 7 _ rfl rfl
theorem cw_X2_43 : GoodIn BIG (wsV RX2 43 RX2 yX2_spreadAlong (wB (.code yX2_spreadAlong cX2_spreadAlong 7 none))) := gV ml_X2_43 im_X2_spreadAlong se_X2_spreadAlong in_X2 co_X2_spreadAlong
theorem ml_X2_47 : Cond.methodLink RX2 47 yX5_sourceOf ∈ BIG := tb_2 107 rfl rfl
theorem im_X5_sourceOf : Cond.instanceMethod yX5_sourceOf ∈ BIG := tb_2 50 rfl rfl
theorem se_X5_sourceOf : Cond.selects RX5 yX5_sourceOf yX5_sourceOf ∈ BIG := tb_2 51 rfl rfl
theorem cw_X2_47 : GoodIn BIG (wsV RX2 47 RX5 yX5_sourceOf (wB (.code yX5_sourceOf cX5_sourceOf 2 (some .int)))) := gV ml_X2_47 im_X5_sourceOf se_X5_sourceOf in_X5 co_X5_sourceOf
theorem ml_X2_50 : Cond.methodLink RX2 50 yX4_isIn ∈ BIG := tb_2 108 rfl rfl
theorem st_X4_isIn : Cond.static yX4_isIn ∈ BIG := tb_1 212 rfl rfl
theorem cw_X2_50 : GoodIn BIG (va_wsS RX2 50 yX4_isIn (wB (.code yX4_isIn cX4_isIn 2 (some .boolean)))) := gS ml_X2_50 st_X4_isIn in_X4 co_X4_isIn
theorem ml_X2_54 : Cond.methodLink RX2 54 yX2_stepsTo ∈ BIG := tb_2 109 rfl rfl
theorem im_X2_stepsTo : Cond.instanceMethod yX2_stepsTo ∈ BIG := tb_2 110 rfl rfl
theorem se_X2_stepsTo : Cond.selects RX2 yX2_stepsTo yX2_stepsTo ∈ BIG := tb_2 111 rfl rfl
theorem cw_X2_54 : GoodIn BIG (wsV RX2 54 RX2 yX2_stepsTo (wB (.code yX2_stepsTo cX2_stepsTo 2 (some .int)))) := gV ml_X2_54 im_X2_stepsTo se_X2_stepsTo in_X2 co_X2_stepsTo
theorem ml_X2_57 : Cond.methodLink RX2 57 yX2_cellsTo ∈ BIG := tb_2 114 rfl rfl
theorem im_X2_cellsTo : Cond.instanceMethod yX2_cellsTo ∈ BIG := tb_2 115 rfl rfl
theorem se_X2_cellsTo : Cond.selects RX2 yX2_cellsTo yX2_cellsTo ∈ BIG := tb_2 116 rfl rfl
theorem cw_X2_57 : GoodIn BIG (wsV RX2 57 RX2 yX2_cellsTo (wB (.code yX2_cellsTo cX2_cellsTo 2 (some .int)))) := gV ml_X2_57 im_X2_cellsTo se_X2_cellsTo in_X2 co_X2_cellsTo
theorem ml_X2_60 : Cond.methodLink RX2 60 yX5_differenceOf ∈ BIG := tb_2 118 rfl rfl
theorem im_X5_differenceOf : Cond.instanceMethod yX5_differenceOf ∈ BIG := tb_2 119 rfl rfl
theorem se_X5_differenceOf : Cond.selects RX5 yX5_differenceOf yX5_differenceOf ∈ BIG := tb_2 120 rfl rfl
theorem cw_X2_60 : GoodIn BIG (wsV RX2 60 RX5 yX5_differenceOf (wB (.code yX5_differenceOf cX5_differenceOf 2 (some .int)))) := gV ml_X2_60 im_X5_differenceOf se_X5_differenceOf in_X5 co_X5_differenceOf
theorem ml_X2_63 : Cond.methodLink RX2 63 yJ6_bitCount_0f7a4 ∈ BIG := tb_2 122 rfl rfl
theorem st_J6_bitCount_0f7a4 : Cond.static yJ6_bitCount_0f7a4 ∈ BIG := tb_2 83 rfl rfl
theorem cw_X2_63 : GoodIn BIG (va_wsS RX2 63 yJ6_bitCount_0f7a4 (wB (.code yJ6_bitCount_0f7a4 cJ6_bitCount_0f7a4 1 (some .int)))) := gS ml_X2_63 st_J6_bitCount_0f7a4 in_J6 co_J6_bitCount_0f7a4
theorem ml_X2_71 : Cond.methodLink RX2 71 yJ6_numberOfTrailingZeros_0f7a4 ∈ BIG := tb_2 127 rfl rfl
theorem st_J6_numberOfTrailingZeros_0f7a4 : Cond.static yJ6_numberOfTrailingZeros_0f7a4 ∈ BIG := tb_2 128 rfl rfl
theorem cw_X2_71 : GoodIn BIG (va_wsS RX2 71 yJ6_numberOfTrailingZeros_0f7a4 (wB (.code yJ6_numberOfTrailingZeros_0f7a4 cJ6_numberOfTrailingZeros_0f7a4 2 (some .int)))) := gS ml_X2_71 st_J6_numberOfTrailingZeros_0f7a4 in_J6 co_J6_numberOfTrailingZeros_0f7a4
theorem ml_X2_74 : Cond.methodLink RX2 74 yX3_at ∈ BIG := tb_2 113 rfl rfl
theorem cw_X2_74 : GoodIn BIG (va_wsS RX2 74 yX3_at (wB (.code yX3_at cX3_at 2 (some .int)))) := gS ml_X2_74 st_X3_at in_X3 co_X3_at
theorem ml_X5_40 : Cond.methodLink RX5 40 yX3_copy ∈ BIG := tb_1 194 rfl rfl
theorem st_X3_copy : Cond.static yX3_copy ∈ BIG := tb_1 195 rfl rfl
theorem cw_X5_40 : GoodIn BIG (va_wsS RX5 40 yX3_copy (wB (.code yX3_copy cX3_copy 2 none))) := gS ml_X5_40 st_X3_copy in_X3 co_X3_copy
theorem ml_X5_58 : Cond.methodLink RX5 58 yX4_isIn ∈ BIG := tb_1 211 rfl rfl
theorem cw_X5_58 : GoodIn BIG (va_wsS RX5 58 yX4_isIn (wB (.code yX4_isIn cX4_isIn 2 (some .boolean)))) := gS ml_X5_58 st_X4_isIn in_X4 co_X4_isIn
theorem ml_X5_64 : Cond.methodLink RX5 64 yX3_at ∈ BIG := tb_1 230 rfl rfl
theorem cw_X5_64 : GoodIn BIG (va_wsS RX5 64 yX3_at (wB (.code yX3_at cX3_at 2 (some .int)))) := gS ml_X5_64 st_X3_at in_X3 co_X3_at
theorem ml_X5_68 : Cond.methodLink RX5 68 yX3_put ∈ BIG := tb_1 237 rfl rfl
theorem cw_X5_68 : GoodIn BIG (va_wsS RX5 68 yX3_put (wB (.code yX3_put cX3_put 3 none))) := gS ml_X5_68 st_X3_put in_X3 co_X3_put
theorem ml_X5_72 : Cond.methodLink RX5 72 yX5_numberIn ∈ BIG := tb_1 226 rfl rfl
theorem im_X5_numberIn : Cond.instanceMethod yX5_numberIn ∈ BIG := tb_1 227 rfl rfl
theorem se_X5_numberIn : Cond.selects RX5 yX5_numberIn yX5_numberIn ∈ BIG := tb_1 228 rfl rfl
theorem cw_X5_72 : GoodIn BIG (wsV RX5 72 RX5 yX5_numberIn (wB (.code yX5_numberIn cX5_numberIn 3 (some .int)))) := gV ml_X5_72 im_X5_numberIn se_X5_numberIn in_X5 co_X5_numberIn
theorem ml_X5_76 : Cond.methodLink RX5 76 yX5_putNumber ∈ BIG := tb_1 233 rfl rfl
theorem im_X5_putNumber : Cond.instanceMethod yX5_putNumber ∈ BIG := tb_1 234 rfl rfl
theorem se_X5_putNumber : Cond.selects RX5 yX5_putNumber yX5_putNumber ∈ BIG := tb_1 235 rfl rfl
theorem cw_X5_76 : GoodIn BIG (wsV RX5 76 RX5 yX5_putNumber (wB (.code yX5_putNumber cX5_putNumber 4 none))) := gV ml_X5_76 im_X5_putNumber se_X5_putNumber in_X5 co_X5_putNumber
theorem ml_X5_80 : Cond.methodLink RX5 80 yX4_of ∈ BIG := tb_2 5 rfl rfl
theorem cw_X5_80 : GoodIn BIG (va_wsS RX5 80 yX4_of (wB (.code yX4_of cX4_of 1 (some .int)))) := gS ml_X5_80 st_X4_of in_X4 co_X4_of
theorem ml_X5_84 : Cond.methodLink RX5 84 yX5_unlikeCells ∈ BIG := tb_2 8 rfl rfl
theorem im_X5_unlikeCells : Cond.instanceMethod yX5_unlikeCells ∈ BIG := tb_2 9 rfl rfl
theorem se_X5_unlikeCells : Cond.selects RX5 yX5_unlikeCells yX5_unlikeCells ∈ BIG := tb_2 10 rfl rfl
theorem cw_X5_84 : GoodIn BIG (wsV RX5 84 RX5 yX5_unlikeCells (wB (.code yX5_unlikeCells cX5_unlikeCells 5 (some .int)))) := gV ml_X5_84 im_X5_unlikeCells se_X5_unlikeCells in_X5 co_X5_unlikeCells
theorem ml_X5_87 : Cond.methodLink RX5 87 yX5_keepDifference ∈ BIG := tb_2 12 rfl rfl
theorem im_X5_keepDifference : Cond.instanceMethod yX5_keepDifference ∈ BIG := tb_2 13 rfl rfl
theorem se_X5_keepDifference : Cond.selects RX5 yX5_keepDifference yX5_keepDifference ∈ BIG := tb_2 14 rfl rfl
theorem cw_X5_87 : GoodIn BIG (wsV RX5 87 RX5 yX5_keepDifference (wB (.code yX5_keepDifference cX5_keepDifference 2 none))) := gV ml_X5_87 im_X5_keepDifference se_X5_keepDifference in_X5 co_X5_keepDifference
theorem ml_X5_91 : Cond.methodLink RX5 91 yX5_cutDifference ∈ BIG := tb_2 70 rfl rfl
theorem im_X5_cutDifference : Cond.instanceMethod yX5_cutDifference ∈ BIG := tb_2 71 rfl rfl
theorem se_X5_cutDifference : Cond.selects RX5 yX5_cutDifference yX5_cutDifference ∈ BIG := tb_2 72 rfl rfl
theorem cw_X5_91 : GoodIn BIG (wsV RX5 91 RX5 yX5_cutDifference (wB (.code yX5_cutDifference cX5_cutDifference 2 none))) := gV ml_X5_91 im_X5_cutDifference se_X5_cutDifference in_X5 co_X5_cutDifference
theorem ml_X5_94 : Cond.methodLink RX5 94 yX5_dropRoot ∈ BIG := tb_2 74 rfl rfl
theorem im_X5_dropRoot : Cond.instanceMethod yX5_dropRoot ∈ BIG := tb_2 75 rfl rfl
theorem se_X5_dropRoot : Cond.selects RX5 yX5_dropRoot yX5_dropRoot ∈ BIG := tb_2 76 rfl rfl
theorem cw_X5_94 : GoodIn BIG (wsV RX5 94 RX5 yX5_dropRoot (wB (.code yX5_dropRoot cX5_dropRoot 2 none))) := gV ml_X5_94 im_X5_dropRoot se_X5_dropRoot in_X5 co_X5_dropRoot
theorem ml_X5_97 : Cond.methodLink RX5 97 yX5_sourceOf ∈ BIG := tb_2 49 rfl rfl
theorem cw_X5_97 : GoodIn BIG (wsV RX5 97 RX5 yX5_sourceOf (wB (.code yX5_sourceOf cX5_sourceOf 2 (some .int)))) := gV ml_X5_97 im_X5_sourceOf se_X5_sourceOf in_X5 co_X5_sourceOf
theorem ml_X5_100 : Cond.methodLink RX5 100 yX5_addRoot ∈ BIG := tb_2 158 rfl rfl
theorem im_X5_addRoot : Cond.instanceMethod yX5_addRoot ∈ BIG := tb_2 63 rfl rfl
theorem se_X5_addRoot : Cond.selects RX5 yX5_addRoot yX5_addRoot ∈ BIG := tb_2 64 rfl rfl
theorem cw_X5_100 : GoodIn BIG (wsV RX5 100 RX5 yX5_addRoot (wB (.code yX5_addRoot cX5_addRoot 2 none))) := gV ml_X5_100 im_X5_addRoot se_X5_addRoot in_X5 co_X5_addRoot
theorem ml_X5_103 : Cond.methodLink RX5 103 yX5_askedFor ∈ BIG := tb_2 137 rfl rfl
theorem im_X5_askedFor : Cond.instanceMethod yX5_askedFor ∈ BIG := tb_2 138 rfl rfl
theorem se_X5_askedFor : Cond.selects RX5 yX5_askedFor yX5_askedFor ∈ BIG := tb_2 139 rfl rfl
theorem cw_X5_103 : GoodIn BIG (wsV RX5 103 RX5 yX5_askedFor (wB (.code yX5_askedFor cX5_askedFor 2 (some .int)))) := gV ml_X5_103 im_X5_askedFor se_X5_askedFor in_X5 co_X5_askedFor
theorem ml_X5_106 : Cond.methodLink RX5 106 yX5_has ∈ BIG := tb_1 221 rfl rfl
theorem im_X5_has : Cond.instanceMethod yX5_has ∈ BIG := tb_1 208 rfl rfl
theorem se_X5_has : Cond.selects RX5 yX5_has yX5_has ∈ BIG := tb_1 209 rfl rfl
theorem cw_X5_106 : GoodIn BIG (wsV RX5 106 RX5 yX5_has (wB (.code yX5_has cX5_has 2 (some .boolean)))) := gV ml_X5_106 im_X5_has se_X5_has in_X5 co_X5_has
theorem ml_X5_110 : Cond.methodLink RX5 110 yJ6_bitCount_0f7a4 ∈ BIG := tb_2 82 rfl rfl
theorem cw_X5_110 : GoodIn BIG (va_wsS RX5 110 yJ6_bitCount_0f7a4 (wB (.code yJ6_bitCount_0f7a4 cJ6_bitCount_0f7a4 1 (some .int)))) := gS ml_X5_110 st_J6_bitCount_0f7a4 in_J6 co_J6_bitCount_0f7a4
theorem ml_X5_115 : Cond.methodLink RX5 115 yX5_differenceOf ∈ BIG := tb_3 174 rfl rfl
theorem cw_X5_115 : GoodIn BIG (wsV RX5 115 RX5 yX5_differenceOf (wB (.code yX5_differenceOf cX5_differenceOf 2 (some .int)))) := gV ml_X5_115 im_X5_differenceOf se_X5_differenceOf in_X5 co_X5_differenceOf
theorem ml_X5_118 : Cond.methodLink RX5 118 yX5_trees ∈ BIG := tb_3 179 rfl rfl
theorem im_X5_trees : Cond.instanceMethod yX5_trees ∈ BIG := tb_2 177 rfl rfl
theorem se_X5_trees : Cond.selects RX5 yX5_trees yX5_trees ∈ BIG := tb_2 178 rfl rfl
theorem cw_X5_118 : GoodIn BIG (wsV RX5 118 RX5 yX5_trees (wB (.code yX5_trees cX5_trees 1 (some .int)))) := gV ml_X5_118 im_X5_trees se_X5_trees in_X5 co_X5_trees
theorem ml_X5_122 : Cond.methodLink RX5 122 yX5_isKept ∈ BIG := tb_3 180 rfl rfl
theorem cw_X5_122 : GoodIn BIG (wsV RX5 122 RX5 yX5_isKept (wB (.code yX5_isKept cX5_isKept 2 (some .boolean)))) := gV ml_X5_122 im_X5_isKept se_X5_isKept in_X5 co_X5_isKept
theorem ml_X5_125 : Cond.methodLink RX5 125 yX5_roomOf ∈ BIG := tb_3 181 rfl rfl
theorem im_X5_roomOf : Cond.instanceMethod yX5_roomOf ∈ BIG := tb_3 171 rfl rfl
theorem se_X5_roomOf : Cond.selects RX5 yX5_roomOf yX5_roomOf ∈ BIG := tb_3 172 rfl rfl
theorem cw_X5_125 : GoodIn BIG (wsV RX5 125 RX5 yX5_roomOf (wB (.code yX5_roomOf cX5_roomOf 2 (some .int)))) := gV ml_X5_125 im_X5_roomOf se_X5_roomOf in_X5 co_X5_roomOf
theorem ml_X5_128 : Cond.methodLink RX5 128 yX5_hasRowBelow ∈ BIG := tb_3 208 rfl rfl
theorem im_X5_hasRowBelow : Cond.instanceMethod yX5_hasRowBelow ∈ BIG := tb_3 209 rfl rfl
theorem se_X5_hasRowBelow : Cond.selects RX5 yX5_hasRowBelow yX5_hasRowBelow ∈ BIG := tb_3 210 rfl rfl
theorem cw_X5_128 : GoodIn BIG (wsV RX5 128 RX5 yX5_hasRowBelow (wB (.code yX5_hasRowBelow cX5_hasRowBelow 3 (some .boolean)))) := gV ml_X5_128 im_X5_hasRowBelow se_X5_hasRowBelow in_X5 co_X5_hasRowBelow
theorem ml_X6_43 : Cond.methodLink RX6 43 yX6_beginAct ∈ BIG := tb_1 186 rfl rfl
theorem im_X6_beginAct : Cond.instanceMethod yX6_beginAct ∈ BIG := tb_1 188 rfl rfl
theorem se_X6_beginAct : Cond.selects RX6 yX6_beginAct yX6_beginAct ∈ BIG := tb_0 yX6_beginAct 0 _ rfl rfl
theorem cw_X6_43 : GoodIn BIG (wsV RX6 43 RX6 yX6_beginAct (wB (.code yX6_beginAct cX6_beginAct 1 none))) := gV ml_X6_43 im_X6_beginAct se_X6_beginAct in_X6 co_X6_beginAct
theorem ml_X6_46 : Cond.methodLink RX6 46 yX6_tryMake ∈ BIG := tb_1 203 rfl rfl
theorem im_X6_tryMake : Cond.instanceMethod yX6_tryMake ∈ BIG := tb_1 205 rfl rfl
theorem se_X6_tryMake : Cond.selects RX6 yX6_tryMake yX6_tryMake ∈ BIG := tb_0 yX6_tryMake 1 _ rfl rfl
theorem cw_X6_46 : GoodIn BIG (wsV RX6 46 RX6 yX6_tryMake (wB (.code yX6_tryMake cX6_tryMake 5 (some .int)))) := gV ml_X6_46 im_X6_tryMake se_X6_tryMake in_X6 co_X6_tryMake
theorem ml_X6_50 : Cond.methodLink RX6 50 yX6_endAct ∈ BIG := tb_2 16 rfl rfl
theorem im_X6_endAct : Cond.instanceMethod yX6_endAct ∈ BIG := tb_2 18 rfl rfl
theorem se_X6_endAct : Cond.selects RX6 yX6_endAct yX6_endAct ∈ BIG := tb_0 yX6_endAct 2 _ rfl rfl
theorem cw_X6_50 : GoodIn BIG (wsV RX6 50 RX6 yX6_endAct (wB (.code yX6_endAct cX6_endAct 2 (some .int)))) := gV ml_X6_50 im_X6_endAct se_X6_endAct in_X6 co_X6_endAct
theorem ml_X6_54 : Cond.methodLink RX6 54 yX6_tryMix ∈ BIG := tb_2 37 rfl rfl
theorem im_X6_tryMix : Cond.instanceMethod yX6_tryMix ∈ BIG := tb_2 39 rfl rfl
theorem se_X6_tryMix : Cond.selects RX6 yX6_tryMix yX6_tryMix ∈ BIG := tb_0 yX6_tryMix 5 _ rfl rfl
theorem cw_X6_54 : GoodIn BIG (wsV RX6 54 RX6 yX6_tryMix (wB (.code yX6_tryMix cX6_tryMix 5 (some .int)))) := gV ml_X6_54 im_X6_tryMix se_X6_tryMix in_X6 co_X6_tryMix
theorem ml_X6_57 : Cond.methodLink RX6 57 yX5_has ∈ BIG := tb_1 207 rfl rfl
theorem cw_X6_57 : GoodIn BIG (wsV RX6 57 RX5 yX5_has (wB (.code yX5_has cX5_has 2 (some .boolean)))) := gV ml_X6_57 im_X5_has se_X5_has in_X5 co_X5_has
theorem ml_X6_61 : Cond.methodLink RX6 61 yX5_madeOf ∈ BIG := tb_2 45 rfl rfl
theorem im_X5_madeOf : Cond.instanceMethod yX5_madeOf ∈ BIG := tb_2 46 rfl rfl
theorem se_X5_madeOf : Cond.selects RX5 yX5_madeOf yX5_madeOf ∈ BIG := tb_2 47 rfl rfl
theorem cw_X6_61 : GoodIn BIG (wsV RX6 61 RX5 yX5_madeOf (wB (.code yX5_madeOf cX5_madeOf 4 (some .int)))) := gV ml_X6_61 im_X5_madeOf se_X5_madeOf in_X5 co_X5_madeOf
theorem ml_X6_64 : Cond.methodLink RX6 64 yX5_isRoot ∈ BIG := tb_2 53 rfl rfl
theorem im_X5_isRoot : Cond.instanceMethod yX5_isRoot ∈ BIG := tb_2 54 rfl rfl
theorem se_X5_isRoot : Cond.selects RX5 yX5_isRoot yX5_isRoot ∈ BIG := tb_2 55 rfl rfl
theorem cw_X6_64 : GoodIn BIG (wsV RX6 64 RX5 yX5_isRoot (wB (.code yX5_isRoot cX5_isRoot 2 (some .boolean)))) := gV ml_X6_64 im_X5_isRoot se_X5_isRoot in_X5 co_X5_isRoot
theorem ml_X6_67 : Cond.methodLink RX6 67 yX5_isKept ∈ BIG := tb_2 57 rfl rfl
theorem cw_X6_67 : GoodIn BIG (wsV RX6 67 RX5 yX5_isKept (wB (.code yX5_isKept cX5_isKept 2 (some .boolean)))) := gV ml_X6_67 im_X5_isKept se_X5_isKept in_X5 co_X5_isKept
theorem ml_X6_70 : Cond.methodLink RX6 70 yX5_sourceOf ∈ BIG := tb_2 61 rfl rfl
theorem cw_X6_70 : GoodIn BIG (wsV RX6 70 RX5 yX5_sourceOf (wB (.code yX5_sourceOf cX5_sourceOf 2 (some .int)))) := gV ml_X6_70 im_X5_sourceOf se_X5_sourceOf in_X5 co_X5_sourceOf
theorem ml_X6_73 : Cond.methodLink RX6 73 yX5_addRoot ∈ BIG := tb_2 62 rfl rfl
theorem cw_X6_73 : GoodIn BIG (wsV RX6 73 RX5 yX5_addRoot (wB (.code yX5_addRoot cX5_addRoot 2 none))) := gV ml_X6_73 im_X5_addRoot se_X5_addRoot in_X5 co_X5_addRoot
theorem ml_X6_77 : Cond.methodLink RX6 77 yX5_drop ∈ BIG := tb_2 66 rfl rfl
theorem im_X5_drop : Cond.instanceMethod yX5_drop ∈ BIG := tb_2 67 rfl rfl
theorem se_X5_drop : Cond.selects RX5 yX5_drop yX5_drop ∈ BIG := tb_2 68 rfl rfl
theorem cw_X6_77 : GoodIn BIG (wsV RX6 77 RX5 yX5_drop (wB (.code yX5_drop cX5_drop 2 none))) := gV ml_X6_77 im_X5_drop se_X5_drop in_X5 co_X5_drop
theorem ml_X6_80 : Cond.methodLink RX6 80 yX5_howMany ∈ BIG := tb_2 78 rfl rfl
theorem im_X5_howMany : Cond.instanceMethod yX5_howMany ∈ BIG := tb_2 79 rfl rfl
theorem se_X5_howMany : Cond.selects RX5 yX5_howMany yX5_howMany ∈ BIG := tb_2 80 rfl rfl
theorem cw_X6_80 : GoodIn BIG (wsV RX6 80 RX5 yX5_howMany (wB (.code yX5_howMany cX5_howMany 1 (some .int)))) := gV ml_X6_80 im_X5_howMany se_X5_howMany in_X5 co_X5_howMany
theorem ml_X6_84 : Cond.methodLink RX6 84 yX6_tryAsk ∈ BIG := tb_2 92 rfl rfl
theorem im_X6_tryAsk : Cond.instanceMethod yX6_tryAsk ∈ BIG := tb_2 94 rfl rfl
theorem se_X6_tryAsk : Cond.selects RX6 yX6_tryAsk yX6_tryAsk ∈ BIG := tb_0 yX6_tryAsk 6 _ rfl rfl
theorem cw_X6_84 : GoodIn BIG (wsV RX6 84 RX6 yX6_tryAsk (wB (.code yX6_tryAsk cX6_tryAsk 5 (some .int)))) := gV ml_X6_84 im_X6_tryAsk se_X6_tryAsk in_X6 co_X6_tryAsk
theorem ml_X6_87 : Cond.methodLink RX6 87 yX6_tryRoot ∈ BIG := tb_2 163 rfl rfl
theorem im_X6_tryRoot : Cond.instanceMethod yX6_tryRoot ∈ BIG := tb_2 165 rfl rfl
theorem se_X6_tryRoot : Cond.selects RX6 yX6_tryRoot yX6_tryRoot ∈ BIG := tb_0 yX6_tryRoot 9 _ rfl rfl
theorem cw_X6_87 : GoodIn BIG (wsV RX6 87 RX6 yX6_tryRoot (wB (.code yX6_tryRoot cX6_tryRoot 3 (some .int)))) := gV ml_X6_87 im_X6_tryRoot se_X6_tryRoot in_X6 co_X6_tryRoot
theorem ml_X6_90 : Cond.methodLink RX6 90 yX5_cutDifference ∈ BIG := tb_2 171 rfl rfl
theorem cw_X6_90 : GoodIn BIG (wsV RX6 90 RX5 yX5_cutDifference (wB (.code yX5_cutDifference cX5_cutDifference 2 none))) := gV ml_X6_90 im_X5_cutDifference se_X5_cutDifference in_X5 co_X5_cutDifference
theorem ml_X6_93 : Cond.methodLink RX6 93 yX6_giveRoot ∈ BIG := tb_2 172 rfl rfl
theorem im_X6_giveRoot : Cond.instanceMethod yX6_giveRoot ∈ BIG := tb_2 174 rfl rfl
theorem se_X6_giveRoot : Cond.selects RX6 yX6_giveRoot yX6_giveRoot ∈ BIG := tb_0 yX6_giveRoot 10 _ rfl rfl
theorem cw_X6_93 : GoodIn BIG (wsV RX6 93 RX6 yX6_giveRoot (wB (.code yX6_giveRoot cX6_giveRoot 4 none))) := gV ml_X6_93 im_X6_giveRoot se_X6_giveRoot in_X6 co_X6_giveRoot
theorem ml_X6_97 : Cond.methodLink RX6 97 yX5_trees ∈ BIG := tb_2 176 rfl rfl
theorem cw_X6_97 : GoodIn BIG (wsV RX6 97 RX5 yX5_trees (wB (.code yX5_trees cX5_trees 1 (some .int)))) := gV ml_X6_97 im_X5_trees se_X5_trees in_X5 co_X5_trees
theorem ml_X6_100 : Cond.methodLink RX6 100 yX6_tryJoin ∈ BIG := tb_2 184 rfl rfl
theorem im_X6_tryJoin : Cond.instanceMethod yX6_tryJoin ∈ BIG := tb_2 186 rfl rfl
theorem se_X6_tryJoin : Cond.selects RX6 yX6_tryJoin yX6_tryJoin ∈ BIG := tb_0 yX6_tryJoin 11 _ rfl rfl
theorem cw_X6_100 : GoodIn BIG (wsV RX6 100 RX6 yX6_tryJoin (wB (.code yX6_tryJoin cX6_tryJoin 2 (some .int)))) := gV ml_X6_100 im_X6_tryJoin se_X6_tryJoin in_X6 co_X6_tryJoin
theorem ml_X6_110 : Cond.methodLink RX6 110 yX1_add ∈ BIG := tb_2 198 rfl rfl
theorem im_X1_add : Cond.instanceMethod yX1_add ∈ BIG := tb_2 199 rfl rfl
theorem se_X1_add : Cond.selects RX1 yX1_add yX1_add ∈ BIG := tb_2 200 rfl rfl
theorem cw_X6_110 : GoodIn BIG (wsV RX6 110 RX1 yX1_add (wB (.code yX1_add cX1_add 2 (some .boolean)))) := gV ml_X6_110 im_X1_add se_X1_add in_X1 co_X1_add
theorem ml_X6_117 : Cond.methodLink RX6 117 yX1_clear ∈ BIG := tb_2 206 rfl rfl
theorem im_X1_clear : Cond.instanceMethod yX1_clear ∈ BIG := tb_2 207 rfl rfl
theorem se_X1_clear : Cond.selects RX1 yX1_clear yX1_clear ∈ BIG := tb_2 208 rfl rfl
theorem cw_X6_117 : GoodIn BIG (wsV RX6 117 RX1 yX1_clear (wB (.code yX1_clear cX1_clear 2 (some .int)))) := gV ml_X6_117 im_X1_clear se_X1_clear in_X1 co_X1_clear
theorem ml_X6_120 : Cond.methodLink RX6 120 yX1_read ∈ BIG := tb_2 214 rfl rfl
theorem im_X1_read : Cond.instanceMethod yX1_read ∈ BIG := tb_2 215 rfl rfl
theorem se_X1_read : Cond.selects RX1 yX1_read yX1_read ∈ BIG := tb_2 216 rfl rfl
theorem cw_X6_120 : GoodIn BIG (wsV RX6 120 RX1 yX1_read (wB (.code yX1_read cX1_read 2 (some .boolean)))) := gV ml_X6_120 im_X1_read se_X1_read in_X1 co_X1_read
theorem ml_X6_130 : Cond.methodLink RX6 130 yX6_carryOut ∈ BIG := tb_3 75 rfl rfl
theorem im_X6_carryOut : Cond.instanceMethod yX6_carryOut ∈ BIG := tb_3 77 rfl rfl
theorem se_X6_carryOut : Cond.selects RX6 yX6_carryOut yX6_carryOut ∈ BIG := tb_0 yX6_carryOut 21 _ rfl rfl
theorem cw_X6_130 : GoodIn BIG (wsV RX6 130 RX6 yX6_carryOut (wB (.code yX6_carryOut cX6_carryOut 5 (some .int)))) := gV ml_X6_130 im_X6_carryOut se_X6_carryOut in_X6 co_X6_carryOut
theorem ml_X6_133 : Cond.methodLink RX6 133 yX6_stopAt ∈ BIG := tb_3 96 rfl rfl
theorem im_X6_stopAt : Cond.instanceMethod yX6_stopAt ∈ BIG := tb_3 98 rfl rfl
theorem se_X6_stopAt : Cond.selects RX6 yX6_stopAt yX6_stopAt ∈ BIG := tb_0 yX6_stopAt 22 _ rfl rfl
theorem cw_X6_133 : GoodIn BIG (wsV RX6 133 RX6 yX6_stopAt (wB (.code yX6_stopAt cX6_stopAt 3 (some .int)))) := gV ml_X6_133 im_X6_stopAt se_X6_stopAt in_X6 co_X6_stopAt
theorem ml_X6_147 : Cond.methodLink RX6 147 yX0_takeLatest ∈ BIG := tb_3 109 rfl rfl
theorem im_X0_takeLatest : Cond.instanceMethod yX0_takeLatest ∈ BIG := tb_3 110 rfl rfl
theorem se_X0_takeLatest : Cond.selects RX0 yX0_takeLatest yX0_takeLatest ∈ BIG := tb_3 111 rfl rfl
theorem cw_X6_147 : GoodIn BIG (wsV RX6 147 RX0 yX0_takeLatest (wB (.code yX0_takeLatest cX0_takeLatest 3 (some .boolean)))) := gV ml_X6_147 im_X0_takeLatest se_X0_takeLatest in_X0 co_X0_takeLatest
theorem ml_X6_152 : Cond.methodLink RX6 152 yX5_copyFrom ∈ BIG := tb_1 190 rfl rfl
theorem cw_X6_152 : GoodIn BIG (wsV RX6 152 RX5 yX5_copyFrom (wB (.code yX5_copyFrom cX5_copyFrom 2 none))) := gV ml_X6_152 im_X5_copyFrom se_X5_copyFrom in_X5 co_X5_copyFrom
theorem ml_X6_159 : Cond.methodLink RX6 159 yX6_isCell ∈ BIG := tb_1 214 rfl rfl
theorem st_X6_isCell : Cond.static yX6_isCell ∈ BIG := tb_1 215 rfl rfl
theorem cw_X6_159 : GoodIn BIG (va_wsS RX6 159 yX6_isCell (wB (.code yX6_isCell cX6_isCell 1 (some .boolean)))) := gS ml_X6_159 st_X6_isCell in_X6 co_X6_isCell
theorem ml_X6_162 : Cond.methodLink RX6 162 yX5_numberIn ∈ BIG := tb_3 125 rfl rfl
theorem cw_X6_162 : GoodIn BIG (wsV RX6 162 RX5 yX5_numberIn (wB (.code yX5_numberIn cX5_numberIn 3 (some .int)))) := gV ml_X6_162 im_X5_numberIn se_X5_numberIn in_X5 co_X5_numberIn
theorem ml_X6_165 : Cond.methodLink RX6 165 yX5_differenceOf ∈ BIG := tb_3 130 rfl rfl
theorem cw_X6_165 : GoodIn BIG (wsV RX6 165 RX5 yX5_differenceOf (wB (.code yX5_differenceOf cX5_differenceOf 2 (some .int)))) := gV ml_X6_165 im_X5_differenceOf se_X5_differenceOf in_X5 co_X5_differenceOf
theorem ml_X6_168 : Cond.methodLink RX6 168 yX5_askedFor ∈ BIG := tb_2 153 rfl rfl
theorem cw_X6_168 : GoodIn BIG (wsV RX6 168 RX5 yX5_askedFor (wB (.code yX5_askedFor cX5_askedFor 2 (some .int)))) := gV ml_X6_168 im_X5_askedFor se_X5_askedFor in_X5 co_X5_askedFor
theorem ml_X6_171 : Cond.methodLink RX6 171 yX6_tellOfTree ∈ BIG := tb_3 131 rfl rfl
theorem im_X6_tellOfTree : Cond.instanceMethod yX6_tellOfTree ∈ BIG := tb_3 133 rfl rfl
theorem se_X6_tellOfTree : Cond.selects RX6 yX6_tellOfTree yX6_tellOfTree ∈ BIG := tb_0 yX6_tellOfTree 23 _ rfl rfl
theorem cw_X6_171 : GoodIn BIG (wsV RX6 171 RX6 yX6_tellOfTree (wB (.code yX6_tellOfTree cX6_tellOfTree 4 (some .int)))) := gV ml_X6_171 im_X6_tellOfTree se_X6_tellOfTree in_X6 co_X6_tellOfTree
theorem ml_X6_174 : Cond.methodLink RX6 174 yX2_spread ∈ BIG := tb_2 96 rfl rfl
theorem im_X2_spread : Cond.instanceMethod yX2_spread ∈ BIG := tb_2 97 rfl rfl
theorem se_X2_spread : Cond.selects RX2 yX2_spread yX2_spread ∈ BIG := tb_2 98 rfl rfl
theorem cw_X6_174 : GoodIn BIG (wsV RX6 174 RX2 yX2_spread (wB (.code yX2_spread cX2_spread 6 none))) := gV ml_X6_174 im_X2_spread se_X2_spread in_X2 co_X2_spread
theorem ml_X6_178 : Cond.methodLink RX6 178 yX2_rootReached ∈ BIG := tb_2 123 rfl rfl
theorem im_X2_rootReached : Cond.instanceMethod yX2_rootReached ∈ BIG := tb_2 124 rfl rfl
theorem se_X2_rootReached : Cond.selects RX2 yX2_rootReached yX2_rootReached ∈ BIG := tb_2 125 rfl rfl
theorem cw_X6_178 : GoodIn BIG (wsV RX6 178 RX2 yX2_rootReached (wB (.code yX2_rootReached cX2_rootReached 2 (some .int)))) := gV ml_X6_178 im_X2_rootReached se_X2_rootReached in_X2 co_X2_rootReached
theorem ml_X6_182 : Cond.methodLink RX6 182 yX2_stepsTo ∈ BIG := tb_2 131 rfl rfl
theorem cw_X6_182 : GoodIn BIG (wsV RX6 182 RX2 yX2_stepsTo (wB (.code yX2_stepsTo cX2_stepsTo 2 (some .int)))) := gV ml_X6_182 im_X2_stepsTo se_X2_stepsTo in_X2 co_X2_stepsTo
theorem ml_X6_185 : Cond.methodLink RX6 185 yX2_towardsStart ∈ BIG := tb_2 141 rfl rfl
theorem im_X2_towardsStart : Cond.instanceMethod yX2_towardsStart ∈ BIG := tb_2 142 rfl rfl
theorem se_X2_towardsStart : Cond.selects RX2 yX2_towardsStart yX2_towardsStart ∈ BIG := tb_2 143 rfl rfl
theorem cw_X6_185 : GoodIn BIG (wsV RX6 185 RX2 yX2_towardsStart (wB (.code yX2_towardsStart cX2_towardsStart 5 (some .int)))) := gV ml_X6_185 im_X2_towardsStart se_X2_towardsStart in_X2 co_X2_towardsStart
theorem ml_X6_188 : Cond.methodLink RX6 188 yX5_unlikeCells ∈ BIG := tb_3 144 rfl rfl
theorem cw_X6_188 : GoodIn BIG (wsV RX6 188 RX5 yX5_unlikeCells (wB (.code yX5_unlikeCells cX5_unlikeCells 5 (some .int)))) := gV ml_X6_188 im_X5_unlikeCells se_X5_unlikeCells in_X5 co_X5_unlikeCells
theorem ml_X6_191 : Cond.methodLink RX6 191 yJ6_bitCount_0f7a4 ∈ BIG := tb_3 135 rfl rfl
theorem cw_X6_191 : GoodIn BIG (va_wsS RX6 191 yJ6_bitCount_0f7a4 (wB (.code yJ6_bitCount_0f7a4 cJ6_bitCount_0f7a4 1 (some .int)))) := gS ml_X6_191 st_J6_bitCount_0f7a4 in_J6 co_J6_bitCount_0f7a4
theorem ml_X6_196 : Cond.methodLink RX6 196 yX5_ancestors ∈ BIG := tb_3 149 rfl rfl
theorem im_X5_ancestors : Cond.instanceMethod yX5_ancestors ∈ BIG := tb_3 150 rfl rfl
theorem se_X5_ancestors : Cond.selects RX5 yX5_ancestors yX5_ancestors ∈ BIG := tb_3 151 rfl rfl
theorem cw_X6_196 : GoodIn BIG (wsV RX6 196 RX5 yX5_ancestors (wB (.code yX5_ancestors cX5_ancestors 5 (some .int)))) := gV ml_X6_196 im_X5_ancestors se_X5_ancestors in_X5 co_X5_ancestors
theorem ml_X6_199 : Cond.methodLink RX6 199 yX4_isIn ∈ BIG := tb_3 153 rfl rfl
theorem cw_X6_199 : GoodIn BIG (va_wsS RX6 199 yX4_isIn (wB (.code yX4_isIn cX4_isIn 2 (some .boolean)))) := gS ml_X6_199 st_X4_isIn in_X4 co_X4_isIn
theorem ml_X6_205 : Cond.methodLink RX6 205 yX6_costFrom ∈ BIG := tb_3 158 rfl rfl
theorem im_X6_costFrom : Cond.instanceMethod yX6_costFrom ∈ BIG := tb_3 160 rfl rfl
theorem se_X6_costFrom : Cond.selects RX6 yX6_costFrom yX6_costFrom ∈ BIG := tb_0 yX6_costFrom 24 _ rfl rfl
theorem cw_X6_205 : GoodIn BIG (wsV RX6 205 RX6 yX6_costFrom (wB (.code yX6_costFrom cX6_costFrom 4 (some .int)))) := gV ml_X6_205 im_X6_costFrom se_X6_costFrom in_X6 co_X6_costFrom
theorem ml_X6_211 : Cond.methodLink RX6 211 yX5_roomOf ∈ BIG := tb_3 170 rfl rfl
theorem cw_X6_211 : GoodIn BIG (wsV RX6 211 RX5 yX5_roomOf (wB (.code yX5_roomOf cX5_roomOf 2 (some .int)))) := gV ml_X6_211 im_X5_roomOf se_X5_roomOf in_X5 co_X5_roomOf
theorem ml_X6_214 : Cond.methodLink RX6 214 yX5_room ∈ BIG := tb_3 175 rfl rfl
theorem im_X5_room : Cond.instanceMethod yX5_room ∈ BIG := tb_3 176 rfl rfl
theorem se_X5_room : Cond.selects RX5 yX5_room yX5_room ∈ BIG := tb_3 177 rfl rfl
theorem cw_X6_214 : GoodIn BIG (wsV RX6 214 RX5 yX5_room (wB (.code yX5_room cX5_room 3 (some .int)))) := gV ml_X6_214 im_X5_room se_X5_room in_X5 co_X5_room
theorem ml_X6_223 : Cond.methodLink RX6 223 yX5_neverAsked ∈ BIG := tb_3 186 rfl rfl
theorem im_X5_neverAsked : Cond.instanceMethod yX5_neverAsked ∈ BIG := tb_3 187 rfl rfl
theorem se_X5_neverAsked : Cond.selects RX5 yX5_neverAsked yX5_neverAsked ∈ BIG := tb_3 188 rfl rfl
theorem cw_X6_223 : GoodIn BIG (wsV RX6 223 RX5 yX5_neverAsked (wB (.code yX5_neverAsked cX5_neverAsked 3 (some .int)))) := gV ml_X6_223 im_X5_neverAsked se_X5_neverAsked in_X5 co_X5_neverAsked
theorem ml_X6_226 : Cond.methodLink RX6 226 yX5_cuts ∈ BIG := tb_3 190 rfl rfl
theorem im_X5_cuts : Cond.instanceMethod yX5_cuts ∈ BIG := tb_3 191 rfl rfl
theorem se_X5_cuts : Cond.selects RX5 yX5_cuts yX5_cuts ∈ BIG := tb_3 192 rfl rfl
theorem cw_X6_226 : GoodIn BIG (wsV RX6 226 RX5 yX5_cuts (wB (.code yX5_cuts cX5_cuts 1 (some .int)))) := gV ml_X6_226 im_X5_cuts se_X5_cuts in_X5 co_X5_cuts
theorem ml_X6_229 : Cond.methodLink RX6 229 yX6_longestWay ∈ BIG := tb_3 194 rfl rfl
theorem im_X6_longestWay : Cond.instanceMethod yX6_longestWay ∈ BIG := tb_3 196 rfl rfl
theorem se_X6_longestWay : Cond.selects RX6 yX6_longestWay yX6_longestWay ∈ BIG := tb_0 yX6_longestWay 25 _ rfl rfl
theorem cw_X6_229 : GoodIn BIG (wsV RX6 229 RX6 yX6_longestWay (wB (.code yX6_longestWay cX6_longestWay 3 (some .int)))) := gV ml_X6_229 im_X6_longestWay se_X6_longestWay in_X6 co_X6_longestWay
theorem ml_X6_238 : Cond.methodLink RX6 238 yX5_unlikeRows ∈ BIG := tb_3 204 rfl rfl
theorem im_X5_unlikeRows : Cond.instanceMethod yX5_unlikeRows ∈ BIG := tb_3 205 rfl rfl
theorem se_X5_unlikeRows : Cond.selects RX5 yX5_unlikeRows yX5_unlikeRows ∈ BIG := tb_3 206 rfl rfl
theorem cw_X6_238 : GoodIn BIG (wsV RX6 238 RX5 yX5_unlikeRows (wB (.code yX5_unlikeRows cX5_unlikeRows 3 (some .int)))) := gV ml_X6_238 im_X5_unlikeRows se_X5_unlikeRows in_X5 co_X5_unlikeRows
theorem ml_X6_241 : Cond.methodLink RX6 241 yX0_record ∈ BIG := tb_2 20 rfl rfl
theorem im_X0_record : Cond.instanceMethod yX0_record ∈ BIG := tb_2 21 rfl rfl
theorem se_X0_record : Cond.selects RX0 yX0_record yX0_record ∈ BIG := tb_2 22 rfl rfl
theorem cw_X6_241 : GoodIn BIG (wsV RX6 241 RX0 yX0_record (wB (.code yX0_record cX0_record 3 none))) := gV ml_X6_241 im_X0_record se_X0_record in_X0 co_X0_record
theorem ml_X6_244 : Cond.methodLink RX6 244 yX5_lowestFree ∈ BIG := tb_1 217 rfl rfl
theorem im_X5_lowestFree : Cond.instanceMethod yX5_lowestFree ∈ BIG := tb_1 218 rfl rfl
theorem se_X5_lowestFree : Cond.selects RX5 yX5_lowestFree yX5_lowestFree ∈ BIG := tb_1 219 rfl rfl
theorem cw_X6_244 : GoodIn BIG (wsV RX6 244 RX5 yX5_lowestFree (wB (.code yX5_lowestFree cX5_lowestFree 2 (some .int)))) := gV ml_X6_244 im_X5_lowestFree se_X5_lowestFree in_X5 co_X5_lowestFree
theorem ml_X6_247 : Cond.methodLink RX6 247 yX5_copyCells ∈ BIG := tb_1 222 rfl rfl
theorem im_X5_copyCells : Cond.instanceMethod yX5_copyCells ∈ BIG := tb_1 223 rfl rfl
theorem se_X5_copyCells : Cond.selects RX5 yX5_copyCells yX5_copyCells ∈ BIG := tb_1 224 rfl rfl
theorem cw_X6_247 : GoodIn BIG (wsV RX6 247 RX5 yX5_copyCells (wB (.code yX5_copyCells cX5_copyCells 5 none))) := gV ml_X6_247 im_X5_copyCells se_X5_copyCells in_X5 co_X5_copyCells
theorem ml_X6_251 : Cond.methodLink RX6 251 yX5_putNumber ∈ BIG := tb_2 0 rfl rfl
theorem cw_X6_251 : GoodIn BIG (wsV RX6 251 RX5 yX5_putNumber (wB (.code yX5_putNumber cX5_putNumber 4 none))) := gV ml_X6_251 im_X5_putNumber se_X5_putNumber in_X5 co_X5_putNumber
theorem ml_X6_254 : Cond.methodLink RX6 254 yX5_hang ∈ BIG := tb_2 1 rfl rfl
theorem im_X5_hang : Cond.instanceMethod yX5_hang ∈ BIG := tb_2 2 rfl rfl
theorem se_X5_hang : Cond.selects RX5 yX5_hang yX5_hang ∈ BIG := tb_2 3 rfl rfl
theorem cw_X6_254 : GoodIn BIG (wsV RX6 254 RX5 yX5_hang (wB (.code yX5_hang cX5_hang 3 none))) := gV ml_X6_254 im_X5_hang se_X5_hang in_X5 co_X5_hang
theorem ml_X6_257 : Cond.methodLink RX6 257 yX2_cellsTo ∈ BIG := tb_2 132 rfl rfl
theorem cw_X6_257 : GoodIn BIG (wsV RX6 257 RX2 yX2_cellsTo (wB (.code yX2_cellsTo cX2_cellsTo 2 (some .int)))) := gV ml_X6_257 im_X2_cellsTo se_X2_cellsTo in_X2 co_X2_cellsTo
theorem ml_X6_260 : Cond.methodLink RX6 260 yX5_noteAsking ∈ BIG := tb_2 133 rfl rfl
theorem im_X5_noteAsking : Cond.instanceMethod yX5_noteAsking ∈ BIG := tb_2 134 rfl rfl
theorem se_X5_noteAsking : Cond.selects RX5 yX5_noteAsking yX5_noteAsking ∈ BIG := tb_2 135 rfl rfl
theorem cw_X6_260 : GoodIn BIG (wsV RX6 260 RX5 yX5_noteAsking (wB (.code yX5_noteAsking cX5_noteAsking 3 none))) := gV ml_X6_260 im_X5_noteAsking se_X5_noteAsking in_X5 co_X5_noteAsking
theorem ml_X6_263 : Cond.methodLink RX6 263 yX5_cutBetween ∈ BIG := tb_2 145 rfl rfl
theorem im_X5_cutBetween : Cond.instanceMethod yX5_cutBetween ∈ BIG := tb_2 146 rfl rfl
theorem se_X5_cutBetween : Cond.selects RX5 yX5_cutBetween yX5_cutBetween ∈ BIG := tb_2 147 rfl rfl
theorem cw_X6_263 : GoodIn BIG (wsV RX6 263 RX5 yX5_cutBetween (wB (.code yX5_cutBetween cX5_cutBetween 4 none))) := gV ml_X6_263 im_X5_cutBetween se_X5_cutBetween in_X5 co_X5_cutBetween
theorem ml_X6_266 : Cond.methodLink RX6 266 yX6_rulePrefers ∈ BIG := tb_2 149 rfl rfl
theorem im_X6_rulePrefers : Cond.instanceMethod yX6_rulePrefers ∈ BIG := tb_2 151 rfl rfl
theorem se_X6_rulePrefers : Cond.selects RX6 yX6_rulePrefers yX6_rulePrefers ∈ BIG := tb_0 yX6_rulePrefers 8 _ rfl rfl
theorem cw_X6_266 : GoodIn BIG (wsV RX6 266 RX6 yX6_rulePrefers (wB (.code yX6_rulePrefers cX6_rulePrefers 3 (some .boolean)))) := gV ml_X6_266 im_X6_rulePrefers se_X6_rulePrefers in_X6 co_X6_rulePrefers
theorem ml_X6_269 : Cond.methodLink RX6 269 yX5_moveRoot ∈ BIG := tb_2 154 rfl rfl
theorem im_X5_moveRoot : Cond.instanceMethod yX5_moveRoot ∈ BIG := tb_2 155 rfl rfl
theorem se_X5_moveRoot : Cond.selects RX5 yX5_moveRoot yX5_moveRoot ∈ BIG := tb_2 156 rfl rfl
theorem cw_X6_269 : GoodIn BIG (wsV RX6 269 RX5 yX5_moveRoot (wB (.code yX5_moveRoot cX5_moveRoot 3 none))) := gV ml_X6_269 im_X5_moveRoot se_X5_moveRoot in_X5 co_X5_moveRoot
theorem ml_X6_272 : Cond.methodLink RX6 272 yX5_dropRoot ∈ BIG := tb_2 188 rfl rfl
theorem cw_X6_272 : GoodIn BIG (wsV RX6 272 RX5 yX5_dropRoot (wB (.code yX5_dropRoot cX5_dropRoot 2 none))) := gV ml_X6_272 im_X5_dropRoot se_X5_dropRoot in_X5 co_X5_dropRoot
theorem ml_X6_275 : Cond.methodLink RX6 275 yX5_keepDifference ∈ BIG := tb_2 189 rfl rfl
theorem cw_X6_275 : GoodIn BIG (wsV RX6 275 RX5 yX5_keepDifference (wB (.code yX5_keepDifference cX5_keepDifference 2 none))) := gV ml_X6_275 im_X5_keepDifference se_X5_keepDifference in_X5 co_X5_keepDifference
theorem ml_X6_281 : Cond.methodLink RX6 281 yX1_firstOf ∈ BIG := tb_3 79 rfl rfl
theorem im_X1_firstOf : Cond.instanceMethod yX1_firstOf ∈ BIG := tb_3 80 rfl rfl
theorem se_X1_firstOf : Cond.selects RX1 yX1_firstOf yX1_firstOf ∈ BIG := tb_3 81 rfl rfl
theorem cw_X6_281 : GoodIn BIG (wsV RX6 281 RX1 yX1_firstOf (wB (.code yX1_firstOf cX1_firstOf 2 (some .int)))) := gV ml_X6_281 im_X1_firstOf se_X1_firstOf in_X1 co_X1_firstOf
theorem ml_X6_284 : Cond.methodLink RX6 284 yX1_secondOf ∈ BIG := tb_3 84 rfl rfl
theorem im_X1_secondOf : Cond.instanceMethod yX1_secondOf ∈ BIG := tb_3 85 rfl rfl
theorem se_X1_secondOf : Cond.selects RX1 yX1_secondOf yX1_secondOf ∈ BIG := tb_3 86 rfl rfl
theorem cw_X6_284 : GoodIn BIG (wsV RX6 284 RX1 yX1_secondOf (wB (.code yX1_secondOf cX1_secondOf 2 (some .int)))) := gV ml_X6_284 im_X1_secondOf se_X1_secondOf in_X1 co_X1_secondOf
theorem ml_X6_287 : Cond.methodLink RX6 287 yX1_thirdOf ∈ BIG := tb_3 88 rfl rfl
theorem im_X1_thirdOf : Cond.instanceMethod yX1_thirdOf ∈ BIG := tb_3 89 rfl rfl
theorem se_X1_thirdOf : Cond.selects RX1 yX1_thirdOf yX1_thirdOf ∈ BIG := tb_3 90 rfl rfl
theorem cw_X6_287 : GoodIn BIG (wsV RX6 287 RX1 yX1_thirdOf (wB (.code yX1_thirdOf cX1_thirdOf 2 (some .int)))) := gV ml_X6_287 im_X1_thirdOf se_X1_thirdOf in_X1 co_X1_thirdOf
theorem ml_X6_290 : Cond.methodLink RX6 290 yX1_wordOf ∈ BIG := tb_3 92 rfl rfl
theorem im_X1_wordOf : Cond.instanceMethod yX1_wordOf ∈ BIG := tb_3 93 rfl rfl
theorem se_X1_wordOf : Cond.selects RX1 yX1_wordOf yX1_wordOf ∈ BIG := tb_3 94 rfl rfl
theorem cw_X6_290 : GoodIn BIG (wsV RX6 290 RX1 yX1_wordOf (wB (.code yX1_wordOf cX1_wordOf 2 (some .int)))) := gV ml_X6_290 im_X1_wordOf se_X1_wordOf in_X1 co_X1_wordOf
theorem ml_X6_293 : Cond.methodLink RX6 293 yX2_farthest ∈ BIG := tb_3 198 rfl rfl
theorem im_X2_farthest : Cond.instanceMethod yX2_farthest ∈ BIG := tb_3 199 rfl rfl
theorem se_X2_farthest : Cond.selects RX2 yX2_farthest yX2_farthest ∈ BIG := tb_3 200 rfl rfl
theorem cw_X6_293 : GoodIn BIG (wsV RX6 293 RX2 yX2_farthest (wB (.code yX2_farthest cX2_farthest 3 (some .int)))) := gV ml_X6_293 im_X2_farthest se_X2_farthest in_X2 co_X2_farthest
theorem ml_X7_32 : Cond.methodLink RX7 32 yX7_of ∈ BIG := tb_3 218 rfl rfl
theorem st_X7_of : Cond.static yX7_of ∈ BIG := tb_3 219 rfl rfl
theorem cw_X7_32 : GoodIn BIG (va_wsS RX7 32 yX7_of (wB (.code yX7_of cX7_of 2 (some .int)))) := gS ml_X7_32 st_X7_of in_X7 co_X7_of
theorem ml_X7_36 : Cond.methodLink RX7 36 yX7_in ∈ BIG := tb_4 55 rfl rfl
theorem st_X7_in : Cond.static yX7_in ∈ BIG := tb_4 56 rfl rfl
theorem cw_X7_36 : GoodIn BIG (va_wsS RX7 36 yX7_in (wB (.code yX7_in cX7_in 3 (some .boolean)))) := gS ml_X7_36 st_X7_in in_X7 co_X7_in
theorem ml_X7_43 : Cond.methodLink RX7 43 yX7_hangs ∈ BIG := tb_4 90 rfl rfl
theorem im_X7_hangs : Cond.instanceMethod yX7_hangs ∈ BIG := tb_4 92 rfl rfl
theorem se_X7_hangs : Cond.selects RX7 yX7_hangs yX7_hangs ∈ BIG := tb_0 yX7_hangs 35 _ rfl rfl
theorem cw_X7_43 : GoodIn BIG (wsV RX7 43 RX7 yX7_hangs (wB (.code yX7_hangs cX7_hangs 2 (some .boolean)))) := gV ml_X7_43 im_X7_hangs se_X7_hangs in_X7 co_X7_hangs
theorem ml_X7_47 : Cond.methodLink RX7 47 yX7_top ∈ BIG := tb_4 110 rfl rfl
theorem im_X7_top : Cond.instanceMethod yX7_top ∈ BIG := tb_4 112 rfl rfl
theorem se_X7_top : Cond.selects RX7 yX7_top yX7_top ∈ BIG := tb_0 yX7_top 39 _ rfl rfl
theorem cw_X7_47 : GoodIn BIG (wsV RX7 47 RX7 yX7_top (wB (.code yX7_top cX7_top 3 (some .int)))) := gV ml_X7_47 im_X7_top se_X7_top in_X7 co_X7_top
theorem ml_X7_54 : Cond.methodLink RX7 54 yX7_comesOf ∈ BIG := tb_4 122 rfl rfl
theorem im_X7_comesOf : Cond.instanceMethod yX7_comesOf ∈ BIG := tb_4 124 rfl rfl
theorem se_X7_comesOf : Cond.selects RX7 yX7_comesOf yX7_comesOf ∈ BIG := tb_0 yX7_comesOf 42 _ rfl rfl
theorem cw_X7_54 : GoodIn BIG (wsV RX7 54 RX7 yX7_comesOf (wB (.code yX7_comesOf cX7_comesOf 4 (some .boolean)))) := gV ml_X7_54 im_X7_comesOf se_X7_comesOf in_X7 co_X7_comesOf
theorem ml_X7_61 : Cond.methodLink RX7 61 yX7_unlikeCells ∈ BIG := tb_4 126 rfl rfl
theorem im_X7_unlikeCells : Cond.instanceMethod yX7_unlikeCells ∈ BIG := tb_4 128 rfl rfl
theorem se_X7_unlikeCells : Cond.selects RX7 yX7_unlikeCells yX7_unlikeCells ∈ BIG := tb_0 yX7_unlikeCells 43 _ rfl rfl
theorem cw_X7_61 : GoodIn BIG (wsV RX7 61 RX7 yX7_unlikeCells (wB (.code yX7_unlikeCells cX7_unlikeCells 5 (some .int)))) := gV ml_X7_61 im_X7_unlikeCells se_X7_unlikeCells in_X7 co_X7_unlikeCells
theorem ml_X7_64 : Cond.methodLink RX7 64 yX7_layWay ∈ BIG := tb_4 118 rfl rfl
theorem im_X7_layWay : Cond.instanceMethod yX7_layWay ∈ BIG := tb_4 120 rfl rfl
theorem se_X7_layWay : Cond.selects RX7 yX7_layWay yX7_layWay ∈ BIG := tb_0 yX7_layWay 41 _ rfl rfl
theorem cw_X7_64 : GoodIn BIG (wsV RX7 64 RX7 yX7_layWay (wB (.code yX7_layWay cX7_layWay 7 none))) := gV ml_X7_64 im_X7_layWay se_X7_layWay in_X7 co_X7_layWay
theorem ml_X7_68 : Cond.methodLink RX7 68 yX7_free ∈ BIG := tb_4 58 rfl rfl
theorem im_X7_free : Cond.instanceMethod yX7_free ∈ BIG := tb_4 60 rfl rfl
theorem se_X7_free : Cond.selects RX7 yX7_free yX7_free ∈ BIG := tb_0 yX7_free 29 _ rfl rfl
theorem cw_X7_68 : GoodIn BIG (wsV RX7 68 RX7 yX7_free (wB (.code yX7_free cX7_free 2 (some .int)))) := gV ml_X7_68 im_X7_free se_X7_free in_X7 co_X7_free
theorem ml_X7_72 : Cond.methodLink RX7 72 yX7_isVersion ∈ BIG := tb_4 51 rfl rfl
theorem im_X7_isVersion : Cond.instanceMethod yX7_isVersion ∈ BIG := tb_4 53 rfl rfl
theorem se_X7_isVersion : Cond.selects RX7 yX7_isVersion yX7_isVersion ∈ BIG := tb_0 yX7_isVersion 28 _ rfl rfl
theorem cw_X7_72 : GoodIn BIG (wsV RX7 72 RX7 yX7_isVersion (wB (.code yX7_isVersion cX7_isVersion 2 (some .boolean)))) := gV ml_X7_72 im_X7_isVersion se_X7_isVersion in_X7 co_X7_isVersion
theorem ml_X7_75 : Cond.methodLink RX7 75 yX7_comes ∈ BIG := tb_4 62 rfl rfl
theorem im_X7_comes : Cond.instanceMethod yX7_comes ∈ BIG := tb_4 64 rfl rfl
theorem se_X7_comes : Cond.selects RX7 yX7_comes yX7_comes ∈ BIG := tb_0 yX7_comes 30 _ rfl rfl
theorem cw_X7_75 : GoodIn BIG (wsV RX7 75 RX7 yX7_comes (wB (.code yX7_comes cX7_comes 4 (some .int)))) := gV ml_X7_75 im_X7_comes se_X7_comes in_X7 co_X7_comes
theorem ml_X7_78 : Cond.methodLink RX7 78 yX7_madeOf ∈ BIG := tb_4 86 rfl rfl
theorem im_X7_madeOf : Cond.instanceMethod yX7_madeOf ∈ BIG := tb_4 88 rfl rfl
theorem se_X7_madeOf : Cond.selects RX7 yX7_madeOf yX7_madeOf ∈ BIG := tb_0 yX7_madeOf 34 _ rfl rfl
theorem cw_X7_78 : GoodIn BIG (wsV RX7 78 RX7 yX7_madeOf (wB (.code yX7_madeOf cX7_madeOf 4 (some .int)))) := gV ml_X7_78 im_X7_madeOf se_X7_madeOf in_X7 co_X7_madeOf
theorem ml_X7_81 : Cond.methodLink RX7 81 yX7_versions ∈ BIG := tb_4 94 rfl rfl
theorem im_X7_versions : Cond.instanceMethod yX7_versions ∈ BIG := tb_4 96 rfl rfl
theorem se_X7_versions : Cond.selects RX7 yX7_versions yX7_versions ∈ BIG := tb_0 yX7_versions 36 _ rfl rfl
theorem cw_X7_81 : GoodIn BIG (wsV RX7 81 RX7 yX7_versions (wB (.code yX7_versions cX7_versions 5 (some .int)))) := gV ml_X7_81 im_X7_versions se_X7_versions in_X7 co_X7_versions
theorem ml_X7_84 : Cond.methodLink RX7 84 yX7_rootOf ∈ BIG := tb_4 106 rfl rfl
theorem im_X7_rootOf : Cond.instanceMethod yX7_rootOf ∈ BIG := tb_4 108 rfl rfl
theorem se_X7_rootOf : Cond.selects RX7 yX7_rootOf yX7_rootOf ∈ BIG := tb_0 yX7_rootOf 38 _ rfl rfl
theorem cw_X7_84 : GoodIn BIG (wsV RX7 84 RX7 yX7_rootOf (wB (.code yX7_rootOf cX7_rootOf 4 (some .int)))) := gV ml_X7_84 im_X7_rootOf se_X7_rootOf in_X7 co_X7_rootOf
theorem ml_X7_87 : Cond.methodLink RX7 87 yX7_cellsBetween ∈ BIG := tb_4 114 rfl rfl
theorem im_X7_cellsBetween : Cond.instanceMethod yX7_cellsBetween ∈ BIG := tb_4 116 rfl rfl
theorem se_X7_cellsBetween : Cond.selects RX7 yX7_cellsBetween yX7_cellsBetween ∈ BIG := tb_0 yX7_cellsBetween 40 _ rfl rfl
theorem cw_X7_87 : GoodIn BIG (wsV RX7 87 RX7 yX7_cellsBetween (wB (.code yX7_cellsBetween cX7_cellsBetween 3 (some .int)))) := gV ml_X7_87 im_X7_cellsBetween se_X7_cellsBetween in_X7 co_X7_cellsBetween
theorem ml_X7_90 : Cond.methodLink RX7 90 yX7_becomesRoot ∈ BIG := tb_4 130 rfl rfl
theorem im_X7_becomesRoot : Cond.instanceMethod yX7_becomesRoot ∈ BIG := tb_4 132 rfl rfl
theorem se_X7_becomesRoot : Cond.selects RX7 yX7_becomesRoot yX7_becomesRoot ∈ BIG := tb_0 yX7_becomesRoot 44 _ rfl rfl
theorem cw_X7_90 : GoodIn BIG (wsV RX7 90 RX7 yX7_becomesRoot (wB (.code yX7_becomesRoot cX7_becomesRoot 2 none))) := gV ml_X7_90 im_X7_becomesRoot se_X7_becomesRoot in_X7 co_X7_becomesRoot
theorem ml_X7_94 : Cond.methodLink RX7 94 yX7_putAside ∈ BIG := tb_4 43 rfl rfl
theorem im_X7_putAside : Cond.instanceMethod yX7_putAside ∈ BIG := tb_4 45 rfl rfl
theorem se_X7_putAside : Cond.selects RX7 yX7_putAside yX7_putAside ∈ BIG := tb_0 yX7_putAside 26 _ rfl rfl
theorem cw_X7_94 : GoodIn BIG (wsV RX7 94 RX7 yX7_putAside (wB (.code yX7_putAside cX7_putAside 2 none))) := gV ml_X7_94 im_X7_putAside se_X7_putAside in_X7 co_X7_putAside
theorem ml_X7_97 : Cond.methodLink RX7 97 yX7_makes ∈ BIG := tb_4 47 rfl rfl
theorem im_X7_makes : Cond.instanceMethod yX7_makes ∈ BIG := tb_4 49 rfl rfl
theorem se_X7_makes : Cond.selects RX7 yX7_makes yX7_makes ∈ BIG := tb_0 yX7_makes 27 _ rfl rfl
theorem cw_X7_97 : GoodIn BIG (wsV RX7 97 RX7 yX7_makes (wB (.code yX7_makes cX7_makes 5 (some .int)))) := gV ml_X7_97 im_X7_makes se_X7_makes in_X7 co_X7_makes
theorem ml_X7_101 : Cond.methodLink RX7 101 yX7_act ∈ BIG := tb_4 66 rfl rfl
theorem im_X7_act : Cond.instanceMethod yX7_act ∈ BIG := tb_4 68 rfl rfl
theorem se_X7_act : Cond.selects RX7 yX7_act yX7_act ∈ BIG := tb_0 yX7_act 31 _ rfl rfl
theorem cw_X7_101 : GoodIn BIG (wsV RX7 101 RX7 yX7_act (wB (.code yX7_act cX7_act 3 (some .int)))) := gV ml_X7_101 im_X7_act se_X7_act in_X7 co_X7_act
theorem ml_X7_104 : Cond.methodLink RX7 104 yX7_mixes ∈ BIG := tb_4 74 rfl rfl
theorem im_X7_mixes : Cond.instanceMethod yX7_mixes ∈ BIG := tb_4 76 rfl rfl
theorem se_X7_mixes : Cond.selects RX7 yX7_mixes yX7_mixes ∈ BIG := tb_0 yX7_mixes 32 _ rfl rfl
theorem cw_X7_104 : GoodIn BIG (wsV RX7 104 RX7 yX7_mixes (wB (.code yX7_mixes cX7_mixes 6 (some .int)))) := gV ml_X7_104 im_X7_mixes se_X7_mixes in_X7 co_X7_mixes
theorem ml_X7_107 : Cond.methodLink RX7 107 yX7_removes ∈ BIG := tb_4 82 rfl rfl
theorem im_X7_removes : Cond.instanceMethod yX7_removes ∈ BIG := tb_4 84 rfl rfl
theorem se_X7_removes : Cond.selects RX7 yX7_removes yX7_removes ∈ BIG := tb_0 yX7_removes 33 _ rfl rfl
theorem cw_X7_107 : GoodIn BIG (wsV RX7 107 RX7 yX7_removes (wB (.code yX7_removes cX7_removes 3 (some .int)))) := gV ml_X7_107 im_X7_removes se_X7_removes in_X7 co_X7_removes
theorem ml_X7_110 : Cond.methodLink RX7 110 yX7_asks ∈ BIG := tb_4 102 rfl rfl
theorem im_X7_asks : Cond.instanceMethod yX7_asks ∈ BIG := tb_4 104 rfl rfl
theorem se_X7_asks : Cond.selects RX7 yX7_asks yX7_asks ∈ BIG := tb_0 yX7_asks 37 _ rfl rfl
theorem cw_X7_110 : GoodIn BIG (wsV RX7 110 RX7 yX7_asks (wB (.code yX7_asks cX7_asks 6 (some .int)))) := gV ml_X7_110 im_X7_asks se_X7_asks in_X7 co_X7_asks
theorem ml_X7_113 : Cond.methodLink RX7 113 yX7_roots ∈ BIG := tb_4 138 rfl rfl
theorem im_X7_roots : Cond.instanceMethod yX7_roots ∈ BIG := tb_4 140 rfl rfl
theorem se_X7_roots : Cond.selects RX7 yX7_roots yX7_roots ∈ BIG := tb_0 yX7_roots 45 _ rfl rfl
theorem cw_X7_113 : GoodIn BIG (wsV RX7 113 RX7 yX7_roots (wB (.code yX7_roots cX7_roots 3 (some .int)))) := gV ml_X7_113 im_X7_roots se_X7_roots in_X7 co_X7_roots
theorem ml_X7_116 : Cond.methodLink RX7 116 yX7_cuts ∈ BIG := tb_4 146 rfl rfl
theorem im_X7_cuts : Cond.instanceMethod yX7_cuts ∈ BIG := tb_4 148 rfl rfl
theorem se_X7_cuts : Cond.selects RX7 yX7_cuts yX7_cuts ∈ BIG := tb_0 yX7_cuts 46 _ rfl rfl
theorem cw_X7_116 : GoodIn BIG (wsV RX7 116 RX7 yX7_cuts (wB (.code yX7_cuts cX7_cuts 3 (some .int)))) := gV ml_X7_116 im_X7_cuts se_X7_cuts in_X7 co_X7_cuts
theorem ml_X7_119 : Cond.methodLink RX7 119 yX7_joins ∈ BIG := tb_4 154 rfl rfl
theorem im_X7_joins : Cond.instanceMethod yX7_joins ∈ BIG := tb_4 156 rfl rfl
theorem se_X7_joins : Cond.selects RX7 yX7_joins yX7_joins ∈ BIG := tb_0 yX7_joins 47 _ rfl rfl
theorem cw_X7_119 : GoodIn BIG (wsV RX7 119 RX7 yX7_joins (wB (.code yX7_joins cX7_joins 2 (some .int)))) := gV ml_X7_119 im_X7_joins se_X7_joins in_X7 co_X7_joins
theorem ml_X7_122 : Cond.methodLink RX7 122 yX7_sets ∈ BIG := tb_4 162 rfl rfl
theorem im_X7_sets : Cond.instanceMethod yX7_sets ∈ BIG := tb_4 164 rfl rfl
theorem se_X7_sets : Cond.selects RX7 yX7_sets yX7_sets ∈ BIG := tb_0 yX7_sets 48 _ rfl rfl
theorem cw_X7_122 : GoodIn BIG (wsV RX7 122 RX7 yX7_sets (wB (.code yX7_sets cX7_sets 4 (some .int)))) := gV ml_X7_122 im_X7_sets se_X7_sets in_X7 co_X7_sets
theorem ml_X7_135 : Cond.methodLink RX7 135 yX7_sign ∈ BIG := tb_4 190 rfl rfl
theorem im_X7_sign : Cond.instanceMethod yX7_sign ∈ BIG := tb_4 192 rfl rfl
theorem se_X7_sign : Cond.selects RX7 yX7_sign yX7_sign ∈ BIG := tb_0 yX7_sign 52 _ rfl rfl
theorem cw_X7_135 : GoodIn BIG (wsV RX7 135 RX7 yX7_sign (wB (.code yX7_sign cX7_sign 2 none))) := gV ml_X7_135 im_X7_sign se_X7_sign in_X7 co_X7_sign
theorem ml_X7_138 : Cond.methodLink RX7 138 yX7_isNext ∈ BIG := tb_4 194 rfl rfl
theorem im_X7_isNext : Cond.instanceMethod yX7_isNext ∈ BIG := tb_4 196 rfl rfl
theorem se_X7_isNext : Cond.selects RX7 yX7_isNext yX7_isNext ∈ BIG := tb_0 yX7_isNext 53 _ rfl rfl
theorem cw_X7_138 : GoodIn BIG (wsV RX7 138 RX7 yX7_isNext (wB (.code yX7_isNext cX7_isNext 3 (some .boolean)))) := gV ml_X7_138 im_X7_isNext se_X7_isNext in_X7 co_X7_isNext
theorem ml_X7_144 : Cond.methodLink RX7 144 yX7_signs ∈ BIG := tb_4 186 rfl rfl
theorem im_X7_signs : Cond.instanceMethod yX7_signs ∈ BIG := tb_4 188 rfl rfl
theorem se_X7_signs : Cond.selects RX7 yX7_signs yX7_signs ∈ BIG := tb_0 yX7_signs 51 _ rfl rfl
theorem cw_X7_144 : GoodIn BIG (wsV RX7 144 RX7 yX7_signs (wB (.code yX7_signs cX7_signs 4 none))) := gV ml_X7_144 im_X7_signs se_X7_signs in_X7 co_X7_signs
theorem ml_X7_148 : Cond.methodLink RX7 148 yX7_number ∈ BIG := tb_4 198 rfl rfl
theorem im_X7_number : Cond.instanceMethod yX7_number ∈ BIG := tb_4 200 rfl rfl
theorem se_X7_number : Cond.selects RX7 yX7_number yX7_number ∈ BIG := tb_0 yX7_number 54 _ rfl rfl
theorem cw_X7_148 : GoodIn BIG (wsV RX7 148 RX7 yX7_number (wB (.code yX7_number cX7_number 3 (some .int)))) := gV ml_X7_148 im_X7_number se_X7_number in_X7 co_X7_number
theorem ml_X7_160 : Cond.methodLink RX7 160 yX7_cells ∈ BIG := tb_4 202 rfl rfl
theorem im_X7_cells : Cond.instanceMethod yX7_cells ∈ BIG := tb_4 204 rfl rfl
theorem se_X7_cells : Cond.selects RX7 yX7_cells yX7_cells ∈ BIG := tb_0 yX7_cells 55 _ rfl rfl
theorem cw_X7_160 : GoodIn BIG (wsV RX7 160 RX7 yX7_cells (wB (.code yX7_cells cX7_cells 3 (some .int)))) := gV ml_X7_160 im_X7_cells se_X7_cells in_X7 co_X7_cells
theorem ml_X7_163 : Cond.methodLink RX7 163 yX7_order ∈ BIG := tb_4 182 rfl rfl
theorem im_X7_order : Cond.instanceMethod yX7_order ∈ BIG := tb_4 184 rfl rfl
theorem se_X7_order : Cond.selects RX7 yX7_order yX7_order ∈ BIG := tb_0 yX7_order 50 _ rfl rfl
theorem cw_X7_163 : GoodIn BIG (wsV RX7 163 RX7 yX7_order (wB (.code yX7_order cX7_order 1 none))) := gV ml_X7_163 im_X7_order se_X7_order in_X7 co_X7_order
theorem ml_X7_166 : Cond.methodLink RX7 166 yX7_does ∈ BIG := tb_4 206 rfl rfl
theorem im_X7_does : Cond.instanceMethod yX7_does ∈ BIG := tb_4 208 rfl rfl
theorem se_X7_does : Cond.selects RX7 yX7_does yX7_does ∈ BIG := tb_0 yX7_does 56 _ rfl rfl
theorem cw_X7_166 : GoodIn BIG (wsV RX7 166 RX7 yX7_does (wB (.code yX7_does cX7_does 1 (some .int)))) := gV ml_X7_166 im_X7_does se_X7_does in_X7 co_X7_does
theorem ml_X7_172 : Cond.methodLink RX7 172 yX7_go ∈ BIG := tb_4 178 rfl rfl
theorem im_X7_go : Cond.instanceMethod yX7_go ∈ BIG := tb_4 180 rfl rfl
theorem se_X7_go : Cond.selects RX7 yX7_go yX7_go ∈ BIG := tb_0 yX7_go 49 _ rfl rfl
theorem cw_X7_172 : GoodIn BIG (wsV RX7 172 RX7 yX7_go (wB (.code yX7_go cX7_go 5 (some .int)))) := gV ml_X7_172 im_X7_go se_X7_go in_X7 co_X7_go
theorem ml_X7_176 : Cond.methodLink RX7 176 yX7_putBack ∈ BIG := tb_4 210 rfl rfl
theorem im_X7_putBack : Cond.instanceMethod yX7_putBack ∈ BIG := tb_4 212 rfl rfl
theorem se_X7_putBack : Cond.selects RX7 yX7_putBack yX7_putBack ∈ BIG := tb_0 yX7_putBack 57 _ rfl rfl
theorem cw_X7_176 : GoodIn BIG (wsV RX7 176 RX7 yX7_putBack (wB (.code yX7_putBack cX7_putBack 2 none))) := gV ml_X7_176 im_X7_putBack se_X7_putBack in_X7 co_X7_putBack
theorem ml_X7_182 : Cond.methodLink RX7 182 yX7_cellsUnlike ∈ BIG := tb_4 238 rfl rfl
theorem im_X7_cellsUnlike : Cond.instanceMethod yX7_cellsUnlike ∈ BIG := tb_5 0 rfl rfl
theorem se_X7_cellsUnlike : Cond.selects RX7 yX7_cellsUnlike yX7_cellsUnlike ∈ BIG := tb_0 yX7_cellsUnlike 58 _ rfl rfl
theorem cw_X7_182 : GoodIn BIG (wsV RX7 182 RX7 yX7_cellsUnlike (wB (.code yX7_cellsUnlike cX7_cellsUnlike 5 (some .int)))) := gV ml_X7_182 im_X7_cellsUnlike se_X7_cellsUnlike in_X7 co_X7_cellsUnlike
theorem ml_X7_185 : Cond.methodLink RX7 185 yX7_size ∈ BIG := tb_5 2 rfl rfl
theorem im_X7_size : Cond.instanceMethod yX7_size ∈ BIG := tb_5 4 rfl rfl
theorem se_X7_size : Cond.selects RX7 yX7_size yX7_size ∈ BIG := tb_0 yX7_size 59 _ rfl rfl
theorem cw_X7_185 : GoodIn BIG (wsV RX7 185 RX7 yX7_size (wB (.code yX7_size cX7_size 5 (some .int)))) := gV ml_X7_185 im_X7_size se_X7_size in_X7 co_X7_size
theorem ml_X7_188 : Cond.methodLink RX7 188 yX7_isAhead ∈ BIG := tb_5 18 rfl rfl
theorem im_X7_isAhead : Cond.instanceMethod yX7_isAhead ∈ BIG := tb_5 20 rfl rfl
theorem se_X7_isAhead : Cond.selects RX7 yX7_isAhead yX7_isAhead ∈ BIG := tb_0 yX7_isAhead 60 _ rfl rfl
theorem cw_X7_188 : GoodIn BIG (wsV RX7 188 RX7 yX7_isAhead (wB (.code yX7_isAhead cX7_isAhead 4 (some .boolean)))) := gV ml_X7_188 im_X7_isAhead se_X7_isAhead in_X7 co_X7_isAhead
theorem ml_X7_191 : Cond.methodLink RX7 191 yX7_costOf ∈ BIG := tb_5 26 rfl rfl
theorem im_X7_costOf : Cond.instanceMethod yX7_costOf ∈ BIG := tb_5 28 rfl rfl
theorem se_X7_costOf : Cond.selects RX7 yX7_costOf yX7_costOf ∈ BIG := tb_0 yX7_costOf 61 _ rfl rfl
theorem cw_X7_191 : GoodIn BIG (wsV RX7 191 RX7 yX7_costOf (wB (.code yX7_costOf cX7_costOf 6 (some .int)))) := gV ml_X7_191 im_X7_costOf se_X7_costOf in_X7 co_X7_costOf
theorem ml_X7_195 : Cond.methodLink RX7 195 yX7_room ∈ BIG := tb_5 39 rfl rfl
theorem im_X7_room : Cond.instanceMethod yX7_room ∈ BIG := tb_5 41 rfl rfl
theorem se_X7_room : Cond.selects RX7 yX7_room yX7_room ∈ BIG := tb_0 yX7_room 62 _ rfl rfl
theorem cw_X7_195 : GoodIn BIG (wsV RX7 195 RX7 yX7_room (wB (.code yX7_room cX7_room 3 (some .int)))) := gV ml_X7_195 im_X7_room se_X7_room in_X7 co_X7_room
theorem ml_X7_198 : Cond.methodLink RX7 198 yX7_mostSteps ∈ BIG := tb_5 47 rfl rfl
theorem im_X7_mostSteps : Cond.instanceMethod yX7_mostSteps ∈ BIG := tb_5 49 rfl rfl
theorem se_X7_mostSteps : Cond.selects RX7 yX7_mostSteps yX7_mostSteps ∈ BIG := tb_0 yX7_mostSteps 63 _ rfl rfl
theorem cw_X7_198 : GoodIn BIG (wsV RX7 198 RX7 yX7_mostSteps (wB (.code yX7_mostSteps cX7_mostSteps 3 (some .int)))) := gV ml_X7_198 im_X7_mostSteps se_X7_mostSteps in_X7 co_X7_mostSteps
theorem ml_X7_201 : Cond.methodLink RX7 201 yX7_rows ∈ BIG := tb_5 51 rfl rfl
theorem im_X7_rows : Cond.instanceMethod yX7_rows ∈ BIG := tb_5 53 rfl rfl
theorem se_X7_rows : Cond.selects RX7 yX7_rows yX7_rows ∈ BIG := tb_0 yX7_rows 64 _ rfl rfl
theorem cw_X7_201 : GoodIn BIG (wsV RX7 201 RX7 yX7_rows (wB (.code yX7_rows cX7_rows 5 (some .int)))) := gV ml_X7_201 im_X7_rows se_X7_rows in_X7 co_X7_rows
theorem ml_J0_335 : Cond.methodLink RJ0 335 yJ0_coder_7d493 ∈ BIG := tb_3 2 rfl rfl
theorem im_J0_coder_7d493 : Cond.instanceMethod yJ0_coder_7d493 ∈ BIG := tb_3 3 rfl rfl
theorem se_J0_coder_7d493 : Cond.selects RJ0 yJ0_coder_7d493 yJ0_coder_7d493 ∈ BIG := tb_3 4 rfl rfl
theorem cw_J0_335 : GoodIn BIG (wsV RJ0 335 RJ0 yJ0_coder_7d493 (wB (.code yJ0_coder_7d493 cJ0_coder_7d493 1 (some .byte)))) := gV ml_J0_335 im_J0_coder_7d493 se_J0_coder_7d493 in_J0 co_J0_coder_7d493
theorem ml_J0_492 : Cond.methodLink RJ0 492 yJ0_isLatin1_aae02 ∈ BIG := tb_3 16 rfl rfl
theorem im_J0_isLatin1_aae02 : Cond.instanceMethod yJ0_isLatin1_aae02 ∈ BIG := tb_3 17 rfl rfl
theorem se_J0_isLatin1_aae02 : Cond.selects RJ0 yJ0_isLatin1_aae02 yJ0_isLatin1_aae02 ∈ BIG := tb_3 18 rfl rfl
theorem cw_J0_492 : GoodIn BIG (wsV RJ0 492 RJ0 yJ0_isLatin1_aae02 (wB (.code yJ0_isLatin1_aae02 cJ0_isLatin1_aae02 1 (some .boolean)))) := gV ml_J0_492 im_J0_isLatin1_aae02 se_J0_isLatin1_aae02 in_J0 co_J0_isLatin1_aae02
theorem ml_J0_495 : Cond.methodLink RJ0 495 yJ1_charAt_3b067 ∈ BIG := tb_3 20 rfl rfl
theorem st_J1_charAt_3b067 : Cond.static yJ1_charAt_3b067 ∈ BIG := tb_3 21 rfl rfl
theorem cw_J0_495 : GoodIn BIG (va_wsS RJ0 495 yJ1_charAt_3b067 (wB (.code yJ1_charAt_3b067 cJ1_charAt_3b067 2 (some .char)))) := gS ml_J0_495 st_J1_charAt_3b067 in_J1 co_J1_charAt_3b067
theorem ml_J0_498 : Cond.methodLink RJ0 498 yJ2_charAt_3b067 ∈ BIG := tb_3 31 rfl rfl
theorem st_J2_charAt_3b067 : Cond.static yJ2_charAt_3b067 ∈ BIG := tb_3 32 rfl rfl
theorem cw_J0_498 : GoodIn BIG (va_wsS RJ0 498 yJ2_charAt_3b067 (wB (.code yJ2_charAt_3b067 cJ2_charAt_3b067 2 (some .char)))) := gS ml_J0_498 st_J2_charAt_3b067 in_J2 co_J2_charAt_3b067
theorem ml_J0_1059 : Cond.methodLink RJ0 1059 yJ3_checkIndex_8e157 ∈ BIG := tb_3 28 rfl rfl
theorem st_J3_checkIndex_8e157 : Cond.static yJ3_checkIndex_8e157 ∈ BIG := tb_3 29 rfl rfl
theorem cw_J0_1059 : GoodIn BIG (va_wsS RJ0 1059 yJ3_checkIndex_8e157 (wB (.code yJ3_checkIndex_8e157 cJ3_checkIndex_8e157 3 (some .int)))) := gS ml_J0_1059 st_J3_checkIndex_8e157 in_J3 co_J3_checkIndex_8e157
theorem ml_J1_9 : Cond.methodLink RJ1 9 yJ0_checkIndex_df160 ∈ BIG := tb_3 23 rfl rfl
theorem st_J0_checkIndex_df160 : Cond.static yJ0_checkIndex_df160 ∈ BIG := tb_3 24 rfl rfl
theorem cw_J1_9 : GoodIn BIG (va_wsS RJ1 9 yJ0_checkIndex_df160 (wB (.code yJ0_checkIndex_df160 cJ0_checkIndex_df160 2 none))) := gS ml_J1_9 st_J0_checkIndex_df160 in_J0 co_J0_checkIndex_df160
theorem ml_J2_48 : Cond.methodLink RJ2 48 yJ2_length_9d52b ∈ BIG := tb_3 37 rfl rfl
theorem st_J2_length_9d52b : Cond.static yJ2_length_9d52b ∈ BIG := tb_3 38 rfl rfl
theorem cw_J2_48 : GoodIn BIG (va_wsS RJ2 48 yJ2_length_9d52b (wB (.code yJ2_length_9d52b cJ2_length_9d52b 1 (some .int)))) := gS ml_J2_48 st_J2_length_9d52b in_J2 co_J2_length_9d52b
theorem ml_J2_67 : Cond.methodLink RJ2 67 yJ2_checkIndex_2214a ∈ BIG := tb_3 34 rfl rfl
theorem st_J2_checkIndex_2214a : Cond.static yJ2_checkIndex_2214a ∈ BIG := tb_3 35 rfl rfl
theorem cw_J2_67 : GoodIn BIG (va_wsS RJ2 67 yJ2_checkIndex_2214a (wB (.code yJ2_checkIndex_2214a cJ2_checkIndex_2214a 2 none))) := gS ml_J2_67 st_J2_checkIndex_2214a in_J2 co_J2_checkIndex_2214a
theorem ml_J2_71 : Cond.methodLink RJ2 71 yJ2_getChar_3b067 ∈ BIG := tb_3 41 rfl rfl
theorem st_J2_getChar_3b067 : Cond.static yJ2_getChar_3b067 ∈ BIG := tb_3 42 rfl rfl
theorem cw_J2_71 : GoodIn BIG (va_wsS RJ2 71 yJ2_getChar_3b067 (wB (.code yJ2_getChar_3b067 cJ2_getChar_3b067 2 (some .char)))) := gS ml_J2_71 st_J2_getChar_3b067 in_J2 co_J2_getChar_3b067
theorem ml_J2_414 : Cond.methodLink RJ2 414 yJ0_checkIndex_df160 ∈ BIG := tb_3 40 rfl rfl
theorem cw_J2_414 : GoodIn BIG (va_wsS RJ2 414 yJ0_checkIndex_df160 (wB (.code yJ0_checkIndex_df160 cJ0_checkIndex_df160 2 none))) := gS ml_J2_414 st_J0_checkIndex_df160 in_J0 co_J0_checkIndex_df160
theorem ml_L_13 : Cond.methodLink RL 13 yX6_make ∈ BIG := tb_1 182 rfl rfl
theorem im_X6_make : Cond.instanceMethod yX6_make ∈ BIG := tb_1 183 rfl rfl
theorem se_X6_make : Cond.selects RX6 yX6_make yX6_make ∈ BIG := tb_1 184 rfl rfl
theorem cw_L_13 : GoodIn BIG (wsV RL 13 RX6 yX6_make (wB (.code yX6_make cX6_make 4 (some .int)))) := gV ml_L_13 im_X6_make se_X6_make in_X6 co_X6_make
theorem ml_L_17 : Cond.methodLink RL 17 yX7_make ∈ BIG := tb_4 39 rfl rfl
theorem im_X7_make : Cond.instanceMethod yX7_make ∈ BIG := tb_4 40 rfl rfl
theorem se_X7_make : Cond.selects RX7 yX7_make yX7_make ∈ BIG := tb_4 41 rfl rfl
theorem cw_L_17 : GoodIn BIG (wsV RL 17 RX7 yX7_make (wB (.code yX7_make cX7_make 4 (some .int)))) := gV ml_L_17 im_X7_make se_X7_make in_X7 co_X7_make
theorem ml_L_18 : Cond.methodLink RL 18 yX6_mix ∈ BIG := tb_2 33 rfl rfl
theorem im_X6_mix : Cond.instanceMethod yX6_mix ∈ BIG := tb_2 34 rfl rfl
theorem se_X6_mix : Cond.selects RX6 yX6_mix yX6_mix ∈ BIG := tb_2 35 rfl rfl
theorem cw_L_18 : GoodIn BIG (wsV RL 18 RX6 yX6_mix (wB (.code yX6_mix cX6_mix 4 (some .int)))) := gV ml_L_18 im_X6_mix se_X6_mix in_X6 co_X6_mix
theorem ml_L_21 : Cond.methodLink RL 21 yX7_mix ∈ BIG := tb_4 70 rfl rfl
theorem im_X7_mix : Cond.instanceMethod yX7_mix ∈ BIG := tb_4 71 rfl rfl
theorem se_X7_mix : Cond.selects RX7 yX7_mix yX7_mix ∈ BIG := tb_4 72 rfl rfl
theorem cw_L_21 : GoodIn BIG (wsV RL 21 RX7 yX7_mix (wB (.code yX7_mix cX7_mix 4 (some .int)))) := gV ml_L_21 im_X7_mix se_X7_mix in_X7 co_X7_mix
theorem ml_L_22 : Cond.methodLink RL 22 yX6_remove ∈ BIG := tb_2 41 rfl rfl
theorem im_X6_remove : Cond.instanceMethod yX6_remove ∈ BIG := tb_2 42 rfl rfl
theorem se_X6_remove : Cond.selects RX6 yX6_remove yX6_remove ∈ BIG := tb_2 43 rfl rfl
theorem cw_L_22 : GoodIn BIG (wsV RL 22 RX6 yX6_remove (wB (.code yX6_remove cX6_remove 2 (some .int)))) := gV ml_L_22 im_X6_remove se_X6_remove in_X6 co_X6_remove
theorem ml_L_26 : Cond.methodLink RL 26 yX7_remove ∈ BIG := tb_4 78 rfl rfl
theorem im_X7_remove : Cond.instanceMethod yX7_remove ∈ BIG := tb_4 79 rfl rfl
theorem se_X7_remove : Cond.selects RX7 yX7_remove yX7_remove ∈ BIG := tb_4 80 rfl rfl
theorem cw_L_26 : GoodIn BIG (wsV RL 26 RX7 yX7_remove (wB (.code yX7_remove cX7_remove 2 (some .int)))) := gV ml_L_26 im_X7_remove se_X7_remove in_X7 co_X7_remove
theorem ml_L_27 : Cond.methodLink RL 27 yX6_ask ∈ BIG := tb_2 88 rfl rfl
theorem im_X6_ask : Cond.instanceMethod yX6_ask ∈ BIG := tb_2 89 rfl rfl
theorem se_X6_ask : Cond.selects RX6 yX6_ask yX6_ask ∈ BIG := tb_2 90 rfl rfl
theorem cw_L_27 : GoodIn BIG (wsV RL 27 RX6 yX6_ask (wB (.code yX6_ask cX6_ask 2 (some .int)))) := gV ml_L_27 im_X6_ask se_X6_ask in_X6 co_X6_ask
theorem ml_L_30 : Cond.methodLink RL 30 yX7_ask ∈ BIG := tb_4 98 rfl rfl
theorem im_X7_ask : Cond.instanceMethod yX7_ask ∈ BIG := tb_4 99 rfl rfl
theorem se_X7_ask : Cond.selects RX7 yX7_ask yX7_ask ∈ BIG := tb_4 100 rfl rfl
theorem cw_L_30 : GoodIn BIG (wsV RL 30 RX7 yX7_ask (wB (.code yX7_ask cX7_ask 2 (some .int)))) := gV ml_L_30 im_X7_ask se_X7_ask in_X7 co_X7_ask
theorem ml_L_31 : Cond.methodLink RL 31 yX6_root ∈ BIG := tb_2 159 rfl rfl
theorem im_X6_root : Cond.instanceMethod yX6_root ∈ BIG := tb_2 160 rfl rfl
theorem se_X6_root : Cond.selects RX6 yX6_root yX6_root ∈ BIG := tb_2 161 rfl rfl
theorem cw_L_31 : GoodIn BIG (wsV RL 31 RX6 yX6_root (wB (.code yX6_root cX6_root 2 (some .int)))) := gV ml_L_31 im_X6_root se_X6_root in_X6 co_X6_root
theorem ml_L_34 : Cond.methodLink RL 34 yX7_root ∈ BIG := tb_4 134 rfl rfl
theorem im_X7_root : Cond.instanceMethod yX7_root ∈ BIG := tb_4 135 rfl rfl
theorem se_X7_root : Cond.selects RX7 yX7_root yX7_root ∈ BIG := tb_4 136 rfl rfl
theorem cw_L_34 : GoodIn BIG (wsV RL 34 RX7 yX7_root (wB (.code yX7_root cX7_root 2 (some .int)))) := gV ml_L_34 im_X7_root se_X7_root in_X7 co_X7_root
theorem ml_L_35 : Cond.methodLink RL 35 yX6_cut ∈ BIG := tb_2 167 rfl rfl
theorem im_X6_cut : Cond.instanceMethod yX6_cut ∈ BIG := tb_2 168 rfl rfl
theorem se_X6_cut : Cond.selects RX6 yX6_cut yX6_cut ∈ BIG := tb_2 169 rfl rfl
theorem cw_L_35 : GoodIn BIG (wsV RL 35 RX6 yX6_cut (wB (.code yX6_cut cX6_cut 2 (some .int)))) := gV ml_L_35 im_X6_cut se_X6_cut in_X6 co_X6_cut
theorem ml_L_38 : Cond.methodLink RL 38 yX7_cut ∈ BIG := tb_4 142 rfl rfl
theorem im_X7_cut : Cond.instanceMethod yX7_cut ∈ BIG := tb_4 143 rfl rfl
theorem se_X7_cut : Cond.selects RX7 yX7_cut yX7_cut ∈ BIG := tb_4 144 rfl rfl
theorem cw_L_38 : GoodIn BIG (wsV RL 38 RX7 yX7_cut (wB (.code yX7_cut cX7_cut 2 (some .int)))) := gV ml_L_38 im_X7_cut se_X7_cut in_X7 co_X7_cut
theorem ml_L_39 : Cond.methodLink RL 39 yX6_join ∈ BIG := tb_2 180 rfl rfl
theorem im_X6_join : Cond.instanceMethod yX6_join ∈ BIG := tb_2 181 rfl rfl
theorem se_X6_join : Cond.selects RX6 yX6_join yX6_join ∈ BIG := tb_2 182 rfl rfl
theorem cw_L_39 : GoodIn BIG (wsV RL 39 RX6 yX6_join (wB (.code yX6_join cX6_join 2 (some .int)))) := gV ml_L_39 im_X6_join se_X6_join in_X6 co_X6_join
theorem ml_L_42 : Cond.methodLink RL 42 yX7_join ∈ BIG := tb_4 150 rfl rfl
theorem im_X7_join : Cond.instanceMethod yX7_join ∈ BIG := tb_4 151 rfl rfl
theorem se_X7_join : Cond.selects RX7 yX7_join yX7_join ∈ BIG := tb_4 152 rfl rfl
theorem cw_L_42 : GoodIn BIG (wsV RL 42 RX7 yX7_join (wB (.code yX7_join cX7_join 2 (some .int)))) := gV ml_L_42 im_X7_join se_X7_join in_X7 co_X7_join
theorem ml_L_43 : Cond.methodLink RL 43 yX6_set ∈ BIG := tb_2 190 rfl rfl
theorem im_X6_set : Cond.instanceMethod yX6_set ∈ BIG := tb_2 191 rfl rfl
theorem se_X6_set : Cond.selects RX6 yX6_set yX6_set ∈ BIG := tb_2 192 rfl rfl
theorem cw_L_43 : GoodIn BIG (wsV RL 43 RX6 yX6_set (wB (.code yX6_set cX6_set 5 (some .int)))) := gV ml_L_43 im_X6_set se_X6_set in_X6 co_X6_set
theorem ml_L_47 : Cond.methodLink RL 47 yX7_set ∈ BIG := tb_4 158 rfl rfl
theorem im_X7_set : Cond.instanceMethod yX7_set ∈ BIG := tb_4 159 rfl rfl
theorem se_X7_set : Cond.selects RX7 yX7_set yX7_set ∈ BIG := tb_4 160 rfl rfl
theorem cw_L_47 : GoodIn BIG (wsV RL 47 RX7 yX7_set (wB (.code yX7_set cX7_set 3 (some .int)))) := gV ml_L_47 im_X7_set se_X7_set in_X7 co_X7_set
theorem ml_L_48 : Cond.methodLink RL 48 yX6_type ∈ BIG := tb_2 194 rfl rfl
theorem im_X6_type : Cond.instanceMethod yX6_type ∈ BIG := tb_2 195 rfl rfl
theorem se_X6_type : Cond.selects RX6 yX6_type yX6_type ∈ BIG := tb_2 196 rfl rfl
theorem cw_L_48 : GoodIn BIG (wsV RL 48 RX6 yX6_type (wB (.code yX6_type cX6_type 2 (some .int)))) := gV ml_L_48 im_X6_type se_X6_type in_X6 co_X6_type
theorem ml_L_52 : Cond.methodLink RL 52 yX7_type ∈ BIG := tb_4 166 rfl rfl
theorem im_X7_type : Cond.instanceMethod yX7_type ∈ BIG := tb_4 167 rfl rfl
theorem se_X7_type : Cond.selects RX7 yX7_type yX7_type ∈ BIG := tb_4 168 rfl rfl
theorem cw_L_52 : GoodIn BIG (wsV RL 52 RX7 yX7_type (wB (.code yX7_type cX7_type 2 (some .int)))) := gV ml_L_52 im_X7_type se_X7_type in_X7 co_X7_type
theorem ml_L_53 : Cond.methodLink RL 53 yX6_clearText ∈ BIG := tb_2 202 rfl rfl
theorem im_X6_clearText : Cond.instanceMethod yX6_clearText ∈ BIG := tb_2 203 rfl rfl
theorem se_X6_clearText : Cond.selects RX6 yX6_clearText yX6_clearText ∈ BIG := tb_2 204 rfl rfl
theorem cw_L_53 : GoodIn BIG (wsV RL 53 RX6 yX6_clearText (wB (.code yX6_clearText cX6_clearText 1 (some .int)))) := gV ml_L_53 im_X6_clearText se_X6_clearText in_X6 co_X6_clearText
theorem ml_L_57 : Cond.methodLink RL 57 yX7_clearText ∈ BIG := tb_4 170 rfl rfl
theorem im_X7_clearText : Cond.instanceMethod yX7_clearText ∈ BIG := tb_4 171 rfl rfl
theorem se_X7_clearText : Cond.selects RX7 yX7_clearText yX7_clearText ∈ BIG := tb_4 172 rfl rfl
theorem cw_L_57 : GoodIn BIG (wsV RL 57 RX7 yX7_clearText (wB (.code yX7_clearText cX7_clearText 2 (some .int)))) := gV ml_L_57 im_X7_clearText se_X7_clearText in_X7 co_X7_clearText
theorem ml_L_58 : Cond.methodLink RL 58 yX6_perform ∈ BIG := tb_2 210 rfl rfl
theorem im_X6_perform : Cond.instanceMethod yX6_perform ∈ BIG := tb_2 211 rfl rfl
theorem se_X6_perform : Cond.selects RX6 yX6_perform yX6_perform ∈ BIG := tb_2 212 rfl rfl
theorem cw_L_58 : GoodIn BIG (wsV RL 58 RX6 yX6_perform (wB (.code yX6_perform cX6_perform 3 (some .int)))) := gV ml_L_58 im_X6_perform se_X6_perform in_X6 co_X6_perform
theorem ml_L_61 : Cond.methodLink RL 61 yX7_perform ∈ BIG := tb_4 174 rfl rfl
theorem im_X7_perform : Cond.instanceMethod yX7_perform ∈ BIG := tb_4 175 rfl rfl
theorem se_X7_perform : Cond.selects RX7 yX7_perform yX7_perform ∈ BIG := tb_4 176 rfl rfl
theorem cw_L_61 : GoodIn BIG (wsV RL 61 RX7 yX7_perform (wB (.code yX7_perform cX7_perform 3 (some .int)))) := gV ml_L_61 im_X7_perform se_X7_perform in_X7 co_X7_perform
theorem ml_L_62 : Cond.methodLink RL 62 yX6_stopped ∈ BIG := tb_3 101 rfl rfl
theorem im_X6_stopped : Cond.instanceMethod yX6_stopped ∈ BIG := tb_3 102 rfl rfl
theorem se_X6_stopped : Cond.selects RX6 yX6_stopped yX6_stopped ∈ BIG := tb_3 103 rfl rfl
theorem cw_L_62 : GoodIn BIG (wsV RL 62 RX6 yX6_stopped (wB (.code yX6_stopped cX6_stopped 2 (some .int)))) := gV ml_L_62 im_X6_stopped se_X6_stopped in_X6 co_X6_stopped
theorem ml_L_65 : Cond.methodLink RL 65 yX7_stopped ∈ BIG := tb_4 214 rfl rfl
theorem im_X7_stopped : Cond.instanceMethod yX7_stopped ∈ BIG := tb_4 215 rfl rfl
theorem se_X7_stopped : Cond.selects RX7 yX7_stopped yX7_stopped ∈ BIG := tb_4 216 rfl rfl
theorem cw_L_65 : GoodIn BIG (wsV RL 65 RX7 yX7_stopped (wB (.code yX7_stopped cX7_stopped 2 (some .int)))) := gV ml_L_65 im_X7_stopped se_X7_stopped in_X7 co_X7_stopped
theorem ml_L_66 : Cond.methodLink RL 66 yX6_undo ∈ BIG := tb_3 105 rfl rfl
theorem im_X6_undo : Cond.instanceMethod yX6_undo ∈ BIG := tb_3 106 rfl rfl
theorem se_X6_undo : Cond.selects RX6 yX6_undo yX6_undo ∈ BIG := tb_3 107 rfl rfl
theorem cw_L_66 : GoodIn BIG (wsV RL 66 RX6 yX6_undo (wB (.code yX6_undo cX6_undo 1 (some .int)))) := gV ml_L_66 im_X6_undo se_X6_undo in_X6 co_X6_undo
theorem ml_L_69 : Cond.methodLink RL 69 yX7_undo ∈ BIG := tb_4 218 rfl rfl
theorem im_X7_undo : Cond.instanceMethod yX7_undo ∈ BIG := tb_4 219 rfl rfl
theorem se_X7_undo : Cond.selects RX7 yX7_undo yX7_undo ∈ BIG := tb_4 220 rfl rfl
theorem cw_L_69 : GoodIn BIG (wsV RL 69 RX7 yX7_undo (wB (.code yX7_undo cX7_undo 2 (some .int)))) := gV ml_L_69 im_X7_undo se_X7_undo in_X7 co_X7_undo
theorem ml_L_70 : Cond.methodLink RL 70 yX6_keep ∈ BIG := tb_3 113 rfl rfl
theorem im_X6_keep : Cond.instanceMethod yX6_keep ∈ BIG := tb_3 114 rfl rfl
theorem se_X6_keep : Cond.selects RX6 yX6_keep yX6_keep ∈ BIG := tb_3 115 rfl rfl
theorem cw_L_70 : GoodIn BIG (wsV RL 70 RX6 yX6_keep (wB (.code yX6_keep cX6_keep 1 (some .int)))) := gV ml_L_70 im_X6_keep se_X6_keep in_X6 co_X6_keep
theorem ml_L_73 : Cond.methodLink RL 73 yX7_keep ∈ BIG := tb_4 222 rfl rfl
theorem im_X7_keep : Cond.instanceMethod yX7_keep ∈ BIG := tb_4 223 rfl rfl
theorem se_X7_keep : Cond.selects RX7 yX7_keep yX7_keep ∈ BIG := tb_4 224 rfl rfl
theorem cw_L_73 : GoodIn BIG (wsV RL 73 RX7 yX7_keep (wB (.code yX7_keep cX7_keep 2 (some .int)))) := gV ml_L_73 im_X7_keep se_X7_keep in_X7 co_X7_keep
theorem ml_L_74 : Cond.methodLink RL 74 yX6_restore ∈ BIG := tb_3 117 rfl rfl
theorem im_X6_restore : Cond.instanceMethod yX6_restore ∈ BIG := tb_3 118 rfl rfl
theorem se_X6_restore : Cond.selects RX6 yX6_restore yX6_restore ∈ BIG := tb_3 119 rfl rfl
theorem cw_L_74 : GoodIn BIG (wsV RL 74 RX6 yX6_restore (wB (.code yX6_restore cX6_restore 1 (some .int)))) := gV ml_L_74 im_X6_restore se_X6_restore in_X6 co_X6_restore
theorem ml_L_77 : Cond.methodLink RL 77 yX7_restore ∈ BIG := tb_4 226 rfl rfl
theorem im_X7_restore : Cond.instanceMethod yX7_restore ∈ BIG := tb_4 227 rfl rfl
theorem se_X7_restore : Cond.selects RX7 yX7_restore yX7_restore ∈ BIG := tb_4 228 rfl rfl
theorem cw_L_77 : GoodIn BIG (wsV RL 77 RX7 yX7_restore (wB (.code yX7_restore cX7_restore 2 (some .int)))) := gV ml_L_77 im_X7_restore se_X7_restore in_X7 co_X7_restore
theorem ml_L_78 : Cond.methodLink RL 78 yX6_cell ∈ BIG := tb_3 121 rfl rfl
theorem im_X6_cell : Cond.instanceMethod yX6_cell ∈ BIG := tb_3 122 rfl rfl
theorem se_X6_cell : Cond.selects RX6 yX6_cell yX6_cell ∈ BIG := tb_3 123 rfl rfl
theorem cw_L_78 : GoodIn BIG (wsV RL 78 RX6 yX6_cell (wB (.code yX6_cell cX6_cell 3 (some .int)))) := gV ml_L_78 im_X6_cell se_X6_cell in_X6 co_X6_cell
theorem ml_L_81 : Cond.methodLink RL 81 yX7_cell ∈ BIG := tb_4 230 rfl rfl
theorem im_X7_cell : Cond.instanceMethod yX7_cell ∈ BIG := tb_4 231 rfl rfl
theorem se_X7_cell : Cond.selects RX7 yX7_cell yX7_cell ∈ BIG := tb_4 232 rfl rfl
theorem cw_L_81 : GoodIn BIG (wsV RL 81 RX7 yX7_cell (wB (.code yX7_cell cX7_cell 3 (some .int)))) := gV ml_L_81 im_X7_cell se_X7_cell in_X7 co_X7_cell
theorem ml_L_82 : Cond.methodLink RL 82 yX6_version ∈ BIG := tb_3 126 rfl rfl
theorem im_X6_version : Cond.instanceMethod yX6_version ∈ BIG := tb_3 127 rfl rfl
theorem se_X6_version : Cond.selects RX6 yX6_version yX6_version ∈ BIG := tb_3 128 rfl rfl
theorem cw_L_82 : GoodIn BIG (wsV RL 82 RX6 yX6_version (wB (.code yX6_version cX6_version 3 (some .int)))) := gV ml_L_82 im_X6_version se_X6_version in_X6 co_X6_version
theorem ml_L_85 : Cond.methodLink RL 85 yX7_version ∈ BIG := tb_4 234 rfl rfl
theorem im_X7_version : Cond.instanceMethod yX7_version ∈ BIG := tb_4 235 rfl rfl
theorem se_X7_version : Cond.selects RX7 yX7_version yX7_version ∈ BIG := tb_4 236 rfl rfl
theorem cw_L_85 : GoodIn BIG (wsV RL 85 RX7 yX7_version (wB (.code yX7_version cX7_version 4 (some .int)))) := gV ml_L_85 im_X7_version se_X7_version in_X7 co_X7_version
theorem ml_L_86 : Cond.methodLink RL 86 yX6_way ∈ BIG := tb_3 136 rfl rfl
theorem im_X6_way : Cond.instanceMethod yX6_way ∈ BIG := tb_3 137 rfl rfl
theorem se_X6_way : Cond.selects RX6 yX6_way yX6_way ∈ BIG := tb_3 138 rfl rfl
theorem cw_L_86 : GoodIn BIG (wsV RL 86 RX6 yX6_way (wB (.code yX6_way cX6_way 4 (some .int)))) := gV ml_L_86 im_X6_way se_X6_way in_X6 co_X6_way
theorem ml_L_89 : Cond.methodLink RL 89 yX7_way ∈ BIG := tb_5 6 rfl rfl
theorem im_X7_way : Cond.instanceMethod yX7_way ∈ BIG := tb_5 7 rfl rfl
theorem se_X7_way : Cond.selects RX7 yX7_way yX7_way ∈ BIG := tb_5 8 rfl rfl
theorem cw_L_89 : GoodIn BIG (wsV RL 89 RX7 yX7_way (wB (.code yX7_way cX7_way 3 (some .int)))) := gV ml_L_89 im_X7_way se_X7_way in_X7 co_X7_way
theorem ml_L_90 : Cond.methodLink RL 90 yX6_unlike ∈ BIG := tb_3 140 rfl rfl
theorem im_X6_unlike : Cond.instanceMethod yX6_unlike ∈ BIG := tb_3 141 rfl rfl
theorem se_X6_unlike : Cond.selects RX6 yX6_unlike yX6_unlike ∈ BIG := tb_3 142 rfl rfl
theorem cw_L_90 : GoodIn BIG (wsV RL 90 RX6 yX6_unlike (wB (.code yX6_unlike cX6_unlike 3 (some .int)))) := gV ml_L_90 im_X6_unlike se_X6_unlike in_X6 co_X6_unlike
theorem ml_L_93 : Cond.methodLink RL 93 yX7_unlike ∈ BIG := tb_5 10 rfl rfl
theorem im_X7_unlike : Cond.instanceMethod yX7_unlike ∈ BIG := tb_5 11 rfl rfl
theorem se_X7_unlike : Cond.selects RX7 yX7_unlike yX7_unlike ∈ BIG := tb_5 12 rfl rfl
theorem cw_L_93 : GoodIn BIG (wsV RL 93 RX7 yX7_unlike (wB (.code yX7_unlike cX7_unlike 3 (some .int)))) := gV ml_L_93 im_X7_unlike se_X7_unlike in_X7 co_X7_unlike
theorem ml_L_94 : Cond.methodLink RL 94 yX6_common ∈ BIG := tb_3 145 rfl rfl
theorem im_X6_common : Cond.instanceMethod yX6_common ∈ BIG := tb_3 146 rfl rfl
theorem se_X6_common : Cond.selects RX6 yX6_common yX6_common ∈ BIG := tb_3 147 rfl rfl
theorem cw_L_94 : GoodIn BIG (wsV RL 94 RX6 yX6_common (wB (.code yX6_common cX6_common 6 (some .int)))) := gV ml_L_94 im_X6_common se_X6_common in_X6 co_X6_common
theorem ml_L_97 : Cond.methodLink RL 97 yX7_common ∈ BIG := tb_5 14 rfl rfl
theorem im_X7_common : Cond.instanceMethod yX7_common ∈ BIG := tb_5 15 rfl rfl
theorem se_X7_common : Cond.selects RX7 yX7_common yX7_common ∈ BIG := tb_5 16 rfl rfl
theorem cw_L_97 : GoodIn BIG (wsV RL 97 RX7 yX7_common (wB (.code yX7_common cX7_common 4 (some .int)))) := gV ml_L_97 im_X7_common se_X7_common in_X7 co_X7_common
theorem ml_L_98 : Cond.methodLink RL 98 yX6_ifRoot ∈ BIG := tb_3 154 rfl rfl
theorem im_X6_ifRoot : Cond.instanceMethod yX6_ifRoot ∈ BIG := tb_3 155 rfl rfl
theorem se_X6_ifRoot : Cond.selects RX6 yX6_ifRoot yX6_ifRoot ∈ BIG := tb_3 156 rfl rfl
theorem cw_L_98 : GoodIn BIG (wsV RL 98 RX6 yX6_ifRoot (wB (.code yX6_ifRoot cX6_ifRoot 2 (some .int)))) := gV ml_L_98 im_X6_ifRoot se_X6_ifRoot in_X6 co_X6_ifRoot
theorem ml_L_101 : Cond.methodLink RL 101 yX7_ifRoot ∈ BIG := tb_5 22 rfl rfl
theorem im_X7_ifRoot : Cond.instanceMethod yX7_ifRoot ∈ BIG := tb_5 23 rfl rfl
theorem se_X7_ifRoot : Cond.selects RX7 yX7_ifRoot yX7_ifRoot ∈ BIG := tb_5 24 rfl rfl
theorem cw_L_101 : GoodIn BIG (wsV RL 101 RX7 yX7_ifRoot (wB (.code yX7_ifRoot cX7_ifRoot 2 (some .int)))) := gV ml_L_101 im_X7_ifRoot se_X7_ifRoot in_X7 co_X7_ifRoot
theorem ml_L_102 : Cond.methodLink RL 102 yX6_bestRoot ∈ BIG := tb_3 162 rfl rfl
theorem im_X6_bestRoot : Cond.instanceMethod yX6_bestRoot ∈ BIG := tb_3 163 rfl rfl
theorem se_X6_bestRoot : Cond.selects RX6 yX6_bestRoot yX6_bestRoot ∈ BIG := tb_3 164 rfl rfl
theorem cw_L_102 : GoodIn BIG (wsV RL 102 RX6 yX6_bestRoot (wB (.code yX6_bestRoot cX6_bestRoot 7 (some .int)))) := gV ml_L_102 im_X6_bestRoot se_X6_bestRoot in_X6 co_X6_bestRoot
theorem ml_L_105 : Cond.methodLink RL 105 yX7_bestRoot ∈ BIG := tb_5 30 rfl rfl
theorem im_X7_bestRoot : Cond.instanceMethod yX7_bestRoot ∈ BIG := tb_5 31 rfl rfl
theorem se_X7_bestRoot : Cond.selects RX7 yX7_bestRoot yX7_bestRoot ∈ BIG := tb_5 32 rfl rfl
theorem cw_L_105 : GoodIn BIG (wsV RL 105 RX7 yX7_bestRoot (wB (.code yX7_bestRoot cX7_bestRoot 7 (some .int)))) := gV ml_L_105 im_X7_bestRoot se_X7_bestRoot in_X7 co_X7_bestRoot
theorem ml_L_106 : Cond.methodLink RL 106 yX6_ifCut ∈ BIG := tb_3 166 rfl rfl
theorem im_X6_ifCut : Cond.instanceMethod yX6_ifCut ∈ BIG := tb_3 167 rfl rfl
theorem se_X6_ifCut : Cond.selects RX6 yX6_ifCut yX6_ifCut ∈ BIG := tb_3 168 rfl rfl
theorem cw_L_106 : GoodIn BIG (wsV RL 106 RX6 yX6_ifCut (wB (.code yX6_ifCut cX6_ifCut 3 (some .int)))) := gV ml_L_106 im_X6_ifCut se_X6_ifCut in_X6 co_X6_ifCut
theorem ml_L_109 : Cond.methodLink RL 109 yX7_ifCut ∈ BIG := tb_5 35 rfl rfl
theorem im_X7_ifCut : Cond.instanceMethod yX7_ifCut ∈ BIG := tb_5 36 rfl rfl
theorem se_X7_ifCut : Cond.selects RX7 yX7_ifCut yX7_ifCut ∈ BIG := tb_5 37 rfl rfl
theorem cw_L_109 : GoodIn BIG (wsV RL 109 RX7 yX7_ifCut (wB (.code yX7_ifCut cX7_ifCut 3 (some .int)))) := gV ml_L_109 im_X7_ifCut se_X7_ifCut in_X7 co_X7_ifCut
theorem ml_L_110 : Cond.methodLink RL 110 yX6_count ∈ BIG := tb_3 182 rfl rfl
theorem im_X6_count : Cond.instanceMethod yX6_count ∈ BIG := tb_3 183 rfl rfl
theorem se_X6_count : Cond.selects RX6 yX6_count yX6_count ∈ BIG := tb_3 184 rfl rfl
theorem cw_L_110 : GoodIn BIG (wsV RL 110 RX6 yX6_count (wB (.code yX6_count cX6_count 2 (some .int)))) := gV ml_L_110 im_X6_count se_X6_count in_X6 co_X6_count
theorem ml_L_113 : Cond.methodLink RL 113 yX7_count ∈ BIG := tb_5 43 rfl rfl
theorem im_X7_count : Cond.instanceMethod yX7_count ∈ BIG := tb_5 44 rfl rfl
theorem se_X7_count : Cond.selects RX7 yX7_count yX7_count ∈ BIG := tb_5 45 rfl rfl
theorem cw_L_113 : GoodIn BIG (wsV RL 113 RX7 yX7_count (wB (.code yX7_count cX7_count 2 (some .int)))) := gV ml_L_113 im_X7_count se_X7_count in_X7 co_X7_count
end
section
set_option maxRecDepth 100000 in
set_option maxHeartbeats 8000000 in
theorem c_J0_coder (l : Launch) (g : GT) (i : Nat) (hi : i < 5) : CR l yJ0_coder_7d493 (.code yJ0_coder_7d493 cJ0_coder_7d493 1 (some .byte)) 0 g [.ref (gK g i)] [] (some (.int 0)) := by
  refine CRx.of (nL := 1) (ret := (some .byte)) (own := RJ0) (cc := cJ0_coder_7d493) rfl (by decide) rfl (List.forall_mem_cons.mpr ⟨rfl, (fun _ h => absurd h List.not_mem_nil)⟩) (Nat.le_of_ble_eq_true rfl) ?_
  intro k C hkl hkg
  subst hkl; subst hkg
  refine x_loc2 (L' := [some (.ref (gK (kg k) i))]) rfl ?_
  refine x_gets (pc' := 3) C C.2.2.2.2.2.2.2.1.2.2.2.1 fl_J0_38 dJ0_coder_7d493_0 rfl ?_
  refine x_if_eq (tgt := 13) (pc' := 6) C dJ0_coder_7d493_3 (by decide) rfl (fun c => absurd c (by decide)) (fun _ => ?_)
  refine x_aload_n (pc' := 7) C dJ0_coder_7d493_6 rfl rfl rfl ?_
  refine x_getO (pc' := 10) C (C.2.2.2.2.2.2.2.1.2.1.1 i hi).2.1 fl_J0_15 dJ0_coder_7d493_7 rfl ?_
  refine x_goto (tgt := 14) C dJ0_coder_7d493_10 (by decide) ?_
  exact x_nret C rfl rfl (Nat.zero_le _) (Nat.zero_le _) dJ0_coder_7d493_14 rfl
set_option maxRecDepth 100000 in
set_option maxHeartbeats 8000000 in
theorem c_J0_isLatin1 (l : Launch) (g : GT) (i : Nat) (hi : i < 5) : CR l yJ0_isLatin1_aae02 (.code yJ0_isLatin1_aae02 cJ0_isLatin1_aae02 1 (some .boolean)) 0 g [.ref (gK g i)] [] (some (.int (bI true))) := by
  refine CRx.of (nL := 1) (ret := (some .boolean)) (own := RJ0) (cc := cJ0_isLatin1_aae02) rfl (by decide) rfl (List.forall_mem_cons.mpr ⟨rfl, (fun _ h => absurd h List.not_mem_nil)⟩) (Nat.le_of_ble_eq_true rfl) ?_
  intro k C hkl hkg
  subst hkl; subst hkg
  refine x_loc2 (L' := [some (.ref (gK (kg k) i))]) rfl ?_
  refine x_gets (pc' := 3) C C.2.2.2.2.2.2.2.1.2.2.2.1 fl_J0_38 dJ0_isLatin1_aae02_0 rfl ?_
  refine x_if_eq (tgt := 17) (pc' := 6) C dJ0_isLatin1_aae02_3 (by decide) rfl (fun c => absurd c (by decide)) (fun _ => ?_)
  refine x_aload_n (pc' := 7) C dJ0_isLatin1_aae02_6 rfl rfl rfl ?_
  refine x_getO (pc' := 10) C (C.2.2.2.2.2.2.2.1.2.1.1 i hi).2.1 fl_J0_15 dJ0_isLatin1_aae02_7 rfl ?_
  refine x_if_ne (tgt := 17) (pc' := 13) C dJ0_isLatin1_aae02_10 (by decide) rfl (fun c => absurd rfl c) (fun _ => ?_)
  refine x_iconst (v := 1) (pc' := 14) C dJ0_isLatin1_aae02_13 rfl (by decide) ?_
  refine x_goto (tgt := 18) C dJ0_isLatin1_aae02_14 (by decide) ?_
  exact x_zret (b := true) C (Nat.zero_le _) (Nat.zero_le _) dJ0_isLatin1_aae02_18 rfl
set_option maxRecDepth 100000 in
set_option maxHeartbeats 8000000 in
theorem c_J0_length (l : Launch) (g : GT) (i : Nat) (hi : i < 5) : CR l yJ0_length_8abf5 (.code yJ0_length_8abf5 cJ0_length_8abf5 1 (some .int)) 1 g [.ref (gK g i)] [] (some (.int (nI (lenS.getD i 0)))) := by
  refine CRx.of (nL := 1) (ret := (some .int)) (own := RJ0) (cc := cJ0_length_8abf5) rfl (by decide) rfl (List.forall_mem_cons.mpr ⟨rfl, (fun _ h => absurd h List.not_mem_nil)⟩) (Nat.le_of_ble_eq_true rfl) ?_
  intro k C hkl hkg
  subst hkl; subst hkg
  refine x_loc2 (L' := [some (.ref (gK (kg k) i))]) rfl ?_
  refine x_aload_n (pc' := 1) C dJ0_length_8abf5_0 rfl rfl rfl ?_
  refine x_getO (pc' := 4) C (C.2.2.2.2.2.2.2.1.2.1.1 i hi).2.2.1 fl_J0_9 dJ0_length_8abf5_1 rfl ?_
  refine x_tlen (pc' := 5) C (C.2.2.2.2.2.2.2.1.2.1.1 i hi).2.2.2 dJ0_length_8abf5_4 rfl ?_
  refine x_aload_n (pc' := 6) C dJ0_length_8abf5_5 rfl rfl rfl ?_
  refine x_ROv (st := [.int (nI (lenS.getD i 0))]) (st2 := [.int 0, .int (nI (lenS.getD i 0))]) (pc' := 9) C (c_J0_coder (kl k) (kg k) i hi) cw_J0_335 ok_J0_coder_7d493 rfl (by decide) (C.2.2.2.2.2.2.2.1.2.1.1 i hi).1 [] rfl rfl rfl (Nat.le_of_ble_eq_true rfl) (Nat.zero_le _) (Nat.zero_le _) rfl dJ0_length_8abf5_6 rfl rfl ?_
  refine x_ishr (pc' := 10) (v := nI (lenS.getD i 0)) C dJ0_length_8abf5_9 rfl (sb_shr0 _) ?_
  exact x_iret C (Nat.zero_le _) (Nat.zero_le _) dJ0_length_8abf5_10 rfl
set_option maxRecDepth 100000 in
set_option maxHeartbeats 8000000 in
theorem c_J3_checkIndex (l : Launch) (g : GT) (x : Int32) (n : Nat) (o : Option Nat) (hn : n < 2 ^ 31) (hx : vp_in x n) : CR l yJ3_checkIndex_8e157 (.code yJ3_checkIndex_8e157 cJ3_checkIndex_8e157 3 (some .int)) 0 g [.int x, .int (nI n), va_rf o] [] (some (.int x)) := by
  refine CRx.of (nL := 3) (ret := (some .int)) (own := RJ3) (cc := cJ3_checkIndex_8e157) rfl (by decide) rfl (List.forall_mem_cons.mpr ⟨rfl, List.forall_mem_cons.mpr ⟨rfl, List.forall_mem_cons.mpr ⟨by cases o <;> rfl, fun _ h => absurd h List.not_mem_nil⟩⟩⟩) (Nat.le_of_ble_eq_true rfl) ?_
  intro k C hkl hkg
  subst hkl; subst hkg
  obtain ⟨j, hj, rfl⟩ := vp_in_of hx hn
  refine x_loc2 (L' := [some (.int (nI j)), some (.int (nI n)), some (va_rf o)]) rfl ?_
  refine x_iload_n (pc' := 1) C dJ3_checkIndex_8e157_0 rfl rfl rfl ?_
  refine x_ifN_lt (tgt := 9) (pc' := 4) C j dJ3_checkIndex_8e157_1 (by decide) rfl (by omega) (fun c => absurd c (Nat.not_lt_zero _)) (fun _ => ?_)
  refine x_iload_n (pc' := 5) C dJ3_checkIndex_8e157_4 rfl rfl rfl ?_
  refine x_iload_n (pc' := 6) C dJ3_checkIndex_8e157_5 rfl rfl rfl ?_
  refine x_icmpN_lt (tgt := 16) (pc' := 9) C j n dJ3_checkIndex_8e157_6 (by decide) rfl (by omega) hn (fun _ => ?_) (fun c => absurd hj c)
  refine x_iload_n (pc' := 17) C dJ3_checkIndex_8e157_16 rfl rfl rfl ?_
  exact x_iret C (Nat.zero_le _) (Nat.zero_le _) dJ3_checkIndex_8e157_17 rfl
set_option maxRecDepth 100000 in
set_option maxHeartbeats 8000000 in
theorem c_J0_checkIndex (l : Launch) (g : GT) (x : Int32) (n : Nat) (hn : n < 2 ^ 31) (hx : vp_in x n) : CR l yJ0_checkIndex_df160 (.code yJ0_checkIndex_df160 cJ0_checkIndex_df160 2 none) 1 g [.int x, .int (nI n)] [] none := by
  refine CRx.of (nL := 2) (ret := none) (own := RJ0) (cc := cJ0_checkIndex_df160) rfl (by decide) rfl (List.forall_mem_cons.mpr ⟨rfl, (List.forall_mem_cons.mpr ⟨rfl, (fun _ h => absurd h List.not_mem_nil)⟩)⟩) (Nat.le_of_ble_eq_true rfl) ?_
  intro k C hkl hkg
  subst hkl; subst hkg
  refine x_loc2 (L' := [some (.int x), some (.int (nI n))]) rfl ?_
  refine x_iload_n (pc' := 1) C dJ0_checkIndex_df160_0 rfl rfl rfl ?_
  refine x_iload_n (pc' := 2) C dJ0_checkIndex_df160_1 rfl rfl rfl ?_
  refine x_getsq (pc' := 5) C C.2.2.2.2.2.2.2.1.2.2.2.2 fl_J0_1053 dJ0_checkIndex_df160_2 rfl (fun o => ?_)
  refine x_RS (st := []) (st2 := [.int x]) (pc' := 8) C (c_J3_checkIndex (kl k) (kg k) x n o hn hx) cw_J0_1059 ok_J3_checkIndex_8e157 (by decide) [] rfl rfl rfl (Nat.le_of_ble_eq_true rfl) (Nat.zero_le _) (Nat.zero_le _) rfl dJ0_checkIndex_df160_5 rfl rfl ?_
  refine x_pop (pc' := 9) C dJ0_checkIndex_df160_8 rfl rfl ?_
  exact x_vret C (Nat.zero_le _) (Nat.zero_le _) dJ0_checkIndex_df160_9 rfl
/-- the sign of the text i at x -/
def chS (i : Nat) (x : Int32) : Int32 := i2c ((bytS.getD i []).getD x.toNatClampNeg 0 &&& 255)
theorem lenS_lt (i : Nat) (hi : i < 5) : lenS.getD i 0 < 2 ^ 31 := by
  match i, hi with
  | 0, _ => decide
  | 1, _ => decide
  | 2, _ => decide
  | 3, _ => decide
  | 4, _ => decide
set_option maxRecDepth 100000 in
set_option maxHeartbeats 8000000 in
theorem c_J1_charAt (l : Launch) (g : GT) (i : Nat) (x : Int32) (hi : i < 5) (hx : vp_in x (lenS.getD i 0)) : CR l yJ1_charAt_3b067 (.code yJ1_charAt_3b067 cJ1_charAt_3b067 2 (some .char)) 2 g [.ref (gW g i), .int x] [] (some (.int (chS i x))) := by
  refine CRx.of (nL := 2) (ret := (some .char)) (own := RJ1) (cc := cJ1_charAt_3b067) rfl (by decide) rfl (List.forall_mem_cons.mpr ⟨rfl, (List.forall_mem_cons.mpr ⟨rfl, (fun _ h => absurd h List.not_mem_nil)⟩)⟩) (Nat.le_of_ble_eq_true rfl) ?_
  intro k C hkl hkg
  subst hkl; subst hkg
  have hT := (C.2.2.2.2.2.2.2.1.2.1.1 i hi).2.2.2
  refine x_loc2 (L' := [some (.ref (gW (kg k) i)), some (.int x)]) rfl ?_
  refine x_iload_n (pc' := 1) C dJ1_charAt_3b067_0 rfl rfl rfl ?_
  refine x_aload_n (pc' := 2) C dJ1_charAt_3b067_1 rfl rfl rfl ?_
  refine x_tlen (pc' := 3) C hT dJ1_charAt_3b067_2 rfl ?_
  refine x_RS (st := []) (st2 := []) (pc' := 6) C (c_J0_checkIndex (kl k) (kg k) x _ (lenS_lt i hi) hx) cw_J1_9 ok_J0_checkIndex_df160 (by decide) [] rfl rfl rfl (Nat.le_of_ble_eq_true rfl) (Nat.zero_le _) (Nat.zero_le _) rfl dJ1_charAt_3b067_3 rfl rfl ?_
  refine x_aload_n (pc' := 7) C dJ1_charAt_3b067_6 rfl rfl rfl ?_
  refine x_iload_n (pc' := 8) C dJ1_charAt_3b067_7 rfl rfl rfl ?_
  refine x_tb (pc' := 9) C hT hx rfl dJ1_charAt_3b067_8 rfl ?_
  refine x_sipush (v := 255) (pc' := 12) C dJ1_charAt_3b067_9 rfl (by decide) ?_
  refine x_iand (pc' := 13) (v := ((bytS.getD i []).getD x.toNatClampNeg 0 &&& 255)) C dJ1_charAt_3b067_12 rfl rfl ?_
  refine x_i2c (pc' := 14) (v := chS i x) C dJ1_charAt_3b067_13 rfl rfl ?_
  exact x_nret C rfl (pk_nc _) (Nat.zero_le _) (Nat.zero_le _) dJ1_charAt_3b067_14 rfl
set_option maxRecDepth 100000 in
set_option maxHeartbeats 8000000 in
theorem c_J0_charAt (l : Launch) (g : GT) (i : Nat) (x : Int32) (hi : i < 5) (hx : vp_in x (lenS.getD i 0)) : CR l yJ0_charAt_5068e (.code yJ0_charAt_5068e cJ0_charAt_5068e 2 (some .char)) 3 g [.ref (gK g i), .int x] [] (some (.int (chS i x))) := by
  refine CRx.of (nL := 2) (ret := (some .char)) (own := RJ0) (cc := cJ0_charAt_5068e) rfl (by decide) rfl (List.forall_mem_cons.mpr ⟨rfl, (List.forall_mem_cons.mpr ⟨rfl, (fun _ h => absurd h List.not_mem_nil)⟩)⟩) (Nat.le_of_ble_eq_true rfl) ?_
  intro k C hkl hkg
  subst hkl; subst hkg
  refine x_loc2 (L' := [some (.ref (gK (kg k) i)), some (.int x)]) rfl ?_
  refine x_aload_n (pc' := 1) C dJ0_charAt_5068e_0 rfl rfl rfl ?_
  refine x_ROv (st := []) (st2 := [.int (bI true)]) (pc' := 4) C (c_J0_isLatin1 (kl k) (kg k) i hi) cw_J0_492 ok_J0_isLatin1_aae02 rfl (by decide) (C.2.2.2.2.2.2.2.1.2.1.1 i hi).1 [] rfl rfl rfl (Nat.le_of_ble_eq_true rfl) (Nat.zero_le _) (Nat.zero_le _) rfl dJ0_charAt_5068e_1 rfl rfl ?_
  refine x_ifB_eq (tgt := 16) (pc' := 7) C dJ0_charAt_5068e_4 (by decide) rfl (fun c => absurd rfl c) (fun _ => ?_)
  refine x_aload_n (pc' := 8) C dJ0_charAt_5068e_7 rfl rfl rfl ?_
  refine x_getO (pc' := 11) C (C.2.2.2.2.2.2.2.1.2.1.1 i hi).2.2.1 fl_J0_9 dJ0_charAt_5068e_8 rfl ?_
  refine x_iload_n (pc' := 12) C dJ0_charAt_5068e_11 rfl rfl rfl ?_
  refine x_RS (st := []) (st2 := [.int (chS i x)]) (pc' := 15) C (c_J1_charAt (kl k) (kg k) i x hi hx) cw_J0_495 ok_J1_charAt_3b067 (by decide) [] rfl rfl rfl (Nat.le_of_ble_eq_true rfl) (Nat.zero_le _) (Nat.zero_le _) rfl dJ0_charAt_5068e_12 rfl rfl ?_
  exact x_nret C rfl (pk_nc _) (Nat.zero_le _) (Nat.zero_le _) dJ0_charAt_5068e_15 rfl
end
