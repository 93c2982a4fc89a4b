section
-- ===== PART A: goes FIRST, ahead of the names: the tables' words, and 'selects' of the private methods out of them =====
/-- a private method of a class that the tables say can be made, by its rows of tables_1 -/
def lw_okq (q : MethodName × Nat) : Prop := (q.1.cls ≠ "java/lang/invoke/MethodHandle" ∧ q.1.cls ≠ "java/lang/invoke/VarHandle") ∧ Cond.instantiable q.1.cls q.2 ∈ tables_1 ∧ Cond.privateMethod q.1 ∈ tables_1 ∧ Cond.instanceMethod q.1 ∈ tables_1
theorem lw_p0 : lw_okq (⟨"RxQueues", "refuse", "(I)I"⟩, 7) := ⟨⟨by decide +kernel, by decide +kernel⟩, List.mem_of_getElem? (i := 14) (by decide +kernel), List.mem_of_getElem? (i := 245) (by decide +kernel), List.mem_of_getElem? (i := 246) (by decide +kernel)⟩
theorem lw_p1 : lw_okq (⟨"RxQueues", "begin", "(I)V"⟩, 7) := ⟨⟨by decide +kernel, by decide +kernel⟩, List.mem_of_getElem? (i := 14) (by decide +kernel), List.mem_of_getElem? (i := 249) (by decide +kernel), List.mem_of_getElem? (i := 250) (by decide +kernel)⟩
theorem lw_p2 : lw_okq (⟨"RxQueues$Table", "orderByHits", "()V"⟩, 4) := ⟨⟨by decide +kernel, by decide +kernel⟩, List.mem_of_getElem? (i := 58) (by decide +kernel), List.mem_of_getElem? (i := 345) (by decide +kernel), List.mem_of_getElem? (i := 346) (by decide +kernel)⟩
theorem lw_p3 : lw_okq (⟨"RxQueues$Table", "clearSums", "()V"⟩, 4) := ⟨⟨by decide +kernel, by decide +kernel⟩, List.mem_of_getElem? (i := 58) (by decide +kernel), List.mem_of_getElem? (i := 349) (by decide +kernel), List.mem_of_getElem? (i := 350) (by decide +kernel)⟩
theorem lw_p4 : lw_okq (⟨"RxQueues$Table", "leastQueue", "(I)I"⟩, 4) := ⟨⟨by decide +kernel, by decide +kernel⟩, List.mem_of_getElem? (i := 58) (by decide +kernel), List.mem_of_getElem? (i := 353) (by decide +kernel), List.mem_of_getElem? (i := 354) (by decide +kernel)⟩
theorem lw_p5 : lw_okq (⟨"RxQueues", "isFlow", "(I)Z"⟩, 7) := ⟨⟨by decide +kernel, by decide +kernel⟩, List.mem_of_getElem? (i := 14) (by decide +kernel), List.mem_of_getElem? (i := 365) (by decide +kernel), List.mem_of_getElem? (i := 366) (by decide +kernel)⟩
theorem lw_p6 : lw_okq (⟨"RxQueues$Table", "sumHits", "()V"⟩, 4) := ⟨⟨by decide +kernel, by decide +kernel⟩, List.mem_of_getElem? (i := 58) (by decide +kernel), List.mem_of_getElem? (i := 387) (by decide +kernel), List.mem_of_getElem? (i := 388) (by decide +kernel)⟩
theorem lw_p7 : lw_okq (⟨"RxQueues$Flows", "leastUsed", "()I"⟩, 2) := ⟨⟨by decide +kernel, by decide +kernel⟩, List.mem_of_getElem? (i := 43) (by decide +kernel), List.mem_of_getElem? (i := 403) (by decide +kernel), List.mem_of_getElem? (i := 404) (by decide +kernel)⟩
theorem lw_p8 : lw_okq (⟨"RxQueues", "burstFits", "(III)Z"⟩, 7) := ⟨⟨by decide +kernel, by decide +kernel⟩, List.mem_of_getElem? (i := 14) (by decide +kernel), List.mem_of_getElem? (i := 474) (by decide +kernel), List.mem_of_getElem? (i := 475) (by decide +kernel)⟩
theorem lw_p9 : lw_okq (⟨"RxQueues$State", "give", "(II)V"⟩, 8) := ⟨⟨by decide +kernel, by decide +kernel⟩, List.mem_of_getElem? (i := 22) (by decide +kernel), List.mem_of_getElem? (i := 530) (by decide +kernel), List.mem_of_getElem? (i := 531) (by decide +kernel)⟩
theorem lw_p10 : lw_okq (⟨"RxQueues", "unlikeEntries", "(I)I"⟩, 7) := ⟨⟨by decide +kernel, by decide +kernel⟩, List.mem_of_getElem? (i := 14) (by decide +kernel), List.mem_of_getElem? (i := 716) (by decide +kernel), List.mem_of_getElem? (i := 717) (by decide +kernel)⟩
theorem lw_p11 : lw_okq (⟨"RxQueues", "paperOfNow", "()LRxQueues$State;"⟩, 7) := ⟨⟨by decide +kernel, by decide +kernel⟩, List.mem_of_getElem? (i := 14) (by decide +kernel), List.mem_of_getElem? (i := 747) (by decide +kernel), List.mem_of_getElem? (i := 748) (by decide +kernel)⟩
theorem lw_p12 : lw_okq (⟨"RxQueues", "refusals", "(I)I"⟩, 7) := ⟨⟨by decide +kernel, by decide +kernel⟩, List.mem_of_getElem? (i := 14) (by decide +kernel), List.mem_of_getElem? (i := 780) (by decide +kernel), List.mem_of_getElem? (i := 781) (by decide +kernel)⟩
theorem lw_p13 : lw_okq (⟨"RxQueuesModel", "refuse", "(I)I"⟩, 20) := ⟨⟨by decide +kernel, by decide +kernel⟩, List.mem_of_getElem? (i := 792) (by decide +kernel), List.mem_of_getElem? (i := 867) (by decide +kernel), List.mem_of_getElem? (i := 868) (by decide +kernel)⟩
theorem lw_p14 : lw_okq (⟨"RxQueuesModel", "bring", "([I[JI)V"⟩, 20) := ⟨⟨by decide +kernel, by decide +kernel⟩, List.mem_of_getElem? (i := 792) (by decide +kernel), List.mem_of_getElem? (i := 871) (by decide +kernel), List.mem_of_getElem? (i := 872) (by decide +kernel)⟩
theorem lw_p15 : lw_okq (⟨"RxQueuesModel", "tell", "(I)I"⟩, 20) := ⟨⟨by decide +kernel, by decide +kernel⟩, List.mem_of_getElem? (i := 792) (by decide +kernel), List.mem_of_getElem? (i := 875) (by decide +kernel), List.mem_of_getElem? (i := 876) (by decide +kernel)⟩
def lw_privs_1 : List (MethodName × Nat) := [(⟨"RxQueues", "refuse", "(I)I"⟩, 7), (⟨"RxQueues", "begin", "(I)V"⟩, 7), (⟨"RxQueues$Table", "orderByHits", "()V"⟩, 4), (⟨"RxQueues$Table", "clearSums", "()V"⟩, 4), (⟨"RxQueues$Table", "leastQueue", "(I)I"⟩, 4), (⟨"RxQueues", "isFlow", "(I)Z"⟩, 7), (⟨"RxQueues$Table", "sumHits", "()V"⟩, 4), (⟨"RxQueues$Flows", "leastUsed", "()I"⟩, 2), (⟨"RxQueues", "burstFits", "(III)Z"⟩, 7), (⟨"RxQueues$State", "give", "(II)V"⟩, 8), (⟨"RxQueues", "unlikeEntries", "(I)I"⟩, 7), (⟨"RxQueues", "paperOfNow", "()LRxQueues$State;"⟩, 7), (⟨"RxQueues", "refusals", "(I)I"⟩, 7), (⟨"RxQueuesModel", "refuse", "(I)I"⟩, 20), (⟨"RxQueuesModel", "bring", "([I[JI)V"⟩, 20), (⟨"RxQueuesModel", "tell", "(I)I"⟩, 20)]
theorem lw_r1 : ∀ q ∈ lw_privs_1, lw_okq q := List.forall_mem_cons.mpr ⟨lw_p0, List.forall_mem_cons.mpr ⟨lw_p1, List.forall_mem_cons.mpr ⟨lw_p2, List.forall_mem_cons.mpr ⟨lw_p3, List.forall_mem_cons.mpr ⟨lw_p4, List.forall_mem_cons.mpr ⟨lw_p5, List.forall_mem_cons.mpr ⟨lw_p6, List.forall_mem_cons.mpr ⟨lw_p7, List.forall_mem_cons.mpr ⟨lw_p8, List.forall_mem_cons.mpr ⟨lw_p9, List.forall_mem_cons.mpr ⟨lw_p10, List.forall_mem_cons.mpr ⟨lw_p11, List.forall_mem_cons.mpr ⟨lw_p12, List.forall_mem_cons.mpr ⟨lw_p13, List.forall_mem_cons.mpr ⟨lw_p14, List.forall_mem_cons.mpr ⟨lw_p15, fun _ h => absurd h List.not_mem_nil⟩⟩⟩⟩⟩⟩⟩⟩⟩⟩⟩⟩⟩⟩⟩⟩
theorem lw_p16 : lw_okq (⟨"RxQueuesModel", "lay", "([I[JI)V"⟩, 20) := ⟨⟨by decide +kernel, by decide +kernel⟩, List.mem_of_getElem? (i := 792) (by decide +kernel), List.mem_of_getElem? (i := 886) (by decide +kernel), List.mem_of_getElem? (i := 887) (by decide +kernel)⟩
theorem lw_p17 : lw_okq (⟨"RxQueuesModel", "remember", "(I)V"⟩, 20) := ⟨⟨by decide +kernel, by decide +kernel⟩, List.mem_of_getElem? (i := 792) (by decide +kernel), List.mem_of_getElem? (i := 902) (by decide +kernel), List.mem_of_getElem? (i := 903) (by decide +kernel)⟩
theorem lw_p18 : lw_okq (⟨"RxQueuesModel", "layHashes", "()V"⟩, 20) := ⟨⟨by decide +kernel, by decide +kernel⟩, List.mem_of_getElem? (i := 792) (by decide +kernel), List.mem_of_getElem? (i := 906) (by decide +kernel), List.mem_of_getElem? (i := 907) (by decide +kernel)⟩
theorem lw_p19 : lw_okq (⟨"RxQueuesModel", "layHash", "(I)V"⟩, 20) := ⟨⟨by decide +kernel, by decide +kernel⟩, List.mem_of_getElem? (i := 792) (by decide +kernel), List.mem_of_getElem? (i := 910) (by decide +kernel), List.mem_of_getElem? (i := 911) (by decide +kernel)⟩
theorem lw_p20 : lw_okq (⟨"RxQueuesModel", "takeFlow", "(I)V"⟩, 20) := ⟨⟨by decide +kernel, by decide +kernel⟩, List.mem_of_getElem? (i := 792) (by decide +kernel), List.mem_of_getElem? (i := 914) (by decide +kernel), List.mem_of_getElem? (i := 915) (by decide +kernel)⟩
theorem lw_p21 : lw_okq (⟨"RxQueuesModel", "hashNow", "()I"⟩, 20) := ⟨⟨by decide +kernel, by decide +kernel⟩, List.mem_of_getElem? (i := 792) (by decide +kernel), List.mem_of_getElem? (i := 921) (by decide +kernel), List.mem_of_getElem? (i := 922) (by decide +kernel)⟩
theorem lw_p22 : lw_okq (⟨"RxQueuesModel", "windowAt", "(I)I"⟩, 20) := ⟨⟨by decide +kernel, by decide +kernel⟩, List.mem_of_getElem? (i := 792) (by decide +kernel), List.mem_of_getElem? (i := 925) (by decide +kernel), List.mem_of_getElem? (i := 926) (by decide +kernel)⟩
theorem lw_p23 : lw_okq (⟨"RxQueuesModel", "keyBit", "(I)I"⟩, 20) := ⟨⟨by decide +kernel, by decide +kernel⟩, List.mem_of_getElem? (i := 792) (by decide +kernel), List.mem_of_getElem? (i := 929) (by decide +kernel), List.mem_of_getElem? (i := 930) (by decide +kernel)⟩
theorem lw_p24 : lw_okq (⟨"RxQueuesModel", "becomes", "(III)I"⟩, 20) := ⟨⟨by decide +kernel, by decide +kernel⟩, List.mem_of_getElem? (i := 792) (by decide +kernel), List.mem_of_getElem? (i := 938) (by decide +kernel), List.mem_of_getElem? (i := 939) (by decide +kernel)⟩
theorem lw_p25 : lw_okq (⟨"RxQueuesModel", "takeFields", "(IIIII)Z"⟩, 20) := ⟨⟨by decide +kernel, by decide +kernel⟩, List.mem_of_getElem? (i := 792) (by decide +kernel), List.mem_of_getElem? (i := 946) (by decide +kernel), List.mem_of_getElem? (i := 947) (by decide +kernel)⟩
theorem lw_p26 : lw_okq (⟨"RxQueuesModel", "found", "()I"⟩, 20) := ⟨⟨by decide +kernel, by decide +kernel⟩, List.mem_of_getElem? (i := 792) (by decide +kernel), List.mem_of_getElem? (i := 950) (by decide +kernel), List.mem_of_getElem? (i := 951) (by decide +kernel)⟩
theorem lw_p27 : lw_okq (⟨"RxQueuesModel", "layBalanced", "()I"⟩, 20) := ⟨⟨by decide +kernel, by decide +kernel⟩, List.mem_of_getElem? (i := 792) (by decide +kernel), List.mem_of_getElem? (i := 967) (by decide +kernel), List.mem_of_getElem? (i := 968) (by decide +kernel)⟩
theorem lw_p28 : lw_okq (⟨"RxQueuesModel", "nextEntry", "()I"⟩, 20) := ⟨⟨by decide +kernel, by decide +kernel⟩, List.mem_of_getElem? (i := 792) (by decide +kernel), List.mem_of_getElem? (i := 971) (by decide +kernel), List.mem_of_getElem? (i := 972) (by decide +kernel)⟩
theorem lw_p29 : lw_okq (⟨"RxQueuesModel", "leastShare", "(I)I"⟩, 20) := ⟨⟨by decide +kernel, by decide +kernel⟩, List.mem_of_getElem? (i := 792) (by decide +kernel), List.mem_of_getElem? (i := 975) (by decide +kernel), List.mem_of_getElem? (i := 976) (by decide +kernel)⟩
theorem lw_p30 : lw_okq (⟨"RxQueuesModel", "isFlow", "(I)Z"⟩, 20) := ⟨⟨by decide +kernel, by decide +kernel⟩, List.mem_of_getElem? (i := 792) (by decide +kernel), List.mem_of_getElem? (i := 984) (by decide +kernel), List.mem_of_getElem? (i := 985) (by decide +kernel)⟩
theorem lw_p31 : lw_okq (⟨"RxQueuesModel", "dropRule", "(I)V"⟩, 20) := ⟨⟨by decide +kernel, by decide +kernel⟩, List.mem_of_getElem? (i := 792) (by decide +kernel), List.mem_of_getElem? (i := 995) (by decide +kernel), List.mem_of_getElem? (i := 996) (by decide +kernel)⟩
def lw_privs_2 : List (MethodName × Nat) := [(⟨"RxQueuesModel", "lay", "([I[JI)V"⟩, 20), (⟨"RxQueuesModel", "remember", "(I)V"⟩, 20), (⟨"RxQueuesModel", "layHashes", "()V"⟩, 20), (⟨"RxQueuesModel", "layHash", "(I)V"⟩, 20), (⟨"RxQueuesModel", "takeFlow", "(I)V"⟩, 20), (⟨"RxQueuesModel", "hashNow", "()I"⟩, 20), (⟨"RxQueuesModel", "windowAt", "(I)I"⟩, 20), (⟨"RxQueuesModel", "keyBit", "(I)I"⟩, 20), (⟨"RxQueuesModel", "becomes", "(III)I"⟩, 20), (⟨"RxQueuesModel", "takeFields", "(IIIII)Z"⟩, 20), (⟨"RxQueuesModel", "found", "()I"⟩, 20), (⟨"RxQueuesModel", "layBalanced", "()I"⟩, 20), (⟨"RxQueuesModel", "nextEntry", "()I"⟩, 20), (⟨"RxQueuesModel", "leastShare", "(I)I"⟩, 20), (⟨"RxQueuesModel", "isFlow", "(I)Z"⟩, 20), (⟨"RxQueuesModel", "dropRule", "(I)V"⟩, 20)]
theorem lw_r2 : ∀ q ∈ lw_privs_2, lw_okq q := List.forall_mem_cons.mpr ⟨lw_p16, List.forall_mem_cons.mpr ⟨lw_p17, List.forall_mem_cons.mpr ⟨lw_p18, List.forall_mem_cons.mpr ⟨lw_p19, List.forall_mem_cons.mpr ⟨lw_p20, List.forall_mem_cons.mpr ⟨lw_p21, List.forall_mem_cons.mpr ⟨lw_p22, List.forall_mem_cons.mpr ⟨lw_p23, List.forall_mem_cons.mpr ⟨lw_p24, List.forall_mem_cons.mpr ⟨lw_p25, List.forall_mem_cons.mpr ⟨lw_p26, List.forall_mem_cons.mpr ⟨lw_p27, List.forall_mem_cons.mpr ⟨lw_p28, List.forall_mem_cons.mpr ⟨lw_p29, List.forall_mem_cons.mpr ⟨lw_p30, List.forall_mem_cons.mpr ⟨lw_p31, fun _ h => absurd h List.not_mem_nil⟩⟩⟩⟩⟩⟩⟩⟩⟩⟩⟩⟩⟩⟩⟩⟩
theorem lw_p32 : lw_okq (⟨"RxQueuesModel", "steers", "(II)I"⟩, 20) := ⟨⟨by decide +kernel, by decide +kernel⟩, List.mem_of_getElem? (i := 792) (by decide +kernel), List.mem_of_getElem? (i := 1003) (by decide +kernel), List.mem_of_getElem? (i := 1004) (by decide +kernel)⟩
theorem lw_p33 : lw_okq (⟨"RxQueuesModel", "ruleOf", "(I)I"⟩, 20) := ⟨⟨by decide +kernel, by decide +kernel⟩, List.mem_of_getElem? (i := 792) (by decide +kernel), List.mem_of_getElem? (i := 1007) (by decide +kernel), List.mem_of_getElem? (i := 1008) (by decide +kernel)⟩
theorem lw_p34 : lw_okq (⟨"RxQueuesModel", "hasNext", "(II)Z"⟩, 20) := ⟨⟨by decide +kernel, by decide +kernel⟩, List.mem_of_getElem? (i := 792) (by decide +kernel), List.mem_of_getElem? (i := 1033) (by decide +kernel), List.mem_of_getElem? (i := 1034) (by decide +kernel)⟩
theorem lw_p35 : lw_okq (⟨"RxQueuesModel", "comes", "(III)I"⟩, 20) := ⟨⟨by decide +kernel, by decide +kernel⟩, List.mem_of_getElem? (i := 792) (by decide +kernel), List.mem_of_getElem? (i := 1038) (by decide +kernel), List.mem_of_getElem? (i := 1039) (by decide +kernel)⟩
theorem lw_p36 : lw_okq (⟨"RxQueuesModel", "wishOf", "(I)I"⟩, 20) := ⟨⟨by decide +kernel, by decide +kernel⟩, List.mem_of_getElem? (i := 792) (by decide +kernel), List.mem_of_getElem? (i := 1042) (by decide +kernel), List.mem_of_getElem? (i := 1043) (by decide +kernel)⟩
theorem lw_p37 : lw_okq (⟨"RxQueuesModel", "entryOf", "(I)I"⟩, 20) := ⟨⟨by decide +kernel, by decide +kernel⟩, List.mem_of_getElem? (i := 792) (by decide +kernel), List.mem_of_getElem? (i := 1046) (by decide +kernel), List.mem_of_getElem? (i := 1047) (by decide +kernel)⟩
theorem lw_p38 : lw_okq (⟨"RxQueuesModel", "queueOf", "(I)I"⟩, 20) := ⟨⟨by decide +kernel, by decide +kernel⟩, List.mem_of_getElem? (i := 792) (by decide +kernel), List.mem_of_getElem? (i := 1050) (by decide +kernel), List.mem_of_getElem? (i := 1051) (by decide +kernel)⟩
theorem lw_p39 : lw_okq (⟨"RxQueuesModel", "ticksBy", "(I)V"⟩, 20) := ⟨⟨by decide +kernel, by decide +kernel⟩, List.mem_of_getElem? (i := 792) (by decide +kernel), List.mem_of_getElem? (i := 1072) (by decide +kernel), List.mem_of_getElem? (i := 1073) (by decide +kernel)⟩
theorem lw_p40 : lw_okq (⟨"RxQueuesModel", "ticks", "()V"⟩, 20) := ⟨⟨by decide +kernel, by decide +kernel⟩, List.mem_of_getElem? (i := 792) (by decide +kernel), List.mem_of_getElem? (i := 1076) (by decide +kernel), List.mem_of_getElem? (i := 1077) (by decide +kernel)⟩
theorem lw_p41 : lw_okq (⟨"RxQueuesModel", "calls", "(I)V"⟩, 20) := ⟨⟨by decide +kernel, by decide +kernel⟩, List.mem_of_getElem? (i := 792) (by decide +kernel), List.mem_of_getElem? (i := 1080) (by decide +kernel), List.mem_of_getElem? (i := 1081) (by decide +kernel)⟩
theorem lw_p42 : lw_okq (⟨"RxQueuesModel", "takes", "(I)I"⟩, 20) := ⟨⟨by decide +kernel, by decide +kernel⟩, List.mem_of_getElem? (i := 792) (by decide +kernel), List.mem_of_getElem? (i := 1084) (by decide +kernel), List.mem_of_getElem? (i := 1085) (by decide +kernel)⟩
theorem lw_p43 : lw_okq (⟨"RxQueuesModel", "joins", "(II)V"⟩, 20) := ⟨⟨by decide +kernel, by decide +kernel⟩, List.mem_of_getElem? (i := 792) (by decide +kernel), List.mem_of_getElem? (i := 1091) (by decide +kernel), List.mem_of_getElem? (i := 1092) (by decide +kernel)⟩
theorem lw_p44 : lw_okq (⟨"RxQueuesModel", "gives", "(II)V"⟩, 20) := ⟨⟨by decide +kernel, by decide +kernel⟩, List.mem_of_getElem? (i := 792) (by decide +kernel), List.mem_of_getElem? (i := 1095) (by decide +kernel), List.mem_of_getElem? (i := 1096) (by decide +kernel)⟩
theorem lw_p45 : lw_okq (⟨"RxQueuesModel", "follows", "(II)V"⟩, 20) := ⟨⟨by decide +kernel, by decide +kernel⟩, List.mem_of_getElem? (i := 792) (by decide +kernel), List.mem_of_getElem? (i := 1099) (by decide +kernel), List.mem_of_getElem? (i := 1100) (by decide +kernel)⟩
theorem lw_p46 : lw_okq (⟨"RxQueuesModel", "packetsOf", "(I)I"⟩, 20) := ⟨⟨by decide +kernel, by decide +kernel⟩, List.mem_of_getElem? (i := 792) (by decide +kernel), List.mem_of_getElem? (i := 1119) (by decide +kernel), List.mem_of_getElem? (i := 1120) (by decide +kernel)⟩
theorem lw_p47 : lw_okq (⟨"RxQueuesModel", "wishers", "(I)I"⟩, 20) := ⟨⟨by decide +kernel, by decide +kernel⟩, List.mem_of_getElem? (i := 792) (by decide +kernel), List.mem_of_getElem? (i := 1141) (by decide +kernel), List.mem_of_getElem? (i := 1142) (by decide +kernel)⟩
def lw_privs_3 : List (MethodName × Nat) := [(⟨"RxQueuesModel", "steers", "(II)I"⟩, 20), (⟨"RxQueuesModel", "ruleOf", "(I)I"⟩, 20), (⟨"RxQueuesModel", "hasNext", "(II)Z"⟩, 20), (⟨"RxQueuesModel", "comes", "(III)I"⟩, 20), (⟨"RxQueuesModel", "wishOf", "(I)I"⟩, 20), (⟨"RxQueuesModel", "entryOf", "(I)I"⟩, 20), (⟨"RxQueuesModel", "queueOf", "(I)I"⟩, 20), (⟨"RxQueuesModel", "ticksBy", "(I)V"⟩, 20), (⟨"RxQueuesModel", "ticks", "()V"⟩, 20), (⟨"RxQueuesModel", "calls", "(I)V"⟩, 20), (⟨"RxQueuesModel", "takes", "(I)I"⟩, 20), (⟨"RxQueuesModel", "joins", "(II)V"⟩, 20), (⟨"RxQueuesModel", "gives", "(II)V"⟩, 20), (⟨"RxQueuesModel", "follows", "(II)V"⟩, 20), (⟨"RxQueuesModel", "packetsOf", "(I)I"⟩, 20), (⟨"RxQueuesModel", "wishers", "(I)I"⟩, 20)]
theorem lw_r3 : ∀ q ∈ lw_privs_3, lw_okq q := List.forall_mem_cons.mpr ⟨lw_p32, List.forall_mem_cons.mpr ⟨lw_p33, List.forall_mem_cons.mpr ⟨lw_p34, List.forall_mem_cons.mpr ⟨lw_p35, List.forall_mem_cons.mpr ⟨lw_p36, List.forall_mem_cons.mpr ⟨lw_p37, List.forall_mem_cons.mpr ⟨lw_p38, List.forall_mem_cons.mpr ⟨lw_p39, List.forall_mem_cons.mpr ⟨lw_p40, List.forall_mem_cons.mpr ⟨lw_p41, List.forall_mem_cons.mpr ⟨lw_p42, List.forall_mem_cons.mpr ⟨lw_p43, List.forall_mem_cons.mpr ⟨lw_p44, List.forall_mem_cons.mpr ⟨lw_p45, List.forall_mem_cons.mpr ⟨lw_p46, List.forall_mem_cons.mpr ⟨lw_p47, fun _ h => absurd h List.not_mem_nil⟩⟩⟩⟩⟩⟩⟩⟩⟩⟩⟩⟩⟩⟩⟩⟩
theorem lw_p48 : lw_okq (⟨"RxQueuesModel", "entriesOf", "(I)I"⟩, 20) := ⟨⟨by decide +kernel, by decide +kernel⟩, List.mem_of_getElem? (i := 792) (by decide +kernel), List.mem_of_getElem? (i := 1145) (by decide +kernel), List.mem_of_getElem? (i := 1146) (by decide +kernel)⟩
theorem lw_p49 : lw_okq (⟨"RxQueuesModel", "part", "(I)I"⟩, 20) := ⟨⟨by decide +kernel, by decide +kernel⟩, List.mem_of_getElem? (i := 792) (by decide +kernel), List.mem_of_getElem? (i := 1172) (by decide +kernel), List.mem_of_getElem? (i := 1173) (by decide +kernel)⟩
theorem lw_p50 : lw_okq (⟨"RxQueuesModel", "unlikeEntries", "()I"⟩, 20) := ⟨⟨by decide +kernel, by decide +kernel⟩, List.mem_of_getElem? (i := 792) (by decide +kernel), List.mem_of_getElem? (i := 1188) (by decide +kernel), List.mem_of_getElem? (i := 1189) (by decide +kernel)⟩
theorem lw_p51 : lw_okq (⟨"RxQueuesModel", "greatestHits", "()I"⟩, 20) := ⟨⟨by decide +kernel, by decide +kernel⟩, List.mem_of_getElem? (i := 792) (by decide +kernel), List.mem_of_getElem? (i := 1207) (by decide +kernel), List.mem_of_getElem? (i := 1208) (by decide +kernel)⟩
theorem lw_p52 : lw_okq (⟨"RxQueuesModel", "hitsOf", "(I)I"⟩, 20) := ⟨⟨by decide +kernel, by decide +kernel⟩, List.mem_of_getElem? (i := 792) (by decide +kernel), List.mem_of_getElem? (i := 1211) (by decide +kernel), List.mem_of_getElem? (i := 1212) (by decide +kernel)⟩
theorem lw_p53 : lw_okq (⟨"RxQueuesModel", "packets", "()I"⟩, 20) := ⟨⟨by decide +kernel, by decide +kernel⟩, List.mem_of_getElem? (i := 792) (by decide +kernel), List.mem_of_getElem? (i := 1219) (by decide +kernel), List.mem_of_getElem? (i := 1220) (by decide +kernel)⟩
def lw_privs_4 : List (MethodName × Nat) := [(⟨"RxQueuesModel", "entriesOf", "(I)I"⟩, 20), (⟨"RxQueuesModel", "part", "(I)I"⟩, 20), (⟨"RxQueuesModel", "unlikeEntries", "()I"⟩, 20), (⟨"RxQueuesModel", "greatestHits", "()I"⟩, 20), (⟨"RxQueuesModel", "hitsOf", "(I)I"⟩, 20), (⟨"RxQueuesModel", "packets", "()I"⟩, 20)]
theorem lw_r4 : ∀ q ∈ lw_privs_4, lw_okq q := List.forall_mem_cons.mpr ⟨lw_p48, List.forall_mem_cons.mpr ⟨lw_p49, List.forall_mem_cons.mpr ⟨lw_p50, List.forall_mem_cons.mpr ⟨lw_p51, List.forall_mem_cons.mpr ⟨lw_p52, List.forall_mem_cons.mpr ⟨lw_p53, fun _ h => absurd h List.not_mem_nil⟩⟩⟩⟩⟩⟩
def lw_privs : List (MethodName × Nat) := lw_privs_1 ++ (lw_privs_2 ++ (lw_privs_3 ++ (lw_privs_4)))
def lw_tbl : List Cond := k2_sels lw_privs ++ tables_1
theorem lw_privs_ok : ∀ q ∈ lw_privs, lw_okq q := by
  show ∀ q ∈ lw_privs_1 ++ (lw_privs_2 ++ (lw_privs_3 ++ (lw_privs_4))), lw_okq q
  exact List.forall_mem_append.mpr ⟨lw_r1, List.forall_mem_append.mpr ⟨lw_r2, List.forall_mem_append.mpr ⟨lw_r3, lw_r4⟩⟩⟩
end
section
-- names: classes, fields by slot, codes (cut out of the printed names)
def RX0 : String := "RxQueues$Flows"
def TX0 : u_T := fun k => match k with
  | 0 => ("RxQueues$Flows", "number", "I", false)
  | _ => ("RxQueues$Flows", "cells", "[I", true)
def tyX0 : Nat → FieldType := fun k => match k with
  | 0 => .int
  | _ => .array .int
abbrev wsX00 : List Cond := u_ws RX0 TX0 2
theorem nmX0 : ∀ a, a < 2 → ∀ b, b < 2 → a ≠ b → (TX0 a).2.1 ≠ (TX0 b).2.1 := by decide +kernel
theorem tyX0_ok : ∀ k, k < 2 → parseFieldDescriptor (TX0 k).2.2.1 = some (tyX0 k) := by decide +kernel
abbrev cX0_init : ByteArray := prog_2_method_1_code
def yX0_init : MethodName := ⟨RX0, "<init>", "()V"⟩
abbrev cX0_get : ByteArray := prog_2_method_2_code
def yX0_get : MethodName := ⟨RX0, "get", "(II)I"⟩
abbrev cX0_put : ByteArray := prog_2_method_3_code
def yX0_put : MethodName := ⟨RX0, "put", "(III)V"⟩
abbrev cX0_add : ByteArray := prog_2_method_4_code
def yX0_add : MethodName := ⟨RX0, "add", "(III)V"⟩
abbrev cX0_copyFrom : ByteArray := prog_2_method_5_code
def yX0_copyFrom : MethodName := ⟨RX0, "copyFrom", "(LRxQueues$Flows;)V"⟩
abbrev cX0_sum : ByteArray := prog_2_method_6_code
def yX0_sum : MethodName := ⟨RX0, "sum", "(I)I"⟩
abbrev cX0_numberOf : ByteArray := prog_2_method_7_code
def yX0_numberOf : MethodName := ⟨RX0, "numberOf", "(IIIII)I"⟩
abbrev cX0_enter : ByteArray := prog_2_method_8_code
def yX0_enter : MethodName := ⟨RX0, "enter", "(IIIII)I"⟩
abbrev cX0_nowWaits : ByteArray := prog_2_method_9_code
def yX0_nowWaits : MethodName := ⟨RX0, "nowWaits", "(II)V"⟩
abbrev cX0_nowTaken : ByteArray := prog_2_method_10_code
def yX0_nowTaken : MethodName := ⟨RX0, "nowTaken", "(I)V"⟩
abbrev cX0_ruleNumber : ByteArray := prog_2_method_11_code
def yX0_ruleNumber : MethodName := ⟨RX0, "ruleNumber", "()I"⟩
abbrev cX0_putRule : ByteArray := prog_2_method_12_code
def yX0_putRule : MethodName := ⟨RX0, "putRule", "(III)I"⟩
abbrev cX0_leastUsed : ByteArray := prog_2_method_13_code
def yX0_leastUsed : MethodName := ⟨RX0, "leastUsed", "()I"⟩
abbrev cX0_dropRule : ByteArray := prog_2_method_14_code
def yX0_dropRule : MethodName := ⟨RX0, "dropRule", "(I)V"⟩
abbrev cX0_dropRulesTo : ByteArray := prog_2_method_15_code
def yX0_dropRulesTo : MethodName := ⟨RX0, "dropRulesTo", "(I)V"⟩
abbrev cX0_dropOldRules : ByteArray := prog_2_method_16_code
def yX0_dropOldRules : MethodName := ⟨RX0, "dropOldRules", "(II)V"⟩
def RX1 : String := "RxQueues$History"
def TX1 : u_T := fun k => match k with
  | 0 => ("RxQueues$History", "number", "I", false)
  | 1 => ("RxQueues$History", "before", "[LRxQueues$State;", true)
  | 2 => ("RxQueues$History", "acts", "[I", true)
  | _ => ("RxQueues$History", "latest", "I", false)
def tyX1 : Nat → FieldType := fun k => match k with
  | 0 => .int
  | 1 => .array (.object "RxQueues$State")
  | 2 => .array .int
  | _ => .int
abbrev wsX10 : List Cond := u_ws RX1 TX1 4
theorem nmX1 : ∀ a, a < 4 → ∀ b, b < 4 → a ≠ b → (TX1 a).2.1 ≠ (TX1 b).2.1 := by decide +kernel
theorem tyX1_ok : ∀ k, k < 4 → parseFieldDescriptor (TX1 k).2.2.1 = some (tyX1 k) := by decide +kernel
abbrev cX1_init : ByteArray := prog_3_method_1_code
def yX1_init : MethodName := ⟨RX1, "<init>", "()V"⟩
abbrev cX1_keep : ByteArray := prog_3_method_2_code
def yX1_keep : MethodName := ⟨RX1, "keep", "(ILRxQueues$State;)V"⟩
abbrev cX1_takeBack : ByteArray := prog_3_method_3_code
def yX1_takeBack : MethodName := ⟨RX1, "takeBack", "(LRxQueues$State;)I"⟩
def RX2 : String := "RxQueues$Key"
def TX2 : u_T := fun k => match k with
  | 0 => ("RxQueues$Key", "counting", "I", false)
  | _ => ("RxQueues$Key", "windows", "[I", true)
def tyX2 : Nat → FieldType := fun k => match k with
  | 0 => .int
  | _ => .array .int
abbrev wsX20 : List Cond := u_ws RX2 TX2 2
theorem nmX2 : ∀ a, a < 2 → ∀ b, b < 2 → a ≠ b → (TX2 a).2.1 ≠ (TX2 b).2.1 := by decide +kernel
theorem tyX2_ok : ∀ k, k < 2 → parseFieldDescriptor (TX2 k).2.2.1 = some (tyX2 k) := by decide +kernel
abbrev cX2_init : ByteArray := prog_4_method_1_code
def yX2_init : MethodName := ⟨RX2, "<init>", "()V"⟩
abbrev cX2_put : ByteArray := prog_4_method_2_code
def yX2_put : MethodName := ⟨RX2, "put", "(III)V"⟩
abbrev cX2_copyFrom : ByteArray := prog_4_method_3_code
def yX2_copyFrom : MethodName := ⟨RX2, "copyFrom", "(LRxQueues$Key;)V"⟩
abbrev cX2_bitsFrom : ByteArray := prog_4_method_4_code
def yX2_bitsFrom : MethodName := ⟨RX2, "bitsFrom", "(I)I"⟩
abbrev cX2_counts : ByteArray := prog_4_method_5_code
def yX2_counts : MethodName := ⟨RX2, "counts", "(I)Z"⟩
abbrev cX2_part : ByteArray := prog_4_method_6_code
def yX2_part : MethodName := ⟨RX2, "part", "(II)I"⟩
abbrev cX2_hashFields : ByteArray := prog_4_method_7_code
def yX2_hashFields : MethodName := ⟨RX2, "hashFields", "(IIIII)I"⟩
abbrev cX2_hashesBothWaysAlike : ByteArray := prog_4_method_8_code
def yX2_hashesBothWaysAlike : MethodName := ⟨RX2, "hashesBothWaysAlike", "()Z"⟩
abbrev cX2_entriesInReach : ByteArray := prog_4_method_9_code
def yX2_entriesInReach : MethodName := ⟨RX2, "entriesInReach", "()I"⟩
abbrev cX2_withStep : ByteArray := prog_4_method_10_code
def yX2_withStep : MethodName := ⟨RX2, "withStep", "(II)I"⟩
def RX3 : String := "RxQueues$Queue"
def TX3 : u_T := fun k => match k with
  | 0 => ("RxQueues$Queue", "number", "I", false)
  | 1 => ("RxQueues$Queue", "calls", "I", false)
  | 2 => ("RxQueues$Queue", "lost", "I", false)
  | 3 => ("RxQueues$Queue", "delay", "I", false)
  | 4 => ("RxQueues$Queue", "since", "I", false)
  | 5 => ("RxQueues$Queue", "taken", "I", false)
  | 6 => ("RxQueues$Queue", "pace", "I", false)
  | 7 => ("RxQueues$Queue", "fresh", "I", false)
  | _ => ("RxQueues$Queue", "cells", "[I", true)
def tyX3 : Nat → FieldType := fun k => match k with
  | 0 => .int
  | 1 => .int
  | 2 => .int
  | 3 => .int
  | 4 => .int
  | 5 => .int
  | 6 => .int
  | 7 => .int
  | _ => .array .int
abbrev wsX30 : List Cond := u_ws RX3 TX3 9
theorem nmX3 : ∀ a, a < 9 → ∀ b, b < 9 → a ≠ b → (TX3 a).2.1 ≠ (TX3 b).2.1 := by decide +kernel
theorem tyX3_ok : ∀ k, k < 9 → parseFieldDescriptor (TX3 k).2.2.1 = some (tyX3 k) := by decide +kernel
abbrev cX3_init : ByteArray := prog_5_method_1_code
def yX3_init : MethodName := ⟨RX3, "<init>", "()V"⟩
abbrev cX3_copyFrom : ByteArray := prog_5_method_2_code
def yX3_copyFrom : MethodName := ⟨RX3, "copyFrom", "(LRxQueues$Queue;)V"⟩
abbrev cX3_at : ByteArray := prog_5_method_3_code
def yX3_at : MethodName := ⟨RX3, "at", "(II)I"⟩
abbrev cX3_tell : ByteArray := prog_5_method_4_code
def yX3_tell : MethodName := ⟨RX3, "tell", "(I)I"⟩
abbrev cX3_append : ByteArray := prog_5_method_5_code
def yX3_append : MethodName := ⟨RX3, "append", "(IIIZI)V"⟩
abbrev cX3_keepPace : ByteArray := prog_5_method_6_code
def yX3_keepPace : MethodName := ⟨RX3, "keepPace", "()V"⟩
abbrev cX3_isDue : ByteArray := prog_5_method_7_code
def yX3_isDue : MethodName := ⟨RX3, "isDue", "(III)Z"⟩
abbrev cX3_takeAway : ByteArray := prog_5_method_8_code
def yX3_takeAway : MethodName := ⟨RX3, "takeAway", "(II)V"⟩
abbrev cX3_learn : ByteArray := prog_5_method_9_code
def yX3_learn : MethodName := ⟨RX3, "learn", "(II)V"⟩
def RX4 : String := "RxQueues$Segments"
def TX4 : u_T := fun k => match k with
  | 0 => ("RxQueues$Segments", "kept", "I", false)
  | 1 => ("RxQueues$Segments", "totals", "[J", true)
  | 2 => ("RxQueues$Segments", "latest", "I", false)
  | 3 => ("RxQueues$Segments", "last", "[I", true)
  | 4 => ("RxQueues$Segments", "place", "[I", true)
  | 5 => ("RxQueues$Segments", "size", "[I", true)
  | _ => ("RxQueues$Segments", "packets", "[I", true)
def tyX4 : Nat → FieldType := fun k => match k with
  | 0 => .int
  | 1 => .array .long
  | 2 => .int
  | 3 => .array .int
  | 4 => .array .int
  | 5 => .array .int
  | _ => .array .int
abbrev wsX40 : List Cond := u_ws RX4 TX4 7
theorem nmX4 : ∀ a, a < 7 → ∀ b, b < 7 → a ≠ b → (TX4 a).2.1 ≠ (TX4 b).2.1 := by decide +kernel
theorem tyX4_ok : ∀ k, k < 7 → parseFieldDescriptor (TX4 k).2.2.1 = some (tyX4 k) := by decide +kernel
abbrev cX4_init : ByteArray := prog_6_method_1_code
def yX4_init : MethodName := ⟨RX4, "<init>", "()V"⟩
abbrev cX4_copyFrom : ByteArray := prog_6_method_2_code
def yX4_copyFrom : MethodName := ⟨RX4, "copyFrom", "(LRxQueues$Segments;)V"⟩
abbrev cX4_lately : ByteArray := prog_6_method_3_code
def yX4_lately : MethodName := ⟨RX4, "lately", "(II)I"⟩
abbrev cX4_isOpen : ByteArray := prog_6_method_4_code
def yX4_isOpen : MethodName := ⟨RX4, "isOpen", "(I)Z"⟩
abbrev cX4_fits : ByteArray := prog_6_method_5_code
def yX4_fits : MethodName := ⟨RX4, "fits", "(IIII)Z"⟩
abbrev cX4_endOf : ByteArray := prog_6_method_6_code
def yX4_endOf : MethodName := ⟨RX4, "endOf", "(I)I"⟩
abbrev cX4_sizeOf : ByteArray := prog_6_method_7_code
def yX4_sizeOf : MethodName := ⟨RX4, "sizeOf", "(I)I"⟩
abbrev cX4_open : ByteArray := prog_6_method_8_code
def yX4_open : MethodName := ⟨RX4, "open", "(III)V"⟩
abbrev cX4_join : ByteArray := prog_6_method_9_code
def yX4_join : MethodName := ⟨RX4, "join", "(II)V"⟩
abbrev cX4_close : ByteArray := prog_6_method_10_code
def yX4_close : MethodName := ⟨RX4, "close", "(III)V"⟩
def RX5 : String := "RxQueues$State"
def TX5 : u_T := fun k => match k with
  | 0 => ("RxQueues$State", "key", "LRxQueues$Key;", true)
  | 1 => ("RxQueues$State", "flows", "LRxQueues$Flows;", true)
  | 2 => ("RxQueues$State", "table", "LRxQueues$Table;", true)
  | 3 => ("RxQueues$State", "queues", "[LRxQueues$Queue;", true)
  | 4 => ("RxQueues$State", "segments", "LRxQueues$Segments;", true)
  | 5 => ("RxQueues$State", "terms", "[I", true)
  | 6 => ("RxQueues$State", "time", "I", false)
  | _ => ("RxQueues$State", "followed", "I", false)
def tyX5 : Nat → FieldType := fun k => match k with
  | 0 => .object "RxQueues$Key"
  | 1 => .object "RxQueues$Flows"
  | 2 => .object "RxQueues$Table"
  | 3 => .array (.object "RxQueues$Queue")
  | 4 => .object "RxQueues$Segments"
  | 5 => .array .int
  | 6 => .int
  | _ => .int
abbrev wsX50 : List Cond := u_ws RX5 TX5 8
theorem nmX5 : ∀ a, a < 8 → ∀ b, b < 8 → a ≠ b → (TX5 a).2.1 ≠ (TX5 b).2.1 := by decide +kernel
theorem tyX5_ok : ∀ k, k < 8 → parseFieldDescriptor (TX5 k).2.2.1 = some (tyX5 k) := by decide +kernel
abbrev cX5_init : ByteArray := prog_7_method_1_code
def yX5_init : MethodName := ⟨RX5, "<init>", "()V"⟩
abbrev cX5_become : ByteArray := prog_7_method_2_code
def yX5_become : MethodName := ⟨RX5, "become", "(LRxQueues$State;)V"⟩
abbrev cX5_hashFlow : ByteArray := prog_7_method_3_code
def yX5_hashFlow : MethodName := ⟨RX5, "hashFlow", "(I)I"⟩
abbrev cX5_foldedFields : ByteArray := prog_7_method_4_code
def yX5_foldedFields : MethodName := ⟨RX5, "foldedFields", "(I)I"⟩
abbrev cX5_entryOf : ByteArray := prog_7_method_5_code
def yX5_entryOf : MethodName := ⟨RX5, "entryOf", "(I)I"⟩
abbrev cX5_wishOf : ByteArray := prog_7_method_6_code
def yX5_wishOf : MethodName := ⟨RX5, "wishOf", "(I)I"⟩
abbrev cX5_flowsOfEntry : ByteArray := prog_7_method_7_code
def yX5_flowsOfEntry : MethodName := ⟨RX5, "flowsOfEntry", "(I)I"⟩
abbrev cX5_flowsWishing : ByteArray := prog_7_method_8_code
def yX5_flowsWishing : MethodName := ⟨RX5, "flowsWishing", "(I)I"⟩
abbrev cX5_packetsWaiting : ByteArray := prog_7_method_9_code
def yX5_packetsWaiting : MethodName := ⟨RX5, "packetsWaiting", "()I"⟩
abbrev cX5_callsInAll : ByteArray := prog_7_method_10_code
def yX5_callsInAll : MethodName := ⟨RX5, "callsInAll", "()I"⟩
abbrev cX5_arrive : ByteArray := prog_7_method_11_code
def yX5_arrive : MethodName := ⟨RX5, "arrive", "(IIZ)I"⟩
abbrev cX5_passTick : ByteArray := prog_7_method_12_code
def yX5_passTick : MethodName := ⟨RX5, "passTick", "()V"⟩
abbrev cX5_takeBatch : ByteArray := prog_7_method_13_code
def yX5_takeBatch : MethodName := ⟨RX5, "takeBatch", "(I)I"⟩
abbrev cX5_give : ByteArray := prog_7_method_14_code
def yX5_give : MethodName := ⟨RX5, "give", "(II)V"⟩
abbrev cX5_missingBytes : ByteArray := prog_7_method_15_code
def yX5_missingBytes : MethodName := ⟨RX5, "missingBytes", "(I)I"⟩
abbrev cX5_widestHole : ByteArray := prog_7_method_16_code
def yX5_widestHole : MethodName := ⟨RX5, "widestHole", "(I)I"⟩
def RX6 : String := "RxQueues$Table"
def TX6 : u_T := fun k => match k with
  | 0 => ("RxQueues$Table", "queueOf", "[I", true)
  | 1 => ("RxQueues$Table", "hits", "[I", true)
  | 2 => ("RxQueues$Table", "order", "[I", true)
  | _ => ("RxQueues$Table", "sums", "[I", true)
def tyX6 : Nat → FieldType := fun k => match k with
  | 0 => .array .int
  | 1 => .array .int
  | 2 => .array .int
  | _ => .array .int
abbrev wsX60 : List Cond := u_ws RX6 TX6 4
theorem nmX6 : ∀ a, a < 4 → ∀ b, b < 4 → a ≠ b → (TX6 a).2.1 ≠ (TX6 b).2.1 := by decide +kernel
theorem tyX6_ok : ∀ k, k < 4 → parseFieldDescriptor (TX6 k).2.2.1 = some (tyX6 k) := by decide +kernel
abbrev cX6_init : ByteArray := prog_8_method_1_code
def yX6_init : MethodName := ⟨RX6, "<init>", "()V"⟩
abbrev cX6_copyFrom : ByteArray := prog_8_method_2_code
def yX6_copyFrom : MethodName := ⟨RX6, "copyFrom", "(LRxQueues$Table;)V"⟩
abbrev cX6_clearHits : ByteArray := prog_8_method_3_code
def yX6_clearHits : MethodName := ⟨RX6, "clearHits", "()V"⟩
abbrev cX6_entriesOf : ByteArray := prog_8_method_4_code
def yX6_entriesOf : MethodName := ⟨RX6, "entriesOf", "(I)I"⟩
abbrev cX6_mostHits : ByteArray := prog_8_method_5_code
def yX6_mostHits : MethodName := ⟨RX6, "mostHits", "()I"⟩
abbrev cX6_leastHits : ByteArray := prog_8_method_6_code
def yX6_leastHits : MethodName := ⟨RX6, "leastHits", "()I"⟩
abbrev cX6_deal : ByteArray := prog_8_method_7_code
def yX6_deal : MethodName := ⟨RX6, "deal", "()I"⟩
abbrev cX6_emptyOut : ByteArray := prog_8_method_8_code
def yX6_emptyOut : MethodName := ⟨RX6, "emptyOut", "(I)I"⟩
abbrev cX6_orderByHits : ByteArray := prog_8_method_9_code
def yX6_orderByHits : MethodName := ⟨RX6, "orderByHits", "()V"⟩
abbrev cX6_clearSums : ByteArray := prog_8_method_10_code
def yX6_clearSums : MethodName := ⟨RX6, "clearSums", "()V"⟩
abbrev cX6_sumHits : ByteArray := prog_8_method_11_code
def yX6_sumHits : MethodName := ⟨RX6, "sumHits", "()V"⟩
abbrev cX6_leastQueue : ByteArray := prog_8_method_12_code
def yX6_leastQueue : MethodName := ⟨RX6, "leastQueue", "(I)I"⟩
def RX7 : String := "RxQueues"
def TX7 : u_T := fun k => match k with
  | 0 => ("RxQueues", "now", "LRxQueues$State;", true)
  | 1 => ("RxQueues", "history", "LRxQueues$History;", true)
  | 2 => ("RxQueues", "images", "[LRxQueues$State;", true)
  | 3 => ("RxQueues", "refused", "[I", true)
  | 4 => ("RxQueues", "latestRefusal", "I", false)
  | 5 => ("RxQueues", "paper", "LRxQueues$State;", false)
  | _ => ("RxQueues", "ofEachFlow", "[I", true)
def tyX7 : Nat → FieldType := fun k => match k with
  | 0 => .object "RxQueues$State"
  | 1 => .object "RxQueues$History"
  | 2 => .array (.object "RxQueues$State")
  | 3 => .array .int
  | 4 => .int
  | 5 => .object "RxQueues$State"
  | _ => .array .int
abbrev wsX70 : List Cond := u_ws RX7 TX7 7
theorem nmX7 : ∀ a, a < 7 → ∀ b, b < 7 → a ≠ b → (TX7 a).2.1 ≠ (TX7 b).2.1 := by decide +kernel
theorem tyX7_ok : ∀ k, k < 7 → parseFieldDescriptor (TX7 k).2.2.1 = some (tyX7 k) := by decide +kernel
abbrev cX7_init : ByteArray := prog_1_method_1_code
def yX7_init : MethodName := ⟨RX7, "<init>", "()V"⟩
abbrev cX7_key : ByteArray := prog_1_method_2_code
def yX7_key : MethodName := ⟨RX7, "key", "(III)I"⟩
abbrev cX7_mask : ByteArray := prog_1_method_3_code
def yX7_mask : MethodName := ⟨RX7, "mask", "(I)I"⟩
abbrev cX7_flow : ByteArray := prog_1_method_4_code
def yX7_flow : MethodName := ⟨RX7, "flow", "(IIIII)I"⟩
abbrev cX7_table : ByteArray := prog_1_method_5_code
def yX7_table : MethodName := ⟨RX7, "table", "(II)I"⟩
abbrev cX7_balance : ByteArray := prog_1_method_6_code
def yX7_balance : MethodName := ⟨RX7, "balance", "()I"⟩
abbrev cX7_reads : ByteArray := prog_1_method_7_code
def yX7_reads : MethodName := ⟨RX7, "reads", "(II)I"⟩
abbrev cX7_retire : ByteArray := prog_1_method_8_code
def yX7_retire : MethodName := ⟨RX7, "retire", "(I)I"⟩
abbrev cX7_steer : ByteArray := prog_1_method_9_code
def yX7_steer : MethodName := ⟨RX7, "steer", "(II)I"⟩
abbrev cX7_free : ByteArray := prog_1_method_10_code
def yX7_free : MethodName := ⟨RX7, "free", "(I)I"⟩
abbrev cX7_terms : ByteArray := prog_1_method_11_code
def yX7_terms : MethodName := ⟨RX7, "terms", "(II)I"⟩
abbrev cX7_packet : ByteArray := prog_1_method_12_code
def yX7_packet : MethodName := ⟨RX7, "packet", "(IIZ)I"⟩
abbrev cX7_burst : ByteArray := prog_1_method_13_code
def yX7_burst : MethodName := ⟨RX7, "burst", "(III)I"⟩
abbrev cX7_gap : ByteArray := prog_1_method_14_code
def yX7_gap : MethodName := ⟨RX7, "gap", "(II)I"⟩
abbrev cX7_tick : ByteArray := prog_1_method_15_code
def yX7_tick : MethodName := ⟨RX7, "tick", "(I)I"⟩
abbrev cX7_poll : ByteArray := prog_1_method_16_code
def yX7_poll : MethodName := ⟨RX7, "poll", "(I)I"⟩
abbrev cX7_undo : ByteArray := prog_1_method_17_code
def yX7_undo : MethodName := ⟨RX7, "undo", "()I"⟩
abbrev cX7_image : ByteArray := prog_1_method_18_code
def yX7_image : MethodName := ⟨RX7, "image", "(I)I"⟩
abbrev cX7_back : ByteArray := prog_1_method_19_code
def yX7_back : MethodName := ⟨RX7, "back", "(I)I"⟩
abbrev cX7_hash : ByteArray := prog_1_method_20_code
def yX7_hash : MethodName := ⟨RX7, "hash", "(IIIII)I"⟩
abbrev cX7_hashOf : ByteArray := prog_1_method_21_code
def yX7_hashOf : MethodName := ⟨RX7, "hashOf", "(I)I"⟩
abbrev cX7_of : ByteArray := prog_1_method_22_code
def yX7_of : MethodName := ⟨RX7, "of", "(II)I"⟩
abbrev cX7_find : ByteArray := prog_1_method_23_code
def yX7_find : MethodName := ⟨RX7, "find", "(IIIII)I"⟩
abbrev cX7_missing : ByteArray := prog_1_method_24_code
def yX7_missing : MethodName := ⟨RX7, "missing", "(II)I"⟩
abbrev cX7_entry : ByteArray := prog_1_method_25_code
def yX7_entry : MethodName := ⟨RX7, "entry", "(II)I"⟩
abbrev cX7_queue : ByteArray := prog_1_method_26_code
def yX7_queue : MethodName := ⟨RX7, "queue", "(II)I"⟩
abbrev cX7_waits : ByteArray := prog_1_method_27_code
def yX7_waits : MethodName := ⟨RX7, "waits", "(III)I"⟩
abbrev cX7_segment : ByteArray := prog_1_method_28_code
def yX7_segment : MethodName := ⟨RX7, "segment", "(II)I"⟩
abbrev cX7_given : ByteArray := prog_1_method_29_code
def yX7_given : MethodName := ⟨RX7, "given", "(I)J"⟩
abbrev cX7_window : ByteArray := prog_1_method_30_code
def yX7_window : MethodName := ⟨RX7, "window", "(I)I"⟩
abbrev cX7_isBothWays : ByteArray := prog_1_method_31_code
def yX7_isBothWays : MethodName := ⟨RX7, "isBothWays", "()Z"⟩
abbrev cX7_reach : ByteArray := prog_1_method_32_code
def yX7_reach : MethodName := ⟨RX7, "reach", "()I"⟩
abbrev cX7_aim : ByteArray := prog_1_method_33_code
def yX7_aim : MethodName := ⟨RX7, "aim", "(II)I"⟩
abbrev cX7_spread : ByteArray := prog_1_method_34_code
def yX7_spread : MethodName := ⟨RX7, "spread", "(I)I"⟩
abbrev cX7_ratio : ByteArray := prog_1_method_35_code
def yX7_ratio : MethodName := ⟨RX7, "ratio", "(I)J"⟩
abbrev cX7_alike : ByteArray := prog_1_method_36_code
def yX7_alike : MethodName := ⟨RX7, "alike", "()I"⟩
abbrev cX7_load : ByteArray := prog_1_method_37_code
def yX7_load : MethodName := ⟨RX7, "load", "(I)I"⟩
abbrev cX7_would : ByteArray := prog_1_method_38_code
def yX7_would : MethodName := ⟨RX7, "would", "(II)I"⟩
abbrev cX7_drain : ByteArray := prog_1_method_39_code
def yX7_drain : MethodName := ⟨RX7, "drain", "()I"⟩
abbrev cX7_nextCall : ByteArray := prog_1_method_40_code
def yX7_nextCall : MethodName := ⟨RX7, "nextCall", "(I)I"⟩
abbrev cX7_joined : ByteArray := prog_1_method_41_code
def yX7_joined : MethodName := ⟨RX7, "joined", "(II)I"⟩
abbrev cX7_count : ByteArray := prog_1_method_42_code
def yX7_count : MethodName := ⟨RX7, "count", "(I)I"⟩
abbrev cX7_status : ByteArray := prog_1_method_43_code
def yX7_status : MethodName := ⟨RX7, "status", "()I"⟩
abbrev cX7_refuse : ByteArray := prog_1_method_44_code
def yX7_refuse : MethodName := ⟨RX7, "refuse", "(I)I"⟩
abbrev cX7_refusals : ByteArray := prog_1_method_45_code
def yX7_refusals : MethodName := ⟨RX7, "refusals", "(I)I"⟩
abbrev cX7_begin : ByteArray := prog_1_method_46_code
def yX7_begin : MethodName := ⟨RX7, "begin", "(I)V"⟩
abbrev cX7_paperOfNow : ByteArray := prog_1_method_47_code
def yX7_paperOfNow : MethodName := ⟨RX7, "paperOfNow", "()LRxQueues$State;"⟩
abbrev cX7_copied : ByteArray := prog_1_method_48_code
def yX7_copied : MethodName := ⟨RX7, "copied", "(LRxQueues$State;LRxQueues$State;)LRxQueues$State;"⟩
abbrev cX7_isFlow : ByteArray := prog_1_method_49_code
def yX7_isFlow : MethodName := ⟨RX7, "isFlow", "(I)Z"⟩
abbrev cX7_isQueue : ByteArray := prog_1_method_50_code
def yX7_isQueue : MethodName := ⟨RX7, "isQueue", "(I)Z"⟩
abbrev cX7_isEntry : ByteArray := prog_1_method_51_code
def yX7_isEntry : MethodName := ⟨RX7, "isEntry", "(I)Z"⟩
abbrev cX7_isByte : ByteArray := prog_1_method_52_code
def yX7_isByte : MethodName := ⟨RX7, "isByte", "(I)Z"⟩
abbrev cX7_isSize : ByteArray := prog_1_method_53_code
def yX7_isSize : MethodName := ⟨RX7, "isSize", "(I)Z"⟩
abbrev cX7_areFields : ByteArray := prog_1_method_54_code
def yX7_areFields : MethodName := ⟨RX7, "areFields", "(IIIII)Z"⟩
abbrev cX7_entryOfHash : ByteArray := prog_1_method_55_code
def yX7_entryOfHash : MethodName := ⟨RX7, "entryOfHash", "(I)I"⟩
abbrev cX7_burstFits : ByteArray := prog_1_method_56_code
def yX7_burstFits : MethodName := ⟨RX7, "burstFits", "(III)Z"⟩
abbrev cX7_unlikeEntries : ByteArray := prog_1_method_57_code
def yX7_unlikeEntries : MethodName := ⟨RX7, "unlikeEntries", "(I)I"⟩
abbrev cX7_entryByRepeated : ByteArray := prog_1_method_58_code
def yX7_entryByRepeated : MethodName := ⟨RX7, "entryByRepeated", "(II)I"⟩
abbrev cX7_commonDivisor : ByteArray := prog_1_method_59_code
def yX7_commonDivisor : MethodName := ⟨RX7, "commonDivisor", "(JJ)J"⟩
def RX8 : String := "RxQueuesModel"
def TX8 : u_T := fun k => match k with
  | 0 => ("RxQueuesModel", "thrown", "I", false)
  | 1 => ("RxQueuesModel", "status", "I", false)
  | 2 => ("RxQueuesModel", "refusals", "[I", true)
  | 3 => ("RxQueuesModel", "row", "[I", true)
  | 4 => ("RxQueuesModel", "sums", "[J", true)
  | 5 => ("RxQueuesModel", "undos", "[I", true)
  | 6 => ("RxQueuesModel", "undoSums", "[J", true)
  | 7 => ("RxQueuesModel", "sorts", "[I", true)
  | 8 => ("RxQueuesModel", "nUndo", "I", false)
  | 9 => ("RxQueuesModel", "images", "[I", true)
  | 10 => ("RxQueuesModel", "imageSums", "[J", true)
  | 11 => ("RxQueuesModel", "isKept", "[Z", true)
  | 12 => ("RxQueuesModel", "ahead", "[I", true)
  | 13 => ("RxQueuesModel", "aheadSums", "[J", true)
  | 14 => ("RxQueuesModel", "fields", "[I", true)
  | 15 => ("RxQueuesModel", "share", "[I", true)
  | 16 => ("RxQueuesModel", "laid", "[Z", true)
  | 17 => ("RxQueuesModel", "open", "[I", true)
  | 18 => ("RxQueuesModel", "givenMany", "I", false)
  | _ => ("RxQueuesModel", "callMany", "I", false)
def tyX8 : Nat → FieldType := fun k => match k with
  | 0 => .int
  | 1 => .int
  | 2 => .array .int
  | 3 => .array .int
  | 4 => .array .long
  | 5 => .array .int
  | 6 => .array .long
  | 7 => .array .int
  | 8 => .int
  | 9 => .array .int
  | 10 => .array .long
  | 11 => .array .boolean
  | 12 => .array .int
  | 13 => .array .long
  | 14 => .array .int
  | 15 => .array .int
  | 16 => .array .boolean
  | 17 => .array .int
  | 18 => .int
  | _ => .int
abbrev wsX80 : List Cond := u_ws RX8 TX8 20
theorem nmX8 : ∀ a, a < 20 → ∀ b, b < 20 → a ≠ b → (TX8 a).2.1 ≠ (TX8 b).2.1 := by decide +kernel
theorem tyX8_ok : ∀ k, k < 20 → parseFieldDescriptor (TX8 k).2.2.1 = some (tyX8 k) := by decide +kernel
abbrev cX8_init : ByteArray := prog_10_method_1_code
def yX8_init : MethodName := ⟨RX8, "<init>", "()V"⟩
abbrev cX8_in : ByteArray := prog_10_method_3_code
def yX8_in : MethodName := ⟨RX8, "in", "(JJJ)Z"⟩
abbrev cX8_lesser : ByteArray := prog_10_method_4_code
def yX8_lesser : MethodName := ⟨RX8, "lesser", "(II)I"⟩
abbrev cX8_tell : ByteArray := prog_10_method_5_code
def yX8_tell : MethodName := ⟨RX8, "tell", "(I)I"⟩
abbrev cX8_refuse : ByteArray := prog_10_method_6_code
def yX8_refuse : MethodName := ⟨RX8, "refuse", "(I)I"⟩
abbrev cX8_lay : ByteArray := prog_10_method_7_code
def yX8_lay : MethodName := ⟨RX8, "lay", "([I[JI)V"⟩
abbrev cX8_bring : ByteArray := prog_10_method_8_code
def yX8_bring : MethodName := ⟨RX8, "bring", "([I[JI)V"⟩
abbrev cX8_remember : ByteArray := prog_10_method_9_code
def yX8_remember : MethodName := ⟨RX8, "remember", "(I)V"⟩
abbrev cX8_undo : ByteArray := prog_10_method_10_code
def yX8_undo : MethodName := ⟨RX8, "undo", "()I"⟩
abbrev cX8_image : ByteArray := prog_10_method_11_code
def yX8_image : MethodName := ⟨RX8, "image", "(I)I"⟩
abbrev cX8_back : ByteArray := prog_10_method_12_code
def yX8_back : MethodName := ⟨RX8, "back", "(I)I"⟩
abbrev cX8_flowAt : ByteArray := prog_10_method_13_code
def yX8_flowAt : MethodName := ⟨RX8, "flowAt", "(I)I"⟩
abbrev cX8_queueAt : ByteArray := prog_10_method_14_code
def yX8_queueAt : MethodName := ⟨RX8, "queueAt", "(I)I"⟩
abbrev cX8_ruleAt : ByteArray := prog_10_method_15_code
def yX8_ruleAt : MethodName := ⟨RX8, "ruleAt", "(I)I"⟩
abbrev cX8_packetAt : ByteArray := prog_10_method_16_code
def yX8_packetAt : MethodName := ⟨RX8, "packetAt", "(II)I"⟩
abbrev cX8_isFlow : ByteArray := prog_10_method_17_code
def yX8_isFlow : MethodName := ⟨RX8, "isFlow", "(I)Z"⟩
abbrev cX8_isQueue : ByteArray := prog_10_method_18_code
def yX8_isQueue : MethodName := ⟨RX8, "isQueue", "(I)Z"⟩
abbrev cX8_keyBit : ByteArray := prog_10_method_19_code
def yX8_keyBit : MethodName := ⟨RX8, "keyBit", "(I)I"⟩
abbrev cX8_windowAt : ByteArray := prog_10_method_20_code
def yX8_windowAt : MethodName := ⟨RX8, "windowAt", "(I)I"⟩
abbrev cX8_hashNow : ByteArray := prog_10_method_21_code
def yX8_hashNow : MethodName := ⟨RX8, "hashNow", "()I"⟩
abbrev cX8_isByte : ByteArray := prog_10_method_22_code
def yX8_isByte : MethodName := ⟨RX8, "isByte", "(I)Z"⟩
abbrev cX8_takeFields : ByteArray := prog_10_method_23_code
def yX8_takeFields : MethodName := ⟨RX8, "takeFields", "(IIIII)Z"⟩
abbrev cX8_takeFlow : ByteArray := prog_10_method_24_code
def yX8_takeFlow : MethodName := ⟨RX8, "takeFlow", "(I)V"⟩
abbrev cX8_layHash : ByteArray := prog_10_method_25_code
def yX8_layHash : MethodName := ⟨RX8, "layHash", "(I)V"⟩
abbrev cX8_layHashes : ByteArray := prog_10_method_26_code
def yX8_layHashes : MethodName := ⟨RX8, "layHashes", "()V"⟩
abbrev cX8_entryOf : ByteArray := prog_10_method_27_code
def yX8_entryOf : MethodName := ⟨RX8, "entryOf", "(I)I"⟩
abbrev cX8_ruleOf : ByteArray := prog_10_method_28_code
def yX8_ruleOf : MethodName := ⟨RX8, "ruleOf", "(I)I"⟩
abbrev cX8_wishOf : ByteArray := prog_10_method_29_code
def yX8_wishOf : MethodName := ⟨RX8, "wishOf", "(I)I"⟩
abbrev cX8_queueOf : ByteArray := prog_10_method_30_code
def yX8_queueOf : MethodName := ⟨RX8, "queueOf", "(I)I"⟩
abbrev cX8_packetsOf : ByteArray := prog_10_method_31_code
def yX8_packetsOf : MethodName := ⟨RX8, "packetsOf", "(I)I"⟩
abbrev cX8_found : ByteArray := prog_10_method_32_code
def yX8_found : MethodName := ⟨RX8, "found", "()I"⟩
abbrev cX8_key : ByteArray := prog_10_method_33_code
def yX8_key : MethodName := ⟨RX8, "key", "(III)I"⟩
abbrev cX8_becomes : ByteArray := prog_10_method_34_code
def yX8_becomes : MethodName := ⟨RX8, "becomes", "(III)I"⟩
abbrev cX8_mask : ByteArray := prog_10_method_35_code
def yX8_mask : MethodName := ⟨RX8, "mask", "(I)I"⟩
abbrev cX8_flow : ByteArray := prog_10_method_36_code
def yX8_flow : MethodName := ⟨RX8, "flow", "(IIIII)I"⟩
abbrev cX8_table : ByteArray := prog_10_method_37_code
def yX8_table : MethodName := ⟨RX8, "table", "(II)I"⟩
abbrev cX8_nextEntry : ByteArray := prog_10_method_38_code
def yX8_nextEntry : MethodName := ⟨RX8, "nextEntry", "()I"⟩
abbrev cX8_leastShare : ByteArray := prog_10_method_39_code
def yX8_leastShare : MethodName := ⟨RX8, "leastShare", "(I)I"⟩
abbrev cX8_layBalanced : ByteArray := prog_10_method_40_code
def yX8_layBalanced : MethodName := ⟨RX8, "layBalanced", "()I"⟩
abbrev cX8_balance : ByteArray := prog_10_method_41_code
def yX8_balance : MethodName := ⟨RX8, "balance", "()I"⟩
abbrev cX8_reads : ByteArray := prog_10_method_42_code
def yX8_reads : MethodName := ⟨RX8, "reads", "(II)I"⟩
abbrev cX8_dropRule : ByteArray := prog_10_method_43_code
def yX8_dropRule : MethodName := ⟨RX8, "dropRule", "(I)V"⟩
abbrev cX8_retire : ByteArray := prog_10_method_44_code
def yX8_retire : MethodName := ⟨RX8, "retire", "(I)I"⟩
abbrev cX8_steers : ByteArray := prog_10_method_45_code
def yX8_steers : MethodName := ⟨RX8, "steers", "(II)I"⟩
abbrev cX8_steer : ByteArray := prog_10_method_46_code
def yX8_steer : MethodName := ⟨RX8, "steer", "(II)I"⟩
abbrev cX8_free : ByteArray := prog_10_method_47_code
def yX8_free : MethodName := ⟨RX8, "free", "(I)I"⟩
abbrev cX8_isTerm : ByteArray := prog_10_method_48_code
def yX8_isTerm : MethodName := ⟨RX8, "isTerm", "(II)Z"⟩
abbrev cX8_terms : ByteArray := prog_10_method_49_code
def yX8_terms : MethodName := ⟨RX8, "terms", "(II)I"⟩
abbrev cX8_comes : ByteArray := prog_10_method_50_code
def yX8_comes : MethodName := ⟨RX8, "comes", "(III)I"⟩
abbrev cX8_hasNext : ByteArray := prog_10_method_51_code
def yX8_hasNext : MethodName := ⟨RX8, "hasNext", "(II)Z"⟩
abbrev cX8_packet : ByteArray := prog_10_method_52_code
def yX8_packet : MethodName := ⟨RX8, "packet", "(IIZ)I"⟩
abbrev cX8_burst : ByteArray := prog_10_method_53_code
def yX8_burst : MethodName := ⟨RX8, "burst", "(III)I"⟩
abbrev cX8_gap : ByteArray := prog_10_method_54_code
def yX8_gap : MethodName := ⟨RX8, "gap", "(II)I"⟩
abbrev cX8_gives : ByteArray := prog_10_method_55_code
def yX8_gives : MethodName := ⟨RX8, "gives", "(II)V"⟩
abbrev cX8_follows : ByteArray := prog_10_method_56_code
def yX8_follows : MethodName := ⟨RX8, "follows", "(II)V"⟩
abbrev cX8_takes : ByteArray := prog_10_method_57_code
def yX8_takes : MethodName := ⟨RX8, "takes", "(I)I"⟩
abbrev cX8_joins : ByteArray := prog_10_method_58_code
def yX8_joins : MethodName := ⟨RX8, "joins", "(II)V"⟩
abbrev cX8_calls : ByteArray := prog_10_method_59_code
def yX8_calls : MethodName := ⟨RX8, "calls", "(I)V"⟩
abbrev cX8_ticks : ByteArray := prog_10_method_60_code
def yX8_ticks : MethodName := ⟨RX8, "ticks", "()V"⟩
abbrev cX8_ticksBy : ByteArray := prog_10_method_61_code
def yX8_ticksBy : MethodName := ⟨RX8, "ticksBy", "(I)V"⟩
abbrev cX8_tick : ByteArray := prog_10_method_62_code
def yX8_tick : MethodName := ⟨RX8, "tick", "(I)I"⟩
abbrev cX8_poll : ByteArray := prog_10_method_63_code
def yX8_poll : MethodName := ⟨RX8, "poll", "(I)I"⟩
abbrev cX8_hash : ByteArray := prog_10_method_64_code
def yX8_hash : MethodName := ⟨RX8, "hash", "(IIIII)I"⟩
abbrev cX8_hashOf : ByteArray := prog_10_method_65_code
def yX8_hashOf : MethodName := ⟨RX8, "hashOf", "(I)I"⟩
abbrev cX8_of : ByteArray := prog_10_method_66_code
def yX8_of : MethodName := ⟨RX8, "of", "(II)I"⟩
abbrev cX8_missing : ByteArray := prog_10_method_67_code
def yX8_missing : MethodName := ⟨RX8, "missing", "(II)I"⟩
abbrev cX8_find : ByteArray := prog_10_method_68_code
def yX8_find : MethodName := ⟨RX8, "find", "(IIIII)I"⟩
abbrev cX8_entry : ByteArray := prog_10_method_69_code
def yX8_entry : MethodName := ⟨RX8, "entry", "(II)I"⟩
abbrev cX8_wishers : ByteArray := prog_10_method_70_code
def yX8_wishers : MethodName := ⟨RX8, "wishers", "(I)I"⟩
abbrev cX8_entriesOf : ByteArray := prog_10_method_71_code
def yX8_entriesOf : MethodName := ⟨RX8, "entriesOf", "(I)I"⟩
abbrev cX8_queue : ByteArray := prog_10_method_72_code
def yX8_queue : MethodName := ⟨RX8, "queue", "(II)I"⟩
abbrev cX8_waits : ByteArray := prog_10_method_73_code
def yX8_waits : MethodName := ⟨RX8, "waits", "(III)I"⟩
abbrev cX8_segment : ByteArray := prog_10_method_74_code
def yX8_segment : MethodName := ⟨RX8, "segment", "(II)I"⟩
abbrev cX8_given : ByteArray := prog_10_method_75_code
def yX8_given : MethodName := ⟨RX8, "given", "(I)J"⟩
abbrev cX8_window : ByteArray := prog_10_method_76_code
def yX8_window : MethodName := ⟨RX8, "window", "(I)I"⟩
abbrev cX8_part : ByteArray := prog_10_method_77_code
def yX8_part : MethodName := ⟨RX8, "part", "(I)I"⟩
abbrev cX8_isBothWays : ByteArray := prog_10_method_78_code
def yX8_isBothWays : MethodName := ⟨RX8, "isBothWays", "()Z"⟩
abbrev cX8_reach : ByteArray := prog_10_method_79_code
def yX8_reach : MethodName := ⟨RX8, "reach", "()I"⟩
abbrev cX8_aim : ByteArray := prog_10_method_80_code
def yX8_aim : MethodName := ⟨RX8, "aim", "(II)I"⟩
abbrev cX8_unlikeEntries : ByteArray := prog_10_method_81_code
def yX8_unlikeEntries : MethodName := ⟨RX8, "unlikeEntries", "()I"⟩
abbrev cX8_spread : ByteArray := prog_10_method_82_code
def yX8_spread : MethodName := ⟨RX8, "spread", "(I)I"⟩
abbrev cX8_common : ByteArray := prog_10_method_83_code
def yX8_common : MethodName := ⟨RX8, "common", "(JJ)J"⟩
abbrev cX8_ratio : ByteArray := prog_10_method_84_code
def yX8_ratio : MethodName := ⟨RX8, "ratio", "(I)J"⟩
abbrev cX8_alike : ByteArray := prog_10_method_85_code
def yX8_alike : MethodName := ⟨RX8, "alike", "()I"⟩
abbrev cX8_hitsOf : ByteArray := prog_10_method_86_code
def yX8_hitsOf : MethodName := ⟨RX8, "hitsOf", "(I)I"⟩
abbrev cX8_greatestHits : ByteArray := prog_10_method_87_code
def yX8_greatestHits : MethodName := ⟨RX8, "greatestHits", "()I"⟩
abbrev cX8_load : ByteArray := prog_10_method_88_code
def yX8_load : MethodName := ⟨RX8, "load", "(I)I"⟩
abbrev cX8_packets : ByteArray := prog_10_method_89_code
def yX8_packets : MethodName := ⟨RX8, "packets", "()I"⟩
abbrev cX8_would : ByteArray := prog_10_method_90_code
def yX8_would : MethodName := ⟨RX8, "would", "(II)I"⟩
abbrev cX8_drain : ByteArray := prog_10_method_91_code
def yX8_drain : MethodName := ⟨RX8, "drain", "()I"⟩
abbrev cX8_nextCall : ByteArray := prog_10_method_92_code
def yX8_nextCall : MethodName := ⟨RX8, "nextCall", "(I)I"⟩
abbrev cX8_joined : ByteArray := prog_10_method_93_code
def yX8_joined : MethodName := ⟨RX8, "joined", "(II)I"⟩
abbrev cX8_count : ByteArray := prog_10_method_94_code
def yX8_count : MethodName := ⟨RX8, "count", "(I)I"⟩
abbrev cX8_status : ByteArray := prog_10_method_95_code
def yX8_status : MethodName := ⟨RX8, "status", "()I"⟩
def RL : String := "RxQueuesLaw"
abbrev cL_law : ByteArray := code
def yL_law : MethodName := ⟨RL, "law", "([I)Z"⟩
abbrev vwCl : List vw_C := [(RX0, TX0, 2), (RX1, TX1, 4), (RX2, TX2, 2), (RX3, TX3, 9), (RX4, TX4, 7), (RX5, TX5, 8), (RX6, TX6, 4), (RX7, TX7, 7), (RX8, TX8, 20)]
end
section
-- decode rows, by program
theorem dX8_init_0 : decode cX8_init 0 = .ok (.aload_n 0, 1) := by decide +kernel
theorem dX8_init_1 : decode cX8_init 1 = .ok (.invokespecial 1, 3) := by decide +kernel
theorem dX8_init_4 : decode cX8_init 4 = .ok (.aload_n 0, 1) := by decide +kernel
theorem dX8_init_5 : decode cX8_init 5 = .ok (.bipush 6, 2) := by decide +kernel
theorem dX8_init_7 : decode cX8_init 7 = .ok (.newarray .int, 2) := by decide +kernel
theorem dX8_init_9 : decode cX8_init 9 = .ok (.putfield 7, 3) := by decide +kernel
theorem dX8_init_12 : decode cX8_init 12 = .ok (.aload_n 0, 1) := by decide +kernel
theorem dX8_init_13 : decode cX8_init 13 = .ok (.sipush 1065, 3) := by decide +kernel
theorem dX8_init_16 : decode cX8_init 16 = .ok (.newarray .int, 2) := by decide +kernel
theorem dX8_init_18 : decode cX8_init 18 = .ok (.putfield 13, 3) := by decide +kernel
theorem dX8_init_21 : decode cX8_init 21 = .ok (.aload_n 0, 1) := by decide +kernel
theorem dX8_init_22 : decode cX8_init 22 = .ok (.bipush 7, 2) := by decide +kernel
theorem dX8_init_24 : decode cX8_init 24 = .ok (.newarray .long, 2) := by decide +kernel
theorem dX8_init_26 : decode cX8_init 26 = .ok (.putfield 16, 3) := by decide +kernel
theorem dX8_init_29 : decode cX8_init 29 = .ok (.aload_n 0, 1) := by decide +kernel
theorem dX8_init_30 : decode cX8_init 30 = .ok (.sipush 8520, 3) := by decide +kernel
theorem dX8_init_33 : decode cX8_init 33 = .ok (.newarray .int, 2) := by decide +kernel
theorem dX8_init_35 : decode cX8_init 35 = .ok (.putfield 20, 3) := by decide +kernel
theorem dX8_init_38 : decode cX8_init 38 = .ok (.aload_n 0, 1) := by decide +kernel
theorem dX8_init_39 : decode cX8_init 39 = .ok (.bipush 56, 2) := by decide +kernel
theorem dX8_init_41 : decode cX8_init 41 = .ok (.newarray .long, 2) := by decide +kernel
theorem dX8_init_43 : decode cX8_init 43 = .ok (.putfield 23, 3) := by decide +kernel
theorem dX8_init_46 : decode cX8_init 46 = .ok (.aload_n 0, 1) := by decide +kernel
theorem dX8_init_47 : decode cX8_init 47 = .ok (.bipush 8, 2) := by decide +kernel
theorem dX8_init_49 : decode cX8_init 49 = .ok (.newarray .int, 2) := by decide +kernel
theorem dX8_init_51 : decode cX8_init 51 = .ok (.putfield 26, 3) := by decide +kernel
theorem dX8_init_54 : decode cX8_init 54 = .ok (.aload_n 0, 1) := by decide +kernel
theorem dX8_init_55 : decode cX8_init 55 = .ok (.sipush 2130, 3) := by decide +kernel
theorem dX8_init_58 : decode cX8_init 58 = .ok (.newarray .int, 2) := by decide +kernel
theorem dX8_init_60 : decode cX8_init 60 = .ok (.putfield 29, 3) := by decide +kernel
theorem dX8_init_63 : decode cX8_init 63 = .ok (.aload_n 0, 1) := by decide +kernel
theorem dX8_init_64 : decode cX8_init 64 = .ok (.bipush 14, 2) := by decide +kernel
theorem dX8_init_66 : decode cX8_init 66 = .ok (.newarray .long, 2) := by decide +kernel
theorem dX8_init_68 : decode cX8_init 68 = .ok (.putfield 32, 3) := by decide +kernel
theorem dX8_init_71 : decode cX8_init 71 = .ok (.aload_n 0, 1) := by decide +kernel
theorem dX8_init_72 : decode cX8_init 72 = .ok (.iconst 2, 1) := by decide +kernel
theorem dX8_init_73 : decode cX8_init 73 = .ok (.newarray .boolean, 2) := by decide +kernel
theorem dX8_init_75 : decode cX8_init 75 = .ok (.putfield 35, 3) := by decide +kernel
theorem dX8_init_78 : decode cX8_init 78 = .ok (.aload_n 0, 1) := by decide +kernel
theorem dX8_init_79 : decode cX8_init 79 = .ok (.sipush 1065, 3) := by decide +kernel
theorem dX8_init_82 : decode cX8_init 82 = .ok (.newarray .int, 2) := by decide +kernel
theorem dX8_init_84 : decode cX8_init 84 = .ok (.putfield 39, 3) := by decide +kernel
theorem dX8_init_87 : decode cX8_init 87 = .ok (.aload_n 0, 1) := by decide +kernel
theorem dX8_init_88 : decode cX8_init 88 = .ok (.bipush 7, 2) := by decide +kernel
theorem dX8_init_90 : decode cX8_init 90 = .ok (.newarray .long, 2) := by decide +kernel
theorem dX8_init_92 : decode cX8_init 92 = .ok (.putfield 42, 3) := by decide +kernel
theorem dX8_init_95 : decode cX8_init 95 = .ok (.aload_n 0, 1) := by decide +kernel
theorem dX8_init_96 : decode cX8_init 96 = .ok (.iconst 5, 1) := by decide +kernel
theorem dX8_init_97 : decode cX8_init 97 = .ok (.newarray .int, 2) := by decide +kernel
theorem dX8_init_99 : decode cX8_init 99 = .ok (.putfield 45, 3) := by decide +kernel
theorem dX8_init_102 : decode cX8_init 102 = .ok (.aload_n 0, 1) := by decide +kernel
theorem dX8_init_103 : decode cX8_init 103 = .ok (.iconst 4, 1) := by decide +kernel
theorem dX8_init_104 : decode cX8_init 104 = .ok (.newarray .int, 2) := by decide +kernel
theorem dX8_init_106 : decode cX8_init 106 = .ok (.putfield 48, 3) := by decide +kernel
theorem dX8_init_109 : decode cX8_init 109 = .ok (.aload_n 0, 1) := by decide +kernel
theorem dX8_init_110 : decode cX8_init 110 = .ok (.bipush 16, 2) := by decide +kernel
theorem dX8_init_112 : decode cX8_init 112 = .ok (.newarray .boolean, 2) := by decide +kernel
theorem dX8_init_114 : decode cX8_init 114 = .ok (.putfield 51, 3) := by decide +kernel
theorem dX8_init_117 : decode cX8_init 117 = .ok (.aload_n 0, 1) := by decide +kernel
theorem dX8_init_118 : decode cX8_init 118 = .ok (.bipush 72, 2) := by decide +kernel
theorem dX8_init_120 : decode cX8_init 120 = .ok (.newarray .int, 2) := by decide +kernel
theorem dX8_init_122 : decode cX8_init 122 = .ok (.putfield 54, 3) := by decide +kernel
theorem dX8_init_125 : decode cX8_init 125 = .ok (.aload_n 0, 1) := by decide +kernel
theorem dX8_init_126 : decode cX8_init 126 = .ok (.getfield 13, 3) := by decide +kernel
theorem dX8_init_129 : decode cX8_init 129 = .ok (.iconst 3, 1) := by decide +kernel
theorem dX8_init_130 : decode cX8_init 130 = .ok (.bipush 31, 2) := by decide +kernel
theorem dX8_init_132 : decode cX8_init 132 = .ok (.iastore, 1) := by decide +kernel
theorem dX8_init_133 : decode cX8_init 133 = .ok (.aload_n 0, 1) := by decide +kernel
theorem dX8_init_134 : decode cX8_init 134 = .ok (.getfield 13, 3) := by decide +kernel
theorem dX8_init_137 : decode cX8_init 137 = .ok (.bipush 14, 2) := by decide +kernel
theorem dX8_init_139 : decode cX8_init 139 = .ok (.bipush 16, 2) := by decide +kernel
theorem dX8_init_141 : decode cX8_init 141 = .ok (.iastore, 1) := by decide +kernel
theorem dX8_init_142 : decode cX8_init 142 = .ok (.aload_n 0, 1) := by decide +kernel
theorem dX8_init_143 : decode cX8_init 143 = .ok (.getfield 13, 3) := by decide +kernel
theorem dX8_init_146 : decode cX8_init 146 = .ok (.bipush 15, 2) := by decide +kernel
theorem dX8_init_148 : decode cX8_init 148 = .ok (.bipush 8, 2) := by decide +kernel
theorem dX8_init_150 : decode cX8_init 150 = .ok (.iastore, 1) := by decide +kernel
theorem dX8_init_151 : decode cX8_init 151 = .ok (.aload_n 0, 1) := by decide +kernel
theorem dX8_init_152 : decode cX8_init 152 = .ok (.getfield 13, 3) := by decide +kernel
theorem dX8_init_155 : decode cX8_init 155 = .ok (.bipush 16, 2) := by decide +kernel
theorem dX8_init_157 : decode cX8_init 157 = .ok (.bipush 40, 2) := by decide +kernel
theorem dX8_init_159 : decode cX8_init 159 = .ok (.iastore, 1) := by decide +kernel
theorem dX8_init_160 : decode cX8_init 160 = .ok (.aload_n 0, 1) := by decide +kernel
theorem dX8_init_161 : decode cX8_init 161 = .ok (.getfield 13, 3) := by decide +kernel
theorem dX8_init_164 : decode cX8_init 164 = .ok (.bipush 17, 2) := by decide +kernel
theorem dX8_init_166 : decode cX8_init 166 = .ok (.sipush 4000, 3) := by decide +kernel
theorem dX8_init_169 : decode cX8_init 169 = .ok (.iastore, 1) := by decide +kernel
theorem dX8_init_170 : decode cX8_init 170 = .ok (.aload_n 0, 1) := by decide +kernel
theorem dX8_init_171 : decode cX8_init 171 = .ok (.getfield 13, 3) := by decide +kernel
theorem dX8_init_174 : decode cX8_init 174 = .ok (.bipush 18, 2) := by decide +kernel
theorem dX8_init_176 : decode cX8_init 176 = .ok (.bipush 40, 2) := by decide +kernel
theorem dX8_init_178 : decode cX8_init 178 = .ok (.iastore, 1) := by decide +kernel
theorem dX8_init_179 : decode cX8_init 179 = .ok (.aload_n 0, 1) := by decide +kernel
theorem dX8_init_180 : decode cX8_init 180 = .ok (.getfield 13, 3) := by decide +kernel
theorem dX8_init_183 : decode cX8_init 183 = .ok (.bipush 19, 2) := by decide +kernel
theorem dX8_init_185 : decode cX8_init 185 = .ok (.sipush 1024, 3) := by decide +kernel
theorem dX8_init_188 : decode cX8_init 188 = .ok (.iastore, 1) := by decide +kernel
theorem dX8_init_189 : decode cX8_init 189 = .ok (.aload_n 0, 1) := by decide +kernel
theorem dX8_init_190 : decode cX8_init 190 = .ok (.getfield 13, 3) := by decide +kernel
theorem dX8_init_193 : decode cX8_init 193 = .ok (.bipush 22, 2) := by decide +kernel
theorem dX8_init_195 : decode cX8_init 195 = .ok (.bipush 12, 2) := by decide +kernel
theorem dX8_init_197 : decode cX8_init 197 = .ok (.iastore, 1) := by decide +kernel
theorem dX8_init_198 : decode cX8_init 198 = .ok (.iconst 0, 1) := by decide +kernel
theorem dX8_init_199 : decode cX8_init 199 = .ok (.istore_n 1, 1) := by decide +kernel
theorem dX8_init_200 : decode cX8_init 200 = .ok (.iload_n 1, 1) := by decide +kernel
theorem dX8_init_201 : decode cX8_init 201 = .ok (.bipush 16, 2) := by decide +kernel
theorem dX8_init_203 : decode cX8_init 203 = .ok (.if_icmp .ge 21, 3) := by decide +kernel
theorem dX8_init_206 : decode cX8_init 206 = .ok (.aload_n 0, 1) := by decide +kernel
theorem dX8_init_207 : decode cX8_init 207 = .ok (.getfield 13, 3) := by decide +kernel
theorem dX8_init_210 : decode cX8_init 210 = .ok (.bipush 23, 2) := by decide +kernel
theorem dX8_init_212 : decode cX8_init 212 = .ok (.iload_n 1, 1) := by decide +kernel
theorem dX8_init_213 : decode cX8_init 213 = .ok (.iadd, 1) := by decide +kernel
theorem dX8_init_214 : decode cX8_init 214 = .ok (.iload_n 1, 1) := by decide +kernel
theorem dX8_init_215 : decode cX8_init 215 = .ok (.iconst 4, 1) := by decide +kernel
theorem dX8_init_216 : decode cX8_init 216 = .ok (.irem, 1) := by decide +kernel
theorem dX8_init_217 : decode cX8_init 217 = .ok (.iastore, 1) := by decide +kernel
theorem dX8_init_218 : decode cX8_init 218 = .ok (.iinc 1 1, 3) := by decide +kernel
theorem dX8_init_221 : decode cX8_init 221 = .ok (.goto (-21), 3) := by decide +kernel
theorem dX8_init_224 : decode cX8_init 224 = .ok (.iconst 0, 1) := by decide +kernel
theorem dX8_init_225 : decode cX8_init 225 = .ok (.istore_n 1, 1) := by decide +kernel
theorem dX8_init_226 : decode cX8_init 226 = .ok (.iload_n 1, 1) := by decide +kernel
theorem dX8_init_227 : decode cX8_init 227 = .ok (.iconst 4, 1) := by decide +kernel
theorem dX8_init_228 : decode cX8_init 228 = .ok (.if_icmp .ge 33, 3) := by decide +kernel
theorem dX8_init_231 : decode cX8_init 231 = .ok (.aload_n 0, 1) := by decide +kernel
theorem dX8_init_232 : decode cX8_init 232 = .ok (.getfield 13, 3) := by decide +kernel
theorem dX8_init_235 : decode cX8_init 235 = .ok (.iload_n 1, 1) := by decide +kernel
theorem dX8_init_236 : decode cX8_init 236 = .ok (.invokestatic 57, 3) := by decide +kernel
theorem dX8_init_239 : decode cX8_init 239 = .ok (.iconst 1, 1) := by decide +kernel
theorem dX8_init_240 : decode cX8_init 240 = .ok (.iadd, 1) := by decide +kernel
theorem dX8_init_241 : decode cX8_init 241 = .ok (.iconst 4, 1) := by decide +kernel
theorem dX8_init_242 : decode cX8_init 242 = .ok (.iastore, 1) := by decide +kernel
theorem dX8_init_243 : decode cX8_init 243 = .ok (.aload_n 0, 1) := by decide +kernel
theorem dX8_init_244 : decode cX8_init 244 = .ok (.getfield 13, 3) := by decide +kernel
theorem dX8_init_247 : decode cX8_init 247 = .ok (.iload_n 1, 1) := by decide +kernel
theorem dX8_init_248 : decode cX8_init 248 = .ok (.invokestatic 57, 3) := by decide +kernel
theorem dX8_init_251 : decode cX8_init 251 = .ok (.iconst 2, 1) := by decide +kernel
theorem dX8_init_252 : decode cX8_init 252 = .ok (.iadd, 1) := by decide +kernel
theorem dX8_init_253 : decode cX8_init 253 = .ok (.iconst (-1), 1) := by decide +kernel
theorem dX8_init_254 : decode cX8_init 254 = .ok (.iastore, 1) := by decide +kernel
theorem dX8_init_255 : decode cX8_init 255 = .ok (.iinc 1 1, 3) := by decide +kernel
theorem dX8_init_258 : decode cX8_init 258 = .ok (.goto (-32), 3) := by decide +kernel
theorem dX8_init_261 : decode cX8_init 261 = .ok (.return_, 1) := by decide +kernel
theorem dX8_in_0 : decode cX8_in 0 = .ok (.lload_n 0, 1) := by decide +kernel
theorem dX8_in_1 : decode cX8_in 1 = .ok (.lload_n 2, 1) := by decide +kernel
theorem dX8_in_2 : decode cX8_in 2 = .ok (.lcmp, 1) := by decide +kernel
theorem dX8_in_3 : decode cX8_in 3 = .ok (.ifCond .lt 14, 3) := by decide +kernel
theorem dX8_in_6 : decode cX8_in 6 = .ok (.lload_n 0, 1) := by decide +kernel
theorem dX8_in_7 : decode cX8_in 7 = .ok (.lload 4, 2) := by decide +kernel
theorem dX8_in_9 : decode cX8_in 9 = .ok (.lcmp, 1) := by decide +kernel
theorem dX8_in_10 : decode cX8_in 10 = .ok (.ifCond .gt 7, 3) := by decide +kernel
theorem dX8_in_13 : decode cX8_in 13 = .ok (.iconst 1, 1) := by decide +kernel
theorem dX8_in_14 : decode cX8_in 14 = .ok (.goto 4, 3) := by decide +kernel
theorem dX8_in_17 : decode cX8_in 17 = .ok (.iconst 0, 1) := by decide +kernel
theorem dX8_in_18 : decode cX8_in 18 = .ok (.ireturn, 1) := by decide +kernel
theorem dX8_lesser_0 : decode cX8_lesser 0 = .ok (.iload_n 0, 1) := by decide +kernel
theorem dX8_lesser_1 : decode cX8_lesser 1 = .ok (.iload_n 1, 1) := by decide +kernel
theorem dX8_lesser_2 : decode cX8_lesser 2 = .ok (.if_icmp .ge 7, 3) := by decide +kernel
theorem dX8_lesser_5 : decode cX8_lesser 5 = .ok (.iload_n 0, 1) := by decide +kernel
theorem dX8_lesser_6 : decode cX8_lesser 6 = .ok (.goto 4, 3) := by decide +kernel
theorem dX8_lesser_9 : decode cX8_lesser 9 = .ok (.iload_n 1, 1) := by decide +kernel
theorem dX8_lesser_10 : decode cX8_lesser 10 = .ok (.ireturn, 1) := by decide +kernel
theorem dX8_tell_0 : decode cX8_tell 0 = .ok (.aload_n 0, 1) := by decide +kernel
theorem dX8_tell_1 : decode cX8_tell 1 = .ok (.iconst 0, 1) := by decide +kernel
theorem dX8_tell_2 : decode cX8_tell 2 = .ok (.putfield 65, 3) := by decide +kernel
theorem dX8_tell_5 : decode cX8_tell 5 = .ok (.iload_n 1, 1) := by decide +kernel
theorem dX8_tell_6 : decode cX8_tell 6 = .ok (.ireturn, 1) := by decide +kernel
theorem dX8_refuse_0 : decode cX8_refuse 0 = .ok (.aload_n 0, 1) := by decide +kernel
theorem dX8_refuse_1 : decode cX8_refuse 1 = .ok (.iload_n 1, 1) := by decide +kernel
theorem dX8_refuse_2 : decode cX8_refuse 2 = .ok (.putfield 65, 3) := by decide +kernel
theorem dX8_refuse_5 : decode cX8_refuse 5 = .ok (.aload_n 0, 1) := by decide +kernel
theorem dX8_refuse_6 : decode cX8_refuse 6 = .ok (.getfield 7, 3) := by decide +kernel
theorem dX8_refuse_9 : decode cX8_refuse 9 = .ok (.iload_n 1, 1) := by decide +kernel
theorem dX8_refuse_10 : decode cX8_refuse 10 = .ok (.ineg, 1) := by decide +kernel
theorem dX8_refuse_11 : decode cX8_refuse 11 = .ok (.dup2, 1) := by decide +kernel
theorem dX8_refuse_12 : decode cX8_refuse 12 = .ok (.iaload, 1) := by decide +kernel
theorem dX8_refuse_13 : decode cX8_refuse 13 = .ok (.iconst 1, 1) := by decide +kernel
theorem dX8_refuse_14 : decode cX8_refuse 14 = .ok (.iadd, 1) := by decide +kernel
theorem dX8_refuse_15 : decode cX8_refuse 15 = .ok (.iastore, 1) := by decide +kernel
theorem dX8_refuse_16 : decode cX8_refuse 16 = .ok (.iload_n 1, 1) := by decide +kernel
theorem dX8_refuse_17 : decode cX8_refuse 17 = .ok (.ireturn, 1) := by decide +kernel
theorem dX8_lay_0 : decode cX8_lay 0 = .ok (.iconst 0, 1) := by decide +kernel
theorem dX8_lay_1 : decode cX8_lay 1 = .ok (.istore 4, 2) := by decide +kernel
theorem dX8_lay_3 : decode cX8_lay 3 = .ok (.iload 4, 2) := by decide +kernel
theorem dX8_lay_5 : decode cX8_lay 5 = .ok (.sipush 1065, 3) := by decide +kernel
theorem dX8_lay_8 : decode cX8_lay 8 = .ok (.if_icmp .ge 26, 3) := by decide +kernel
theorem dX8_lay_11 : decode cX8_lay 11 = .ok (.aload_n 1, 1) := by decide +kernel
theorem dX8_lay_12 : decode cX8_lay 12 = .ok (.sipush 1065, 3) := by decide +kernel
theorem dX8_lay_15 : decode cX8_lay 15 = .ok (.iload_n 3, 1) := by decide +kernel
theorem dX8_lay_16 : decode cX8_lay 16 = .ok (.imul, 1) := by decide +kernel
theorem dX8_lay_17 : decode cX8_lay 17 = .ok (.iload 4, 2) := by decide +kernel
theorem dX8_lay_19 : decode cX8_lay 19 = .ok (.iadd, 1) := by decide +kernel
theorem dX8_lay_20 : decode cX8_lay 20 = .ok (.aload_n 0, 1) := by decide +kernel
theorem dX8_lay_21 : decode cX8_lay 21 = .ok (.getfield 13, 3) := by decide +kernel
theorem dX8_lay_24 : decode cX8_lay 24 = .ok (.iload 4, 2) := by decide +kernel
theorem dX8_lay_26 : decode cX8_lay 26 = .ok (.iaload, 1) := by decide +kernel
theorem dX8_lay_27 : decode cX8_lay 27 = .ok (.iastore, 1) := by decide +kernel
theorem dX8_lay_28 : decode cX8_lay 28 = .ok (.iinc 4 1, 3) := by decide +kernel
theorem dX8_lay_31 : decode cX8_lay 31 = .ok (.goto (-28), 3) := by decide +kernel
theorem dX8_lay_34 : decode cX8_lay 34 = .ok (.iconst 0, 1) := by decide +kernel
theorem dX8_lay_35 : decode cX8_lay 35 = .ok (.istore 4, 2) := by decide +kernel
theorem dX8_lay_37 : decode cX8_lay 37 = .ok (.iload 4, 2) := by decide +kernel
theorem dX8_lay_39 : decode cX8_lay 39 = .ok (.bipush 7, 2) := by decide +kernel
theorem dX8_lay_41 : decode cX8_lay 41 = .ok (.if_icmp .ge 25, 3) := by decide +kernel
theorem dX8_lay_44 : decode cX8_lay 44 = .ok (.aload_n 2, 1) := by decide +kernel
theorem dX8_lay_45 : decode cX8_lay 45 = .ok (.bipush 7, 2) := by decide +kernel
theorem dX8_lay_47 : decode cX8_lay 47 = .ok (.iload_n 3, 1) := by decide +kernel
theorem dX8_lay_48 : decode cX8_lay 48 = .ok (.imul, 1) := by decide +kernel
theorem dX8_lay_49 : decode cX8_lay 49 = .ok (.iload 4, 2) := by decide +kernel
theorem dX8_lay_51 : decode cX8_lay 51 = .ok (.iadd, 1) := by decide +kernel
theorem dX8_lay_52 : decode cX8_lay 52 = .ok (.aload_n 0, 1) := by decide +kernel
theorem dX8_lay_53 : decode cX8_lay 53 = .ok (.getfield 16, 3) := by decide +kernel
theorem dX8_lay_56 : decode cX8_lay 56 = .ok (.iload 4, 2) := by decide +kernel
theorem dX8_lay_58 : decode cX8_lay 58 = .ok (.laload, 1) := by decide +kernel
theorem dX8_lay_59 : decode cX8_lay 59 = .ok (.lastore, 1) := by decide +kernel
theorem dX8_lay_60 : decode cX8_lay 60 = .ok (.iinc 4 1, 3) := by decide +kernel
theorem dX8_lay_63 : decode cX8_lay 63 = .ok (.goto (-26), 3) := by decide +kernel
theorem dX8_lay_66 : decode cX8_lay 66 = .ok (.return_, 1) := by decide +kernel
theorem dX8_bring_0 : decode cX8_bring 0 = .ok (.iconst 0, 1) := by decide +kernel
theorem dX8_bring_1 : decode cX8_bring 1 = .ok (.istore 4, 2) := by decide +kernel
theorem dX8_bring_3 : decode cX8_bring 3 = .ok (.iload 4, 2) := by decide +kernel
theorem dX8_bring_5 : decode cX8_bring 5 = .ok (.sipush 1065, 3) := by decide +kernel
theorem dX8_bring_8 : decode cX8_bring 8 = .ok (.if_icmp .ge 26, 3) := by decide +kernel
theorem dX8_bring_11 : decode cX8_bring 11 = .ok (.aload_n 0, 1) := by decide +kernel
theorem dX8_bring_12 : decode cX8_bring 12 = .ok (.getfield 13, 3) := by decide +kernel
theorem dX8_bring_15 : decode cX8_bring 15 = .ok (.iload 4, 2) := by decide +kernel
theorem dX8_bring_17 : decode cX8_bring 17 = .ok (.aload_n 1, 1) := by decide +kernel
theorem dX8_bring_18 : decode cX8_bring 18 = .ok (.sipush 1065, 3) := by decide +kernel
theorem dX8_bring_21 : decode cX8_bring 21 = .ok (.iload_n 3, 1) := by decide +kernel
theorem dX8_bring_22 : decode cX8_bring 22 = .ok (.imul, 1) := by decide +kernel
theorem dX8_bring_23 : decode cX8_bring 23 = .ok (.iload 4, 2) := by decide +kernel
theorem dX8_bring_25 : decode cX8_bring 25 = .ok (.iadd, 1) := by decide +kernel
theorem dX8_bring_26 : decode cX8_bring 26 = .ok (.iaload, 1) := by decide +kernel
theorem dX8_bring_27 : decode cX8_bring 27 = .ok (.iastore, 1) := by decide +kernel
theorem dX8_bring_28 : decode cX8_bring 28 = .ok (.iinc 4 1, 3) := by decide +kernel
theorem dX8_bring_31 : decode cX8_bring 31 = .ok (.goto (-28), 3) := by decide +kernel
theorem dX8_bring_34 : decode cX8_bring 34 = .ok (.iconst 0, 1) := by decide +kernel
theorem dX8_bring_35 : decode cX8_bring 35 = .ok (.istore 4, 2) := by decide +kernel
theorem dX8_bring_37 : decode cX8_bring 37 = .ok (.iload 4, 2) := by decide +kernel
theorem dX8_bring_39 : decode cX8_bring 39 = .ok (.bipush 7, 2) := by decide +kernel
theorem dX8_bring_41 : decode cX8_bring 41 = .ok (.if_icmp .ge 25, 3) := by decide +kernel
theorem dX8_bring_44 : decode cX8_bring 44 = .ok (.aload_n 0, 1) := by decide +kernel
theorem dX8_bring_45 : decode cX8_bring 45 = .ok (.getfield 16, 3) := by decide +kernel
theorem dX8_bring_48 : decode cX8_bring 48 = .ok (.iload 4, 2) := by decide +kernel
theorem dX8_bring_50 : decode cX8_bring 50 = .ok (.aload_n 2, 1) := by decide +kernel
theorem dX8_bring_51 : decode cX8_bring 51 = .ok (.bipush 7, 2) := by decide +kernel
theorem dX8_bring_53 : decode cX8_bring 53 = .ok (.iload_n 3, 1) := by decide +kernel
theorem dX8_bring_54 : decode cX8_bring 54 = .ok (.imul, 1) := by decide +kernel
theorem dX8_bring_55 : decode cX8_bring 55 = .ok (.iload 4, 2) := by decide +kernel
theorem dX8_bring_57 : decode cX8_bring 57 = .ok (.iadd, 1) := by decide +kernel
theorem dX8_bring_58 : decode cX8_bring 58 = .ok (.laload, 1) := by decide +kernel
theorem dX8_bring_59 : decode cX8_bring 59 = .ok (.lastore, 1) := by decide +kernel
theorem dX8_bring_60 : decode cX8_bring 60 = .ok (.iinc 4 1, 3) := by decide +kernel
theorem dX8_bring_63 : decode cX8_bring 63 = .ok (.goto (-26), 3) := by decide +kernel
theorem dX8_bring_66 : decode cX8_bring 66 = .ok (.return_, 1) := by decide +kernel
theorem dX8_remember_0 : decode cX8_remember 0 = .ok (.aload_n 0, 1) := by decide +kernel
theorem dX8_remember_1 : decode cX8_remember 1 = .ok (.getfield 68, 3) := by decide +kernel
theorem dX8_remember_4 : decode cX8_remember 4 = .ok (.bipush 8, 2) := by decide +kernel
theorem dX8_remember_6 : decode cX8_remember 6 = .ok (.if_icmp .ne 101, 3) := by decide +kernel
theorem dX8_remember_9 : decode cX8_remember 9 = .ok (.iconst 0, 1) := by decide +kernel
theorem dX8_remember_10 : decode cX8_remember 10 = .ok (.istore_n 2, 1) := by decide +kernel
theorem dX8_remember_11 : decode cX8_remember 11 = .ok (.iload_n 2, 1) := by decide +kernel
theorem dX8_remember_12 : decode cX8_remember 12 = .ok (.sipush 7455, 3) := by decide +kernel
theorem dX8_remember_15 : decode cX8_remember 15 = .ok (.if_icmp .ge 25, 3) := by decide +kernel
theorem dX8_remember_18 : decode cX8_remember 18 = .ok (.aload_n 0, 1) := by decide +kernel
theorem dX8_remember_19 : decode cX8_remember 19 = .ok (.getfield 20, 3) := by decide +kernel
theorem dX8_remember_22 : decode cX8_remember 22 = .ok (.iload_n 2, 1) := by decide +kernel
theorem dX8_remember_23 : decode cX8_remember 23 = .ok (.aload_n 0, 1) := by decide +kernel
theorem dX8_remember_24 : decode cX8_remember 24 = .ok (.getfield 20, 3) := by decide +kernel
theorem dX8_remember_27 : decode cX8_remember 27 = .ok (.iload_n 2, 1) := by decide +kernel
theorem dX8_remember_28 : decode cX8_remember 28 = .ok (.sipush 1065, 3) := by decide +kernel
theorem dX8_remember_31 : decode cX8_remember 31 = .ok (.iadd, 1) := by decide +kernel
theorem dX8_remember_32 : decode cX8_remember 32 = .ok (.iaload, 1) := by decide +kernel
theorem dX8_remember_33 : decode cX8_remember 33 = .ok (.iastore, 1) := by decide +kernel
theorem dX8_remember_34 : decode cX8_remember 34 = .ok (.iinc 2 1, 3) := by decide +kernel
theorem dX8_remember_37 : decode cX8_remember 37 = .ok (.goto (-26), 3) := by decide +kernel
theorem dX8_remember_40 : decode cX8_remember 40 = .ok (.iconst 0, 1) := by decide +kernel
theorem dX8_remember_41 : decode cX8_remember 41 = .ok (.istore_n 2, 1) := by decide +kernel
theorem dX8_remember_42 : decode cX8_remember 42 = .ok (.iload_n 2, 1) := by decide +kernel
theorem dX8_remember_43 : decode cX8_remember 43 = .ok (.bipush 49, 2) := by decide +kernel
theorem dX8_remember_45 : decode cX8_remember 45 = .ok (.if_icmp .ge 24, 3) := by decide +kernel
theorem dX8_remember_48 : decode cX8_remember 48 = .ok (.aload_n 0, 1) := by decide +kernel
theorem dX8_remember_49 : decode cX8_remember 49 = .ok (.getfield 23, 3) := by decide +kernel
theorem dX8_remember_52 : decode cX8_remember 52 = .ok (.iload_n 2, 1) := by decide +kernel
theorem dX8_remember_53 : decode cX8_remember 53 = .ok (.aload_n 0, 1) := by decide +kernel
theorem dX8_remember_54 : decode cX8_remember 54 = .ok (.getfield 23, 3) := by decide +kernel
theorem dX8_remember_57 : decode cX8_remember 57 = .ok (.iload_n 2, 1) := by decide +kernel
theorem dX8_remember_58 : decode cX8_remember 58 = .ok (.bipush 7, 2) := by decide +kernel
theorem dX8_remember_60 : decode cX8_remember 60 = .ok (.iadd, 1) := by decide +kernel
theorem dX8_remember_61 : decode cX8_remember 61 = .ok (.laload, 1) := by decide +kernel
theorem dX8_remember_62 : decode cX8_remember 62 = .ok (.lastore, 1) := by decide +kernel
theorem dX8_remember_63 : decode cX8_remember 63 = .ok (.iinc 2 1, 3) := by decide +kernel
theorem dX8_remember_66 : decode cX8_remember 66 = .ok (.goto (-24), 3) := by decide +kernel
theorem dX8_remember_69 : decode cX8_remember 69 = .ok (.iconst 0, 1) := by decide +kernel
theorem dX8_remember_70 : decode cX8_remember 70 = .ok (.istore_n 2, 1) := by decide +kernel
theorem dX8_remember_71 : decode cX8_remember 71 = .ok (.iload_n 2, 1) := by decide +kernel
theorem dX8_remember_72 : decode cX8_remember 72 = .ok (.bipush 7, 2) := by decide +kernel
theorem dX8_remember_74 : decode cX8_remember 74 = .ok (.if_icmp .ge 23, 3) := by decide +kernel
theorem dX8_remember_77 : decode cX8_remember 77 = .ok (.aload_n 0, 1) := by decide +kernel
theorem dX8_remember_78 : decode cX8_remember 78 = .ok (.getfield 26, 3) := by decide +kernel
theorem dX8_remember_81 : decode cX8_remember 81 = .ok (.iload_n 2, 1) := by decide +kernel
theorem dX8_remember_82 : decode cX8_remember 82 = .ok (.aload_n 0, 1) := by decide +kernel
theorem dX8_remember_83 : decode cX8_remember 83 = .ok (.getfield 26, 3) := by decide +kernel
theorem dX8_remember_86 : decode cX8_remember 86 = .ok (.iload_n 2, 1) := by decide +kernel
theorem dX8_remember_87 : decode cX8_remember 87 = .ok (.iconst 1, 1) := by decide +kernel
theorem dX8_remember_88 : decode cX8_remember 88 = .ok (.iadd, 1) := by decide +kernel
theorem dX8_remember_89 : decode cX8_remember 89 = .ok (.iaload, 1) := by decide +kernel
theorem dX8_remember_90 : decode cX8_remember 90 = .ok (.iastore, 1) := by decide +kernel
theorem dX8_remember_91 : decode cX8_remember 91 = .ok (.iinc 2 1, 3) := by decide +kernel
theorem dX8_remember_94 : decode cX8_remember 94 = .ok (.goto (-23), 3) := by decide +kernel
theorem dX8_remember_97 : decode cX8_remember 97 = .ok (.aload_n 0, 1) := by decide +kernel
theorem dX8_remember_98 : decode cX8_remember 98 = .ok (.dup, 1) := by decide +kernel
theorem dX8_remember_99 : decode cX8_remember 99 = .ok (.getfield 68, 3) := by decide +kernel
theorem dX8_remember_102 : decode cX8_remember 102 = .ok (.iconst 1, 1) := by decide +kernel
theorem dX8_remember_103 : decode cX8_remember 103 = .ok (.isub, 1) := by decide +kernel
theorem dX8_remember_104 : decode cX8_remember 104 = .ok (.putfield 68, 3) := by decide +kernel
theorem dX8_remember_107 : decode cX8_remember 107 = .ok (.aload_n 0, 1) := by decide +kernel
theorem dX8_remember_108 : decode cX8_remember 108 = .ok (.aload_n 0, 1) := by decide +kernel
theorem dX8_remember_109 : decode cX8_remember 109 = .ok (.getfield 20, 3) := by decide +kernel
theorem dX8_remember_112 : decode cX8_remember 112 = .ok (.aload_n 0, 1) := by decide +kernel
theorem dX8_remember_113 : decode cX8_remember 113 = .ok (.getfield 23, 3) := by decide +kernel
theorem dX8_remember_116 : decode cX8_remember 116 = .ok (.aload_n 0, 1) := by decide +kernel
theorem dX8_remember_117 : decode cX8_remember 117 = .ok (.getfield 68, 3) := by decide +kernel
theorem dX8_remember_120 : decode cX8_remember 120 = .ok (.invokevirtual 71, 3) := by decide +kernel
theorem dX8_remember_123 : decode cX8_remember 123 = .ok (.aload_n 0, 1) := by decide +kernel
theorem dX8_remember_124 : decode cX8_remember 124 = .ok (.getfield 26, 3) := by decide +kernel
theorem dX8_remember_127 : decode cX8_remember 127 = .ok (.aload_n 0, 1) := by decide +kernel
theorem dX8_remember_128 : decode cX8_remember 128 = .ok (.getfield 68, 3) := by decide +kernel
theorem dX8_remember_131 : decode cX8_remember 131 = .ok (.iload_n 1, 1) := by decide +kernel
theorem dX8_remember_132 : decode cX8_remember 132 = .ok (.iastore, 1) := by decide +kernel
theorem dX8_remember_133 : decode cX8_remember 133 = .ok (.aload_n 0, 1) := by decide +kernel
theorem dX8_remember_134 : decode cX8_remember 134 = .ok (.dup, 1) := by decide +kernel
theorem dX8_remember_135 : decode cX8_remember 135 = .ok (.getfield 68, 3) := by decide +kernel
theorem dX8_remember_138 : decode cX8_remember 138 = .ok (.iconst 1, 1) := by decide +kernel
theorem dX8_remember_139 : decode cX8_remember 139 = .ok (.iadd, 1) := by decide +kernel
theorem dX8_remember_140 : decode cX8_remember 140 = .ok (.putfield 68, 3) := by decide +kernel
theorem dX8_remember_143 : decode cX8_remember 143 = .ok (.return_, 1) := by decide +kernel
theorem dX8_undo_0 : decode cX8_undo 0 = .ok (.aload_n 0, 1) := by decide +kernel
theorem dX8_undo_1 : decode cX8_undo 1 = .ok (.iconst 0, 1) := by decide +kernel
theorem dX8_undo_2 : decode cX8_undo 2 = .ok (.putfield 61, 3) := by decide +kernel
theorem dX8_undo_5 : decode cX8_undo 5 = .ok (.aload_n 0, 1) := by decide +kernel
theorem dX8_undo_6 : decode cX8_undo 6 = .ok (.getfield 68, 3) := by decide +kernel
theorem dX8_undo_9 : decode cX8_undo 9 = .ok (.ifCond .ne 10, 3) := by decide +kernel
theorem dX8_undo_12 : decode cX8_undo 12 = .ok (.aload_n 0, 1) := by decide +kernel
theorem dX8_undo_13 : decode cX8_undo 13 = .ok (.bipush (-4), 2) := by decide +kernel
theorem dX8_undo_15 : decode cX8_undo 15 = .ok (.invokevirtual 75, 3) := by decide +kernel
theorem dX8_undo_18 : decode cX8_undo 18 = .ok (.ireturn, 1) := by decide +kernel
theorem dX8_undo_19 : decode cX8_undo 19 = .ok (.aload_n 0, 1) := by decide +kernel
theorem dX8_undo_20 : decode cX8_undo 20 = .ok (.dup, 1) := by decide +kernel
theorem dX8_undo_21 : decode cX8_undo 21 = .ok (.getfield 68, 3) := by decide +kernel
theorem dX8_undo_24 : decode cX8_undo 24 = .ok (.iconst 1, 1) := by decide +kernel
theorem dX8_undo_25 : decode cX8_undo 25 = .ok (.isub, 1) := by decide +kernel
theorem dX8_undo_26 : decode cX8_undo 26 = .ok (.putfield 68, 3) := by decide +kernel
theorem dX8_undo_29 : decode cX8_undo 29 = .ok (.aload_n 0, 1) := by decide +kernel
theorem dX8_undo_30 : decode cX8_undo 30 = .ok (.aload_n 0, 1) := by decide +kernel
theorem dX8_undo_31 : decode cX8_undo 31 = .ok (.getfield 20, 3) := by decide +kernel
theorem dX8_undo_34 : decode cX8_undo 34 = .ok (.aload_n 0, 1) := by decide +kernel
theorem dX8_undo_35 : decode cX8_undo 35 = .ok (.getfield 23, 3) := by decide +kernel
theorem dX8_undo_38 : decode cX8_undo 38 = .ok (.aload_n 0, 1) := by decide +kernel
theorem dX8_undo_39 : decode cX8_undo 39 = .ok (.getfield 68, 3) := by decide +kernel
theorem dX8_undo_42 : decode cX8_undo 42 = .ok (.invokevirtual 78, 3) := by decide +kernel
theorem dX8_undo_45 : decode cX8_undo 45 = .ok (.aload_n 0, 1) := by decide +kernel
theorem dX8_undo_46 : decode cX8_undo 46 = .ok (.aload_n 0, 1) := by decide +kernel
theorem dX8_undo_47 : decode cX8_undo 47 = .ok (.getfield 26, 3) := by decide +kernel
theorem dX8_undo_50 : decode cX8_undo 50 = .ok (.aload_n 0, 1) := by decide +kernel
theorem dX8_undo_51 : decode cX8_undo 51 = .ok (.getfield 68, 3) := by decide +kernel
theorem dX8_undo_54 : decode cX8_undo 54 = .ok (.iaload, 1) := by decide +kernel
theorem dX8_undo_55 : decode cX8_undo 55 = .ok (.invokevirtual 81, 3) := by decide +kernel
theorem dX8_undo_58 : decode cX8_undo 58 = .ok (.ireturn, 1) := by decide +kernel
theorem dX8_image_0 : decode cX8_image 0 = .ok (.aload_n 0, 1) := by decide +kernel
theorem dX8_image_1 : decode cX8_image 1 = .ok (.iconst 0, 1) := by decide +kernel
theorem dX8_image_2 : decode cX8_image 2 = .ok (.putfield 61, 3) := by decide +kernel
theorem dX8_image_5 : decode cX8_image 5 = .ok (.iload_n 1, 1) := by decide +kernel
theorem dX8_image_6 : decode cX8_image 6 = .ok (.i2l, 1) := by decide +kernel
theorem dX8_image_7 : decode cX8_image 7 = .ok (.lconst 0, 1) := by decide +kernel
theorem dX8_image_8 : decode cX8_image 8 = .ok (.lconst 1, 1) := by decide +kernel
theorem dX8_image_9 : decode cX8_image 9 = .ok (.invokestatic 84, 3) := by decide +kernel
theorem dX8_image_12 : decode cX8_image 12 = .ok (.ifCond .ne 9, 3) := by decide +kernel
theorem dX8_image_15 : decode cX8_image 15 = .ok (.aload_n 0, 1) := by decide +kernel
theorem dX8_image_16 : decode cX8_image 16 = .ok (.iconst (-1), 1) := by decide +kernel
theorem dX8_image_17 : decode cX8_image 17 = .ok (.invokevirtual 75, 3) := by decide +kernel
theorem dX8_image_20 : decode cX8_image 20 = .ok (.ireturn, 1) := by decide +kernel
theorem dX8_image_21 : decode cX8_image 21 = .ok (.aload_n 0, 1) := by decide +kernel
theorem dX8_image_22 : decode cX8_image 22 = .ok (.aload_n 0, 1) := by decide +kernel
theorem dX8_image_23 : decode cX8_image 23 = .ok (.getfield 29, 3) := by decide +kernel
theorem dX8_image_26 : decode cX8_image 26 = .ok (.aload_n 0, 1) := by decide +kernel
theorem dX8_image_27 : decode cX8_image 27 = .ok (.getfield 32, 3) := by decide +kernel
theorem dX8_image_30 : decode cX8_image 30 = .ok (.iload_n 1, 1) := by decide +kernel
theorem dX8_image_31 : decode cX8_image 31 = .ok (.invokevirtual 71, 3) := by decide +kernel
theorem dX8_image_34 : decode cX8_image 34 = .ok (.aload_n 0, 1) := by decide +kernel
theorem dX8_image_35 : decode cX8_image 35 = .ok (.getfield 35, 3) := by decide +kernel
theorem dX8_image_38 : decode cX8_image 38 = .ok (.iload_n 1, 1) := by decide +kernel
theorem dX8_image_39 : decode cX8_image 39 = .ok (.iconst 1, 1) := by decide +kernel
theorem dX8_image_40 : decode cX8_image 40 = .ok (.bastore, 1) := by decide +kernel
theorem dX8_image_41 : decode cX8_image 41 = .ok (.aload_n 0, 1) := by decide +kernel
theorem dX8_image_42 : decode cX8_image 42 = .ok (.aload_n 0, 1) := by decide +kernel
theorem dX8_image_43 : decode cX8_image 43 = .ok (.getfield 13, 3) := by decide +kernel
theorem dX8_image_46 : decode cX8_image 46 = .ok (.bipush 6, 2) := by decide +kernel
theorem dX8_image_48 : decode cX8_image 48 = .ok (.iaload, 1) := by decide +kernel
theorem dX8_image_49 : decode cX8_image 49 = .ok (.invokevirtual 81, 3) := by decide +kernel
theorem dX8_image_52 : decode cX8_image 52 = .ok (.ireturn, 1) := by decide +kernel
theorem dX8_back_0 : decode cX8_back 0 = .ok (.aload_n 0, 1) := by decide +kernel
theorem dX8_back_1 : decode cX8_back 1 = .ok (.iconst 0, 1) := by decide +kernel
theorem dX8_back_2 : decode cX8_back 2 = .ok (.putfield 61, 3) := by decide +kernel
theorem dX8_back_5 : decode cX8_back 5 = .ok (.iload_n 1, 1) := by decide +kernel
theorem dX8_back_6 : decode cX8_back 6 = .ok (.i2l, 1) := by decide +kernel
theorem dX8_back_7 : decode cX8_back 7 = .ok (.lconst 0, 1) := by decide +kernel
theorem dX8_back_8 : decode cX8_back 8 = .ok (.lconst 1, 1) := by decide +kernel
theorem dX8_back_9 : decode cX8_back 9 = .ok (.invokestatic 84, 3) := by decide +kernel
theorem dX8_back_12 : decode cX8_back 12 = .ok (.ifCond .ne 9, 3) := by decide +kernel
theorem dX8_back_15 : decode cX8_back 15 = .ok (.aload_n 0, 1) := by decide +kernel
theorem dX8_back_16 : decode cX8_back 16 = .ok (.iconst (-1), 1) := by decide +kernel
theorem dX8_back_17 : decode cX8_back 17 = .ok (.invokevirtual 75, 3) := by decide +kernel
theorem dX8_back_20 : decode cX8_back 20 = .ok (.ireturn, 1) := by decide +kernel
theorem dX8_back_21 : decode cX8_back 21 = .ok (.aload_n 0, 1) := by decide +kernel
theorem dX8_back_22 : decode cX8_back 22 = .ok (.getfield 35, 3) := by decide +kernel
theorem dX8_back_25 : decode cX8_back 25 = .ok (.iload_n 1, 1) := by decide +kernel
theorem dX8_back_26 : decode cX8_back 26 = .ok (.baload, 1) := by decide +kernel
theorem dX8_back_27 : decode cX8_back 27 = .ok (.ifCond .ne 10, 3) := by decide +kernel
theorem dX8_back_30 : decode cX8_back 30 = .ok (.aload_n 0, 1) := by decide +kernel
theorem dX8_back_31 : decode cX8_back 31 = .ok (.bipush (-4), 2) := by decide +kernel
theorem dX8_back_33 : decode cX8_back 33 = .ok (.invokevirtual 75, 3) := by decide +kernel
theorem dX8_back_36 : decode cX8_back 36 = .ok (.ireturn, 1) := by decide +kernel
theorem dX8_back_37 : decode cX8_back 37 = .ok (.aload_n 0, 1) := by decide +kernel
theorem dX8_back_38 : decode cX8_back 38 = .ok (.aload_n 0, 1) := by decide +kernel
theorem dX8_back_39 : decode cX8_back 39 = .ok (.getfield 29, 3) := by decide +kernel
theorem dX8_back_42 : decode cX8_back 42 = .ok (.aload_n 0, 1) := by decide +kernel
theorem dX8_back_43 : decode cX8_back 43 = .ok (.getfield 32, 3) := by decide +kernel
theorem dX8_back_46 : decode cX8_back 46 = .ok (.iload_n 1, 1) := by decide +kernel
theorem dX8_back_47 : decode cX8_back 47 = .ok (.invokevirtual 78, 3) := by decide +kernel
theorem dX8_back_50 : decode cX8_back 50 = .ok (.aload_n 0, 1) := by decide +kernel
theorem dX8_back_51 : decode cX8_back 51 = .ok (.iconst 0, 1) := by decide +kernel
theorem dX8_back_52 : decode cX8_back 52 = .ok (.putfield 68, 3) := by decide +kernel
theorem dX8_back_55 : decode cX8_back 55 = .ok (.aload_n 0, 1) := by decide +kernel
theorem dX8_back_56 : decode cX8_back 56 = .ok (.aload_n 0, 1) := by decide +kernel
theorem dX8_back_57 : decode cX8_back 57 = .ok (.getfield 13, 3) := by decide +kernel
theorem dX8_back_60 : decode cX8_back 60 = .ok (.bipush 6, 2) := by decide +kernel
theorem dX8_back_62 : decode cX8_back 62 = .ok (.iaload, 1) := by decide +kernel
theorem dX8_back_63 : decode cX8_back 63 = .ok (.invokevirtual 81, 3) := by decide +kernel
theorem dX8_back_66 : decode cX8_back 66 = .ok (.ireturn, 1) := by decide +kernel
theorem dX8_flowAt_0 : decode cX8_flowAt 0 = .ok (.bipush 73, 2) := by decide +kernel
theorem dX8_flowAt_2 : decode cX8_flowAt 2 = .ok (.bipush 15, 2) := by decide +kernel
theorem dX8_flowAt_4 : decode cX8_flowAt 4 = .ok (.iload_n 0, 1) := by decide +kernel
theorem dX8_flowAt_5 : decode cX8_flowAt 5 = .ok (.imul, 1) := by decide +kernel
theorem dX8_flowAt_6 : decode cX8_flowAt 6 = .ok (.iadd, 1) := by decide +kernel
theorem dX8_flowAt_7 : decode cX8_flowAt 7 = .ok (.ireturn, 1) := by decide +kernel
theorem dX8_queueAt_0 : decode cX8_queueAt 0 = .ok (.sipush 433, 3) := by decide +kernel
theorem dX8_queueAt_3 : decode cX8_queueAt 3 = .ok (.sipush 140, 3) := by decide +kernel
theorem dX8_queueAt_6 : decode cX8_queueAt 6 = .ok (.iload_n 0, 1) := by decide +kernel
theorem dX8_queueAt_7 : decode cX8_queueAt 7 = .ok (.imul, 1) := by decide +kernel
theorem dX8_queueAt_8 : decode cX8_queueAt 8 = .ok (.iadd, 1) := by decide +kernel
theorem dX8_queueAt_9 : decode cX8_queueAt 9 = .ok (.ireturn, 1) := by decide +kernel
theorem dX8_ruleAt_0 : decode cX8_ruleAt 0 = .ok (.bipush 55, 2) := by decide +kernel
theorem dX8_ruleAt_2 : decode cX8_ruleAt 2 = .ok (.iconst 3, 1) := by decide +kernel
theorem dX8_ruleAt_3 : decode cX8_ruleAt 3 = .ok (.iload_n 0, 1) := by decide +kernel
theorem dX8_ruleAt_4 : decode cX8_ruleAt 4 = .ok (.imul, 1) := by decide +kernel
theorem dX8_ruleAt_5 : decode cX8_ruleAt 5 = .ok (.iadd, 1) := by decide +kernel
theorem dX8_ruleAt_6 : decode cX8_ruleAt 6 = .ok (.ireturn, 1) := by decide +kernel
theorem dX8_packetAt_0 : decode cX8_packetAt 0 = .ok (.iload_n 0, 1) := by decide +kernel
theorem dX8_packetAt_1 : decode cX8_packetAt 1 = .ok (.invokestatic 57, 3) := by decide +kernel
theorem dX8_packetAt_4 : decode cX8_packetAt 4 = .ok (.bipush 8, 2) := by decide +kernel
theorem dX8_packetAt_6 : decode cX8_packetAt 6 = .ok (.iadd, 1) := by decide +kernel
theorem dX8_packetAt_7 : decode cX8_packetAt 7 = .ok (.iconst 4, 1) := by decide +kernel
theorem dX8_packetAt_8 : decode cX8_packetAt 8 = .ok (.iload_n 1, 1) := by decide +kernel
theorem dX8_packetAt_9 : decode cX8_packetAt 9 = .ok (.imul, 1) := by decide +kernel
theorem dX8_packetAt_10 : decode cX8_packetAt 10 = .ok (.iadd, 1) := by decide +kernel
theorem dX8_packetAt_11 : decode cX8_packetAt 11 = .ok (.ireturn, 1) := by decide +kernel
theorem dX8_isFlow_0 : decode cX8_isFlow 0 = .ok (.iload_n 1, 1) := by decide +kernel
theorem dX8_isFlow_1 : decode cX8_isFlow 1 = .ok (.i2l, 1) := by decide +kernel
theorem dX8_isFlow_2 : decode cX8_isFlow 2 = .ok (.lconst 0, 1) := by decide +kernel
theorem dX8_isFlow_3 : decode cX8_isFlow 3 = .ok (.aload_n 0, 1) := by decide +kernel
theorem dX8_isFlow_4 : decode cX8_isFlow 4 = .ok (.getfield 13, 3) := by decide +kernel
theorem dX8_isFlow_7 : decode cX8_isFlow 7 = .ok (.iconst 4, 1) := by decide +kernel
theorem dX8_isFlow_8 : decode cX8_isFlow 8 = .ok (.iaload, 1) := by decide +kernel
theorem dX8_isFlow_9 : decode cX8_isFlow 9 = .ok (.i2l, 1) := by decide +kernel
theorem dX8_isFlow_10 : decode cX8_isFlow 10 = .ok (.lconst 1, 1) := by decide +kernel
theorem dX8_isFlow_11 : decode cX8_isFlow 11 = .ok (.lsub, 1) := by decide +kernel
theorem dX8_isFlow_12 : decode cX8_isFlow 12 = .ok (.invokestatic 84, 3) := by decide +kernel
theorem dX8_isFlow_15 : decode cX8_isFlow 15 = .ok (.ireturn, 1) := by decide +kernel
theorem dX8_isQueue_0 : decode cX8_isQueue 0 = .ok (.iload_n 0, 1) := by decide +kernel
theorem dX8_isQueue_1 : decode cX8_isQueue 1 = .ok (.i2l, 1) := by decide +kernel
theorem dX8_isQueue_2 : decode cX8_isQueue 2 = .ok (.lconst 0, 1) := by decide +kernel
theorem dX8_isQueue_3 : decode cX8_isQueue 3 = .ok (.ldc2_w 88, 3) := by decide +kernel
theorem dX8_isQueue_6 : decode cX8_isQueue 6 = .ok (.invokestatic 84, 3) := by decide +kernel
theorem dX8_isQueue_9 : decode cX8_isQueue 9 = .ok (.ireturn, 1) := by decide +kernel
theorem dX8_keyBit_0 : decode cX8_keyBit 0 = .ok (.iload_n 1, 1) := by decide +kernel
theorem dX8_keyBit_1 : decode cX8_keyBit 1 = .ok (.bipush 32, 2) := by decide +kernel
theorem dX8_keyBit_3 : decode cX8_keyBit 3 = .ok (.if_icmp .ge 19, 3) := by decide +kernel
theorem dX8_keyBit_6 : decode cX8_keyBit 6 = .ok (.aload_n 0, 1) := by decide +kernel
theorem dX8_keyBit_7 : decode cX8_keyBit 7 = .ok (.getfield 13, 3) := by decide +kernel
theorem dX8_keyBit_10 : decode cX8_keyBit 10 = .ok (.iconst 0, 1) := by decide +kernel
theorem dX8_keyBit_11 : decode cX8_keyBit 11 = .ok (.iaload, 1) := by decide +kernel
theorem dX8_keyBit_12 : decode cX8_keyBit 12 = .ok (.bipush 31, 2) := by decide +kernel
theorem dX8_keyBit_14 : decode cX8_keyBit 14 = .ok (.iload_n 1, 1) := by decide +kernel
theorem dX8_keyBit_15 : decode cX8_keyBit 15 = .ok (.isub, 1) := by decide +kernel
theorem dX8_keyBit_16 : decode cX8_keyBit 16 = .ok (.iushr, 1) := by decide +kernel
theorem dX8_keyBit_17 : decode cX8_keyBit 17 = .ok (.iconst 1, 1) := by decide +kernel
theorem dX8_keyBit_18 : decode cX8_keyBit 18 = .ok (.iand, 1) := by decide +kernel
theorem dX8_keyBit_19 : decode cX8_keyBit 19 = .ok (.goto 48, 3) := by decide +kernel
theorem dX8_keyBit_22 : decode cX8_keyBit 22 = .ok (.iload_n 1, 1) := by decide +kernel
theorem dX8_keyBit_23 : decode cX8_keyBit 23 = .ok (.bipush 64, 2) := by decide +kernel
theorem dX8_keyBit_25 : decode cX8_keyBit 25 = .ok (.if_icmp .ge 19, 3) := by decide +kernel
theorem dX8_keyBit_28 : decode cX8_keyBit 28 = .ok (.aload_n 0, 1) := by decide +kernel
theorem dX8_keyBit_29 : decode cX8_keyBit 29 = .ok (.getfield 13, 3) := by decide +kernel
theorem dX8_keyBit_32 : decode cX8_keyBit 32 = .ok (.iconst 1, 1) := by decide +kernel
theorem dX8_keyBit_33 : decode cX8_keyBit 33 = .ok (.iaload, 1) := by decide +kernel
theorem dX8_keyBit_34 : decode cX8_keyBit 34 = .ok (.bipush 63, 2) := by decide +kernel
theorem dX8_keyBit_36 : decode cX8_keyBit 36 = .ok (.iload_n 1, 1) := by decide +kernel
theorem dX8_keyBit_37 : decode cX8_keyBit 37 = .ok (.isub, 1) := by decide +kernel
theorem dX8_keyBit_38 : decode cX8_keyBit 38 = .ok (.iushr, 1) := by decide +kernel
theorem dX8_keyBit_39 : decode cX8_keyBit 39 = .ok (.iconst 1, 1) := by decide +kernel
theorem dX8_keyBit_40 : decode cX8_keyBit 40 = .ok (.iand, 1) := by decide +kernel
theorem dX8_keyBit_41 : decode cX8_keyBit 41 = .ok (.goto 26, 3) := by decide +kernel
theorem dX8_keyBit_44 : decode cX8_keyBit 44 = .ok (.iload_n 1, 1) := by decide +kernel
theorem dX8_keyBit_45 : decode cX8_keyBit 45 = .ok (.bipush 72, 2) := by decide +kernel
theorem dX8_keyBit_47 : decode cX8_keyBit 47 = .ok (.if_icmp .ge 19, 3) := by decide +kernel
theorem dX8_keyBit_50 : decode cX8_keyBit 50 = .ok (.aload_n 0, 1) := by decide +kernel
theorem dX8_keyBit_51 : decode cX8_keyBit 51 = .ok (.getfield 13, 3) := by decide +kernel
theorem dX8_keyBit_54 : decode cX8_keyBit 54 = .ok (.iconst 2, 1) := by decide +kernel
theorem dX8_keyBit_55 : decode cX8_keyBit 55 = .ok (.iaload, 1) := by decide +kernel
theorem dX8_keyBit_56 : decode cX8_keyBit 56 = .ok (.bipush 71, 2) := by decide +kernel
theorem dX8_keyBit_58 : decode cX8_keyBit 58 = .ok (.iload_n 1, 1) := by decide +kernel
theorem dX8_keyBit_59 : decode cX8_keyBit 59 = .ok (.isub, 1) := by decide +kernel
theorem dX8_keyBit_60 : decode cX8_keyBit 60 = .ok (.iushr, 1) := by decide +kernel
theorem dX8_keyBit_61 : decode cX8_keyBit 61 = .ok (.iconst 1, 1) := by decide +kernel
theorem dX8_keyBit_62 : decode cX8_keyBit 62 = .ok (.iand, 1) := by decide +kernel
theorem dX8_keyBit_63 : decode cX8_keyBit 63 = .ok (.goto 4, 3) := by decide +kernel
theorem dX8_keyBit_66 : decode cX8_keyBit 66 = .ok (.iconst 0, 1) := by decide +kernel
theorem dX8_keyBit_67 : decode cX8_keyBit 67 = .ok (.ireturn, 1) := by decide +kernel
theorem dX8_windowAt_0 : decode cX8_windowAt 0 = .ok (.iconst 0, 1) := by decide +kernel
theorem dX8_windowAt_1 : decode cX8_windowAt 1 = .ok (.istore_n 2, 1) := by decide +kernel
theorem dX8_windowAt_2 : decode cX8_windowAt 2 = .ok (.iconst 0, 1) := by decide +kernel
theorem dX8_windowAt_3 : decode cX8_windowAt 3 = .ok (.istore_n 3, 1) := by decide +kernel
theorem dX8_windowAt_4 : decode cX8_windowAt 4 = .ok (.iload_n 3, 1) := by decide +kernel
theorem dX8_windowAt_5 : decode cX8_windowAt 5 = .ok (.bipush 32, 2) := by decide +kernel
theorem dX8_windowAt_7 : decode cX8_windowAt 7 = .ok (.if_icmp .ge 21, 3) := by decide +kernel
theorem dX8_windowAt_10 : decode cX8_windowAt 10 = .ok (.iload_n 2, 1) := by decide +kernel
theorem dX8_windowAt_11 : decode cX8_windowAt 11 = .ok (.iconst 1, 1) := by decide +kernel
theorem dX8_windowAt_12 : decode cX8_windowAt 12 = .ok (.ishl, 1) := by decide +kernel
theorem dX8_windowAt_13 : decode cX8_windowAt 13 = .ok (.aload_n 0, 1) := by decide +kernel
theorem dX8_windowAt_14 : decode cX8_windowAt 14 = .ok (.iload_n 1, 1) := by decide +kernel
theorem dX8_windowAt_15 : decode cX8_windowAt 15 = .ok (.iload_n 3, 1) := by decide +kernel
theorem dX8_windowAt_16 : decode cX8_windowAt 16 = .ok (.iadd, 1) := by decide +kernel
theorem dX8_windowAt_17 : decode cX8_windowAt 17 = .ok (.invokevirtual 90, 3) := by decide +kernel
theorem dX8_windowAt_20 : decode cX8_windowAt 20 = .ok (.ior, 1) := by decide +kernel
theorem dX8_windowAt_21 : decode cX8_windowAt 21 = .ok (.istore_n 2, 1) := by decide +kernel
theorem dX8_windowAt_22 : decode cX8_windowAt 22 = .ok (.iinc 3 1, 3) := by decide +kernel
theorem dX8_windowAt_25 : decode cX8_windowAt 25 = .ok (.goto (-21), 3) := by decide +kernel
theorem dX8_windowAt_28 : decode cX8_windowAt 28 = .ok (.iload_n 2, 1) := by decide +kernel
theorem dX8_windowAt_29 : decode cX8_windowAt 29 = .ok (.ireturn, 1) := by decide +kernel
theorem dX8_hashNow_0 : decode cX8_hashNow 0 = .ok (.iconst 0, 1) := by decide +kernel
theorem dX8_hashNow_1 : decode cX8_hashNow 1 = .ok (.istore_n 1, 1) := by decide +kernel
theorem dX8_hashNow_2 : decode cX8_hashNow 2 = .ok (.iconst 0, 1) := by decide +kernel
theorem dX8_hashNow_3 : decode cX8_hashNow 3 = .ok (.istore_n 2, 1) := by decide +kernel
theorem dX8_hashNow_4 : decode cX8_hashNow 4 = .ok (.iload_n 2, 1) := by decide +kernel
theorem dX8_hashNow_5 : decode cX8_hashNow 5 = .ok (.bipush 40, 2) := by decide +kernel
theorem dX8_hashNow_7 : decode cX8_hashNow 7 = .ok (.if_icmp .ge 71, 3) := by decide +kernel
theorem dX8_hashNow_10 : decode cX8_hashNow 10 = .ok (.aload_n 0, 1) := by decide +kernel
theorem dX8_hashNow_11 : decode cX8_hashNow 11 = .ok (.getfield 13, 3) := by decide +kernel
theorem dX8_hashNow_14 : decode cX8_hashNow 14 = .ok (.iconst 3, 1) := by decide +kernel
theorem dX8_hashNow_15 : decode cX8_hashNow 15 = .ok (.iaload, 1) := by decide +kernel
theorem dX8_hashNow_16 : decode cX8_hashNow 16 = .ok (.iload_n 2, 1) := by decide +kernel
theorem dX8_hashNow_17 : decode cX8_hashNow 17 = .ok (.bipush 8, 2) := by decide +kernel
theorem dX8_hashNow_19 : decode cX8_hashNow 19 = .ok (.idiv, 1) := by decide +kernel
theorem dX8_hashNow_20 : decode cX8_hashNow 20 = .ok (.ishr, 1) := by decide +kernel
theorem dX8_hashNow_21 : decode cX8_hashNow 21 = .ok (.iconst 1, 1) := by decide +kernel
theorem dX8_hashNow_22 : decode cX8_hashNow 22 = .ok (.iand, 1) := by decide +kernel
theorem dX8_hashNow_23 : decode cX8_hashNow 23 = .ok (.iconst 1, 1) := by decide +kernel
theorem dX8_hashNow_24 : decode cX8_hashNow 24 = .ok (.if_icmp .ne 30, 3) := by decide +kernel
theorem dX8_hashNow_27 : decode cX8_hashNow 27 = .ok (.aload_n 0, 1) := by decide +kernel
theorem dX8_hashNow_28 : decode cX8_hashNow 28 = .ok (.getfield 45, 3) := by decide +kernel
theorem dX8_hashNow_31 : decode cX8_hashNow 31 = .ok (.iload_n 2, 1) := by decide +kernel
theorem dX8_hashNow_32 : decode cX8_hashNow 32 = .ok (.bipush 8, 2) := by decide +kernel
theorem dX8_hashNow_34 : decode cX8_hashNow 34 = .ok (.idiv, 1) := by decide +kernel
theorem dX8_hashNow_35 : decode cX8_hashNow 35 = .ok (.iaload, 1) := by decide +kernel
theorem dX8_hashNow_36 : decode cX8_hashNow 36 = .ok (.bipush 7, 2) := by decide +kernel
theorem dX8_hashNow_38 : decode cX8_hashNow 38 = .ok (.iload_n 2, 1) := by decide +kernel
theorem dX8_hashNow_39 : decode cX8_hashNow 39 = .ok (.bipush 8, 2) := by decide +kernel
theorem dX8_hashNow_41 : decode cX8_hashNow 41 = .ok (.irem, 1) := by decide +kernel
theorem dX8_hashNow_42 : decode cX8_hashNow 42 = .ok (.isub, 1) := by decide +kernel
theorem dX8_hashNow_43 : decode cX8_hashNow 43 = .ok (.iushr, 1) := by decide +kernel
theorem dX8_hashNow_44 : decode cX8_hashNow 44 = .ok (.iconst 1, 1) := by decide +kernel
theorem dX8_hashNow_45 : decode cX8_hashNow 45 = .ok (.iand, 1) := by decide +kernel
theorem dX8_hashNow_46 : decode cX8_hashNow 46 = .ok (.iconst 1, 1) := by decide +kernel
theorem dX8_hashNow_47 : decode cX8_hashNow 47 = .ok (.if_icmp .ne 7, 3) := by decide +kernel
theorem dX8_hashNow_50 : decode cX8_hashNow 50 = .ok (.iconst 1, 1) := by decide +kernel
theorem dX8_hashNow_51 : decode cX8_hashNow 51 = .ok (.goto 4, 3) := by decide +kernel
theorem dX8_hashNow_54 : decode cX8_hashNow 54 = .ok (.iconst 0, 1) := by decide +kernel
theorem dX8_hashNow_55 : decode cX8_hashNow 55 = .ok (.istore_n 3, 1) := by decide +kernel
theorem dX8_hashNow_56 : decode cX8_hashNow 56 = .ok (.iload_n 1, 1) := by decide +kernel
theorem dX8_hashNow_57 : decode cX8_hashNow 57 = .ok (.iload_n 3, 1) := by decide +kernel
theorem dX8_hashNow_58 : decode cX8_hashNow 58 = .ok (.ifCond .eq 11, 3) := by decide +kernel
theorem dX8_hashNow_61 : decode cX8_hashNow 61 = .ok (.aload_n 0, 1) := by decide +kernel
theorem dX8_hashNow_62 : decode cX8_hashNow 62 = .ok (.iload_n 2, 1) := by decide +kernel
theorem dX8_hashNow_63 : decode cX8_hashNow 63 = .ok (.invokevirtual 93, 3) := by decide +kernel
theorem dX8_hashNow_66 : decode cX8_hashNow 66 = .ok (.goto 4, 3) := by decide +kernel
theorem dX8_hashNow_69 : decode cX8_hashNow 69 = .ok (.iconst 0, 1) := by decide +kernel
theorem dX8_hashNow_70 : decode cX8_hashNow 70 = .ok (.ixor, 1) := by decide +kernel
theorem dX8_hashNow_71 : decode cX8_hashNow 71 = .ok (.istore_n 1, 1) := by decide +kernel
theorem dX8_hashNow_72 : decode cX8_hashNow 72 = .ok (.iinc 2 1, 3) := by decide +kernel
theorem dX8_hashNow_75 : decode cX8_hashNow 75 = .ok (.goto (-71), 3) := by decide +kernel
theorem dX8_hashNow_78 : decode cX8_hashNow 78 = .ok (.iload_n 1, 1) := by decide +kernel
theorem dX8_hashNow_79 : decode cX8_hashNow 79 = .ok (.ireturn, 1) := by decide +kernel
theorem dX8_isByte_0 : decode cX8_isByte 0 = .ok (.iload_n 0, 1) := by decide +kernel
theorem dX8_isByte_1 : decode cX8_isByte 1 = .ok (.i2l, 1) := by decide +kernel
theorem dX8_isByte_2 : decode cX8_isByte 2 = .ok (.lconst 0, 1) := by decide +kernel
theorem dX8_isByte_3 : decode cX8_isByte 3 = .ok (.ldc2_w 96, 3) := by decide +kernel
theorem dX8_isByte_6 : decode cX8_isByte 6 = .ok (.invokestatic 84, 3) := by decide +kernel
theorem dX8_isByte_9 : decode cX8_isByte 9 = .ok (.ireturn, 1) := by decide +kernel
theorem dX8_takeFields_0 : decode cX8_takeFields 0 = .ok (.aload_n 0, 1) := by decide +kernel
theorem dX8_takeFields_1 : decode cX8_takeFields 1 = .ok (.getfield 45, 3) := by decide +kernel
theorem dX8_takeFields_4 : decode cX8_takeFields 4 = .ok (.iconst 0, 1) := by decide +kernel
theorem dX8_takeFields_5 : decode cX8_takeFields 5 = .ok (.iload_n 1, 1) := by decide +kernel
theorem dX8_takeFields_6 : decode cX8_takeFields 6 = .ok (.iastore, 1) := by decide +kernel
theorem dX8_takeFields_7 : decode cX8_takeFields 7 = .ok (.aload_n 0, 1) := by decide +kernel
theorem dX8_takeFields_8 : decode cX8_takeFields 8 = .ok (.getfield 45, 3) := by decide +kernel
theorem dX8_takeFields_11 : decode cX8_takeFields 11 = .ok (.iconst 1, 1) := by decide +kernel
theorem dX8_takeFields_12 : decode cX8_takeFields 12 = .ok (.iload_n 2, 1) := by decide +kernel
theorem dX8_takeFields_13 : decode cX8_takeFields 13 = .ok (.iastore, 1) := by decide +kernel
theorem dX8_takeFields_14 : decode cX8_takeFields 14 = .ok (.aload_n 0, 1) := by decide +kernel
theorem dX8_takeFields_15 : decode cX8_takeFields 15 = .ok (.getfield 45, 3) := by decide +kernel
theorem dX8_takeFields_18 : decode cX8_takeFields 18 = .ok (.iconst 2, 1) := by decide +kernel
theorem dX8_takeFields_19 : decode cX8_takeFields 19 = .ok (.iload_n 3, 1) := by decide +kernel
theorem dX8_takeFields_20 : decode cX8_takeFields 20 = .ok (.iastore, 1) := by decide +kernel
theorem dX8_takeFields_21 : decode cX8_takeFields 21 = .ok (.aload_n 0, 1) := by decide +kernel
theorem dX8_takeFields_22 : decode cX8_takeFields 22 = .ok (.getfield 45, 3) := by decide +kernel
theorem dX8_takeFields_25 : decode cX8_takeFields 25 = .ok (.iconst 3, 1) := by decide +kernel
theorem dX8_takeFields_26 : decode cX8_takeFields 26 = .ok (.iload 4, 2) := by decide +kernel
theorem dX8_takeFields_28 : decode cX8_takeFields 28 = .ok (.iastore, 1) := by decide +kernel
theorem dX8_takeFields_29 : decode cX8_takeFields 29 = .ok (.aload_n 0, 1) := by decide +kernel
theorem dX8_takeFields_30 : decode cX8_takeFields 30 = .ok (.getfield 45, 3) := by decide +kernel
theorem dX8_takeFields_33 : decode cX8_takeFields 33 = .ok (.iconst 4, 1) := by decide +kernel
theorem dX8_takeFields_34 : decode cX8_takeFields 34 = .ok (.iload 5, 2) := by decide +kernel
theorem dX8_takeFields_36 : decode cX8_takeFields 36 = .ok (.iastore, 1) := by decide +kernel
theorem dX8_takeFields_37 : decode cX8_takeFields 37 = .ok (.iload_n 1, 1) := by decide +kernel
theorem dX8_takeFields_38 : decode cX8_takeFields 38 = .ok (.invokestatic 98, 3) := by decide +kernel
theorem dX8_takeFields_41 : decode cX8_takeFields 41 = .ok (.ifCond .eq 40, 3) := by decide +kernel
theorem dX8_takeFields_44 : decode cX8_takeFields 44 = .ok (.iload_n 2, 1) := by decide +kernel
theorem dX8_takeFields_45 : decode cX8_takeFields 45 = .ok (.invokestatic 98, 3) := by decide +kernel
theorem dX8_takeFields_48 : decode cX8_takeFields 48 = .ok (.ifCond .eq 33, 3) := by decide +kernel
theorem dX8_takeFields_51 : decode cX8_takeFields 51 = .ok (.iload_n 3, 1) := by decide +kernel
theorem dX8_takeFields_52 : decode cX8_takeFields 52 = .ok (.invokestatic 98, 3) := by decide +kernel
theorem dX8_takeFields_55 : decode cX8_takeFields 55 = .ok (.ifCond .eq 26, 3) := by decide +kernel
theorem dX8_takeFields_58 : decode cX8_takeFields 58 = .ok (.iload 4, 2) := by decide +kernel
theorem dX8_takeFields_60 : decode cX8_takeFields 60 = .ok (.invokestatic 98, 3) := by decide +kernel
theorem dX8_takeFields_63 : decode cX8_takeFields 63 = .ok (.ifCond .eq 18, 3) := by decide +kernel
theorem dX8_takeFields_66 : decode cX8_takeFields 66 = .ok (.iload 5, 2) := by decide +kernel
theorem dX8_takeFields_68 : decode cX8_takeFields 68 = .ok (.i2l, 1) := by decide +kernel
theorem dX8_takeFields_69 : decode cX8_takeFields 69 = .ok (.lconst 0, 1) := by decide +kernel
theorem dX8_takeFields_70 : decode cX8_takeFields 70 = .ok (.lconst 1, 1) := by decide +kernel
theorem dX8_takeFields_71 : decode cX8_takeFields 71 = .ok (.invokestatic 84, 3) := by decide +kernel
theorem dX8_takeFields_74 : decode cX8_takeFields 74 = .ok (.ifCond .eq 7, 3) := by decide +kernel
theorem dX8_takeFields_77 : decode cX8_takeFields 77 = .ok (.iconst 1, 1) := by decide +kernel
theorem dX8_takeFields_78 : decode cX8_takeFields 78 = .ok (.goto 4, 3) := by decide +kernel
theorem dX8_takeFields_81 : decode cX8_takeFields 81 = .ok (.iconst 0, 1) := by decide +kernel
theorem dX8_takeFields_82 : decode cX8_takeFields 82 = .ok (.ireturn, 1) := by decide +kernel
theorem dX8_takeFlow_0 : decode cX8_takeFlow 0 = .ok (.iconst 0, 1) := by decide +kernel
theorem dX8_takeFlow_1 : decode cX8_takeFlow 1 = .ok (.istore_n 2, 1) := by decide +kernel
theorem dX8_takeFlow_2 : decode cX8_takeFlow 2 = .ok (.iload_n 2, 1) := by decide +kernel
theorem dX8_takeFlow_3 : decode cX8_takeFlow 3 = .ok (.iconst 5, 1) := by decide +kernel
theorem dX8_takeFlow_4 : decode cX8_takeFlow 4 = .ok (.if_icmp .ge 26, 3) := by decide +kernel
theorem dX8_takeFlow_7 : decode cX8_takeFlow 7 = .ok (.aload_n 0, 1) := by decide +kernel
theorem dX8_takeFlow_8 : decode cX8_takeFlow 8 = .ok (.getfield 45, 3) := by decide +kernel
theorem dX8_takeFlow_11 : decode cX8_takeFlow 11 = .ok (.iload_n 2, 1) := by decide +kernel
theorem dX8_takeFlow_12 : decode cX8_takeFlow 12 = .ok (.aload_n 0, 1) := by decide +kernel
theorem dX8_takeFlow_13 : decode cX8_takeFlow 13 = .ok (.getfield 13, 3) := by decide +kernel
theorem dX8_takeFlow_16 : decode cX8_takeFlow 16 = .ok (.iload_n 1, 1) := by decide +kernel
theorem dX8_takeFlow_17 : decode cX8_takeFlow 17 = .ok (.invokestatic 102, 3) := by decide +kernel
theorem dX8_takeFlow_20 : decode cX8_takeFlow 20 = .ok (.iload_n 2, 1) := by decide +kernel
theorem dX8_takeFlow_21 : decode cX8_takeFlow 21 = .ok (.iadd, 1) := by decide +kernel
theorem dX8_takeFlow_22 : decode cX8_takeFlow 22 = .ok (.iaload, 1) := by decide +kernel
theorem dX8_takeFlow_23 : decode cX8_takeFlow 23 = .ok (.iastore, 1) := by decide +kernel
theorem dX8_takeFlow_24 : decode cX8_takeFlow 24 = .ok (.iinc 2 1, 3) := by decide +kernel
theorem dX8_takeFlow_27 : decode cX8_takeFlow 27 = .ok (.goto (-25), 3) := by decide +kernel
theorem dX8_takeFlow_30 : decode cX8_takeFlow 30 = .ok (.return_, 1) := by decide +kernel
theorem dX8_layHash_0 : decode cX8_layHash 0 = .ok (.aload_n 0, 1) := by decide +kernel
theorem dX8_layHash_1 : decode cX8_layHash 1 = .ok (.iload_n 1, 1) := by decide +kernel
theorem dX8_layHash_2 : decode cX8_layHash 2 = .ok (.invokevirtual 105, 3) := by decide +kernel
theorem dX8_layHash_5 : decode cX8_layHash 5 = .ok (.aload_n 0, 1) := by decide +kernel
theorem dX8_layHash_6 : decode cX8_layHash 6 = .ok (.getfield 13, 3) := by decide +kernel
theorem dX8_layHash_9 : decode cX8_layHash 9 = .ok (.iload_n 1, 1) := by decide +kernel
theorem dX8_layHash_10 : decode cX8_layHash 10 = .ok (.invokestatic 102, 3) := by decide +kernel
theorem dX8_layHash_13 : decode cX8_layHash 13 = .ok (.bipush 14, 2) := by decide +kernel
theorem dX8_layHash_15 : decode cX8_layHash 15 = .ok (.iadd, 1) := by decide +kernel
theorem dX8_layHash_16 : decode cX8_layHash 16 = .ok (.aload_n 0, 1) := by decide +kernel
theorem dX8_layHash_17 : decode cX8_layHash 17 = .ok (.invokevirtual 109, 3) := by decide +kernel
theorem dX8_layHash_20 : decode cX8_layHash 20 = .ok (.iastore, 1) := by decide +kernel
theorem dX8_layHash_21 : decode cX8_layHash 21 = .ok (.return_, 1) := by decide +kernel
theorem dX8_layHashes_0 : decode cX8_layHashes 0 = .ok (.iconst 0, 1) := by decide +kernel
theorem dX8_layHashes_1 : decode cX8_layHashes 1 = .ok (.istore_n 1, 1) := by decide +kernel
theorem dX8_layHashes_2 : decode cX8_layHashes 2 = .ok (.iload_n 1, 1) := by decide +kernel
theorem dX8_layHashes_3 : decode cX8_layHashes 3 = .ok (.aload_n 0, 1) := by decide +kernel
theorem dX8_layHashes_4 : decode cX8_layHashes 4 = .ok (.getfield 13, 3) := by decide +kernel
theorem dX8_layHashes_7 : decode cX8_layHashes 7 = .ok (.iconst 4, 1) := by decide +kernel
theorem dX8_layHashes_8 : decode cX8_layHashes 8 = .ok (.iaload, 1) := by decide +kernel
theorem dX8_layHashes_9 : decode cX8_layHashes 9 = .ok (.if_icmp .ge 14, 3) := by decide +kernel
theorem dX8_layHashes_12 : decode cX8_layHashes 12 = .ok (.aload_n 0, 1) := by decide +kernel
theorem dX8_layHashes_13 : decode cX8_layHashes 13 = .ok (.iload_n 1, 1) := by decide +kernel
theorem dX8_layHashes_14 : decode cX8_layHashes 14 = .ok (.invokevirtual 113, 3) := by decide +kernel
theorem dX8_layHashes_17 : decode cX8_layHashes 17 = .ok (.iinc 1 1, 3) := by decide +kernel
theorem dX8_layHashes_20 : decode cX8_layHashes 20 = .ok (.goto (-18), 3) := by decide +kernel
theorem dX8_layHashes_23 : decode cX8_layHashes 23 = .ok (.return_, 1) := by decide +kernel
theorem dX8_entryOf_0 : decode cX8_entryOf 0 = .ok (.aload_n 0, 1) := by decide +kernel
theorem dX8_entryOf_1 : decode cX8_entryOf 1 = .ok (.getfield 13, 3) := by decide +kernel
theorem dX8_entryOf_4 : decode cX8_entryOf 4 = .ok (.iload_n 1, 1) := by decide +kernel
theorem dX8_entryOf_5 : decode cX8_entryOf 5 = .ok (.invokestatic 102, 3) := by decide +kernel
theorem dX8_entryOf_8 : decode cX8_entryOf 8 = .ok (.bipush 14, 2) := by decide +kernel
theorem dX8_entryOf_10 : decode cX8_entryOf 10 = .ok (.iadd, 1) := by decide +kernel
theorem dX8_entryOf_11 : decode cX8_entryOf 11 = .ok (.iaload, 1) := by decide +kernel
theorem dX8_entryOf_12 : decode cX8_entryOf 12 = .ok (.bipush 15, 2) := by decide +kernel
theorem dX8_entryOf_14 : decode cX8_entryOf 14 = .ok (.iand, 1) := by decide +kernel
theorem dX8_entryOf_15 : decode cX8_entryOf 15 = .ok (.ireturn, 1) := by decide +kernel
theorem dX8_ruleOf_0 : decode cX8_ruleOf 0 = .ok (.iconst (-1), 1) := by decide +kernel
theorem dX8_ruleOf_1 : decode cX8_ruleOf 1 = .ok (.istore_n 2, 1) := by decide +kernel
theorem dX8_ruleOf_2 : decode cX8_ruleOf 2 = .ok (.iconst 0, 1) := by decide +kernel
theorem dX8_ruleOf_3 : decode cX8_ruleOf 3 = .ok (.istore_n 3, 1) := by decide +kernel
theorem dX8_ruleOf_4 : decode cX8_ruleOf 4 = .ok (.iload_n 3, 1) := by decide +kernel
theorem dX8_ruleOf_5 : decode cX8_ruleOf 5 = .ok (.aload_n 0, 1) := by decide +kernel
theorem dX8_ruleOf_6 : decode cX8_ruleOf 6 = .ok (.getfield 13, 3) := by decide +kernel
theorem dX8_ruleOf_9 : decode cX8_ruleOf 9 = .ok (.iconst 5, 1) := by decide +kernel
theorem dX8_ruleOf_10 : decode cX8_ruleOf 10 = .ok (.iaload, 1) := by decide +kernel
theorem dX8_ruleOf_11 : decode cX8_ruleOf 11 = .ok (.if_icmp .ge 28, 3) := by decide +kernel
theorem dX8_ruleOf_14 : decode cX8_ruleOf 14 = .ok (.aload_n 0, 1) := by decide +kernel
theorem dX8_ruleOf_15 : decode cX8_ruleOf 15 = .ok (.getfield 13, 3) := by decide +kernel
theorem dX8_ruleOf_18 : decode cX8_ruleOf 18 = .ok (.iload_n 3, 1) := by decide +kernel
theorem dX8_ruleOf_19 : decode cX8_ruleOf 19 = .ok (.invokestatic 116, 3) := by decide +kernel
theorem dX8_ruleOf_22 : decode cX8_ruleOf 22 = .ok (.iaload, 1) := by decide +kernel
theorem dX8_ruleOf_23 : decode cX8_ruleOf 23 = .ok (.iload_n 1, 1) := by decide +kernel
theorem dX8_ruleOf_24 : decode cX8_ruleOf 24 = .ok (.if_icmp .ne 7, 3) := by decide +kernel
theorem dX8_ruleOf_27 : decode cX8_ruleOf 27 = .ok (.iload_n 3, 1) := by decide +kernel
theorem dX8_ruleOf_28 : decode cX8_ruleOf 28 = .ok (.goto 4, 3) := by decide +kernel
theorem dX8_ruleOf_31 : decode cX8_ruleOf 31 = .ok (.iload_n 2, 1) := by decide +kernel
theorem dX8_ruleOf_32 : decode cX8_ruleOf 32 = .ok (.istore_n 2, 1) := by decide +kernel
theorem dX8_ruleOf_33 : decode cX8_ruleOf 33 = .ok (.iinc 3 1, 3) := by decide +kernel
theorem dX8_ruleOf_36 : decode cX8_ruleOf 36 = .ok (.goto (-32), 3) := by decide +kernel
theorem dX8_ruleOf_39 : decode cX8_ruleOf 39 = .ok (.iload_n 2, 1) := by decide +kernel
theorem dX8_ruleOf_40 : decode cX8_ruleOf 40 = .ok (.ireturn, 1) := by decide +kernel
theorem dX8_wishOf_0 : decode cX8_wishOf 0 = .ok (.aload_n 0, 1) := by decide +kernel
theorem dX8_wishOf_1 : decode cX8_wishOf 1 = .ok (.iload_n 1, 1) := by decide +kernel
theorem dX8_wishOf_2 : decode cX8_wishOf 2 = .ok (.invokevirtual 119, 3) := by decide +kernel
theorem dX8_wishOf_5 : decode cX8_wishOf 5 = .ok (.istore_n 2, 1) := by decide +kernel
theorem dX8_wishOf_6 : decode cX8_wishOf 6 = .ok (.iload_n 2, 1) := by decide +kernel
theorem dX8_wishOf_7 : decode cX8_wishOf 7 = .ok (.iconst (-1), 1) := by decide +kernel
theorem dX8_wishOf_8 : decode cX8_wishOf 8 = .ok (.if_icmp .ne 19, 3) := by decide +kernel
theorem dX8_wishOf_11 : decode cX8_wishOf 11 = .ok (.aload_n 0, 1) := by decide +kernel
theorem dX8_wishOf_12 : decode cX8_wishOf 12 = .ok (.getfield 13, 3) := by decide +kernel
theorem dX8_wishOf_15 : decode cX8_wishOf 15 = .ok (.bipush 23, 2) := by decide +kernel
theorem dX8_wishOf_17 : decode cX8_wishOf 17 = .ok (.aload_n 0, 1) := by decide +kernel
theorem dX8_wishOf_18 : decode cX8_wishOf 18 = .ok (.iload_n 1, 1) := by decide +kernel
theorem dX8_wishOf_19 : decode cX8_wishOf 19 = .ok (.invokevirtual 122, 3) := by decide +kernel
theorem dX8_wishOf_22 : decode cX8_wishOf 22 = .ok (.iadd, 1) := by decide +kernel
theorem dX8_wishOf_23 : decode cX8_wishOf 23 = .ok (.iaload, 1) := by decide +kernel
theorem dX8_wishOf_24 : decode cX8_wishOf 24 = .ok (.goto 14, 3) := by decide +kernel
theorem dX8_wishOf_27 : decode cX8_wishOf 27 = .ok (.aload_n 0, 1) := by decide +kernel
theorem dX8_wishOf_28 : decode cX8_wishOf 28 = .ok (.getfield 13, 3) := by decide +kernel
theorem dX8_wishOf_31 : decode cX8_wishOf 31 = .ok (.iload_n 2, 1) := by decide +kernel
theorem dX8_wishOf_32 : decode cX8_wishOf 32 = .ok (.invokestatic 116, 3) := by decide +kernel
theorem dX8_wishOf_35 : decode cX8_wishOf 35 = .ok (.iconst 1, 1) := by decide +kernel
theorem dX8_wishOf_36 : decode cX8_wishOf 36 = .ok (.iadd, 1) := by decide +kernel
theorem dX8_wishOf_37 : decode cX8_wishOf 37 = .ok (.iaload, 1) := by decide +kernel
theorem dX8_wishOf_38 : decode cX8_wishOf 38 = .ok (.ireturn, 1) := by decide +kernel
theorem dX8_queueOf_0 : decode cX8_queueOf 0 = .ok (.iconst (-1), 1) := by decide +kernel
theorem dX8_queueOf_1 : decode cX8_queueOf 1 = .ok (.istore_n 2, 1) := by decide +kernel
theorem dX8_queueOf_2 : decode cX8_queueOf 2 = .ok (.iconst 0, 1) := by decide +kernel
theorem dX8_queueOf_3 : decode cX8_queueOf 3 = .ok (.istore_n 3, 1) := by decide +kernel
theorem dX8_queueOf_4 : decode cX8_queueOf 4 = .ok (.iload_n 3, 1) := by decide +kernel
theorem dX8_queueOf_5 : decode cX8_queueOf 5 = .ok (.iconst 4, 1) := by decide +kernel
theorem dX8_queueOf_6 : decode cX8_queueOf 6 = .ok (.if_icmp .ge 53, 3) := by decide +kernel
theorem dX8_queueOf_9 : decode cX8_queueOf 9 = .ok (.iconst 0, 1) := by decide +kernel
theorem dX8_queueOf_10 : decode cX8_queueOf 10 = .ok (.istore 4, 2) := by decide +kernel
theorem dX8_queueOf_12 : decode cX8_queueOf 12 = .ok (.iload 4, 2) := by decide +kernel
theorem dX8_queueOf_14 : decode cX8_queueOf 14 = .ok (.aload_n 0, 1) := by decide +kernel
theorem dX8_queueOf_15 : decode cX8_queueOf 15 = .ok (.getfield 13, 3) := by decide +kernel
theorem dX8_queueOf_18 : decode cX8_queueOf 18 = .ok (.iload_n 3, 1) := by decide +kernel
theorem dX8_queueOf_19 : decode cX8_queueOf 19 = .ok (.invokestatic 57, 3) := by decide +kernel
theorem dX8_queueOf_22 : decode cX8_queueOf 22 = .ok (.iaload, 1) := by decide +kernel
theorem dX8_queueOf_23 : decode cX8_queueOf 23 = .ok (.if_icmp .ge 30, 3) := by decide +kernel
theorem dX8_queueOf_26 : decode cX8_queueOf 26 = .ok (.aload_n 0, 1) := by decide +kernel
theorem dX8_queueOf_27 : decode cX8_queueOf 27 = .ok (.getfield 13, 3) := by decide +kernel
theorem dX8_queueOf_30 : decode cX8_queueOf 30 = .ok (.iload_n 3, 1) := by decide +kernel
theorem dX8_queueOf_31 : decode cX8_queueOf 31 = .ok (.iload 4, 2) := by decide +kernel
theorem dX8_queueOf_33 : decode cX8_queueOf 33 = .ok (.invokestatic 125, 3) := by decide +kernel
theorem dX8_queueOf_36 : decode cX8_queueOf 36 = .ok (.iaload, 1) := by decide +kernel
theorem dX8_queueOf_37 : decode cX8_queueOf 37 = .ok (.iload_n 1, 1) := by decide +kernel
theorem dX8_queueOf_38 : decode cX8_queueOf 38 = .ok (.if_icmp .ne 7, 3) := by decide +kernel
theorem dX8_queueOf_41 : decode cX8_queueOf 41 = .ok (.iload_n 3, 1) := by decide +kernel
theorem dX8_queueOf_42 : decode cX8_queueOf 42 = .ok (.goto 4, 3) := by decide +kernel
theorem dX8_queueOf_45 : decode cX8_queueOf 45 = .ok (.iload_n 2, 1) := by decide +kernel
theorem dX8_queueOf_46 : decode cX8_queueOf 46 = .ok (.istore_n 2, 1) := by decide +kernel
theorem dX8_queueOf_47 : decode cX8_queueOf 47 = .ok (.iinc 4 1, 3) := by decide +kernel
theorem dX8_queueOf_50 : decode cX8_queueOf 50 = .ok (.goto (-38), 3) := by decide +kernel
theorem dX8_queueOf_53 : decode cX8_queueOf 53 = .ok (.iinc 3 1, 3) := by decide +kernel
theorem dX8_queueOf_56 : decode cX8_queueOf 56 = .ok (.goto (-52), 3) := by decide +kernel
theorem dX8_queueOf_59 : decode cX8_queueOf 59 = .ok (.iload_n 2, 1) := by decide +kernel
theorem dX8_queueOf_60 : decode cX8_queueOf 60 = .ok (.ireturn, 1) := by decide +kernel
theorem dX8_packetsOf_0 : decode cX8_packetsOf 0 = .ok (.iconst 0, 1) := by decide +kernel
theorem dX8_packetsOf_1 : decode cX8_packetsOf 1 = .ok (.istore_n 2, 1) := by decide +kernel
theorem dX8_packetsOf_2 : decode cX8_packetsOf 2 = .ok (.iconst 0, 1) := by decide +kernel
theorem dX8_packetsOf_3 : decode cX8_packetsOf 3 = .ok (.istore_n 3, 1) := by decide +kernel
theorem dX8_packetsOf_4 : decode cX8_packetsOf 4 = .ok (.iload_n 3, 1) := by decide +kernel
theorem dX8_packetsOf_5 : decode cX8_packetsOf 5 = .ok (.iconst 4, 1) := by decide +kernel
theorem dX8_packetsOf_6 : decode cX8_packetsOf 6 = .ok (.if_icmp .ge 55, 3) := by decide +kernel
theorem dX8_packetsOf_9 : decode cX8_packetsOf 9 = .ok (.iconst 0, 1) := by decide +kernel
theorem dX8_packetsOf_10 : decode cX8_packetsOf 10 = .ok (.istore 4, 2) := by decide +kernel
theorem dX8_packetsOf_12 : decode cX8_packetsOf 12 = .ok (.iload 4, 2) := by decide +kernel
theorem dX8_packetsOf_14 : decode cX8_packetsOf 14 = .ok (.aload_n 0, 1) := by decide +kernel
theorem dX8_packetsOf_15 : decode cX8_packetsOf 15 = .ok (.getfield 13, 3) := by decide +kernel
theorem dX8_packetsOf_18 : decode cX8_packetsOf 18 = .ok (.iload_n 3, 1) := by decide +kernel
theorem dX8_packetsOf_19 : decode cX8_packetsOf 19 = .ok (.invokestatic 57, 3) := by decide +kernel
theorem dX8_packetsOf_22 : decode cX8_packetsOf 22 = .ok (.iaload, 1) := by decide +kernel
theorem dX8_packetsOf_23 : decode cX8_packetsOf 23 = .ok (.if_icmp .ge 32, 3) := by decide +kernel
theorem dX8_packetsOf_26 : decode cX8_packetsOf 26 = .ok (.iload_n 2, 1) := by decide +kernel
theorem dX8_packetsOf_27 : decode cX8_packetsOf 27 = .ok (.aload_n 0, 1) := by decide +kernel
theorem dX8_packetsOf_28 : decode cX8_packetsOf 28 = .ok (.getfield 13, 3) := by decide +kernel
theorem dX8_packetsOf_31 : decode cX8_packetsOf 31 = .ok (.iload_n 3, 1) := by decide +kernel
theorem dX8_packetsOf_32 : decode cX8_packetsOf 32 = .ok (.iload 4, 2) := by decide +kernel
theorem dX8_packetsOf_34 : decode cX8_packetsOf 34 = .ok (.invokestatic 125, 3) := by decide +kernel
theorem dX8_packetsOf_37 : decode cX8_packetsOf 37 = .ok (.iaload, 1) := by decide +kernel
theorem dX8_packetsOf_38 : decode cX8_packetsOf 38 = .ok (.iload_n 1, 1) := by decide +kernel
theorem dX8_packetsOf_39 : decode cX8_packetsOf 39 = .ok (.if_icmp .ne 7, 3) := by decide +kernel
theorem dX8_packetsOf_42 : decode cX8_packetsOf 42 = .ok (.iconst 1, 1) := by decide +kernel
theorem dX8_packetsOf_43 : decode cX8_packetsOf 43 = .ok (.goto 4, 3) := by decide +kernel
theorem dX8_packetsOf_46 : decode cX8_packetsOf 46 = .ok (.iconst 0, 1) := by decide +kernel
theorem dX8_packetsOf_47 : decode cX8_packetsOf 47 = .ok (.iadd, 1) := by decide +kernel
theorem dX8_packetsOf_48 : decode cX8_packetsOf 48 = .ok (.istore_n 2, 1) := by decide +kernel
theorem dX8_packetsOf_49 : decode cX8_packetsOf 49 = .ok (.iinc 4 1, 3) := by decide +kernel
theorem dX8_packetsOf_52 : decode cX8_packetsOf 52 = .ok (.goto (-40), 3) := by decide +kernel
theorem dX8_packetsOf_55 : decode cX8_packetsOf 55 = .ok (.iinc 3 1, 3) := by decide +kernel
theorem dX8_packetsOf_58 : decode cX8_packetsOf 58 = .ok (.goto (-54), 3) := by decide +kernel
theorem dX8_packetsOf_61 : decode cX8_packetsOf 61 = .ok (.iload_n 2, 1) := by decide +kernel
theorem dX8_packetsOf_62 : decode cX8_packetsOf 62 = .ok (.ireturn, 1) := by decide +kernel
theorem dX8_found_0 : decode cX8_found 0 = .ok (.iconst (-1), 1) := by decide +kernel
theorem dX8_found_1 : decode cX8_found 1 = .ok (.istore_n 1, 1) := by decide +kernel
theorem dX8_found_2 : decode cX8_found 2 = .ok (.aload_n 0, 1) := by decide +kernel
theorem dX8_found_3 : decode cX8_found 3 = .ok (.getfield 13, 3) := by decide +kernel
theorem dX8_found_6 : decode cX8_found 6 = .ok (.iconst 4, 1) := by decide +kernel
theorem dX8_found_7 : decode cX8_found 7 = .ok (.iaload, 1) := by decide +kernel
theorem dX8_found_8 : decode cX8_found 8 = .ok (.iconst 1, 1) := by decide +kernel
theorem dX8_found_9 : decode cX8_found 9 = .ok (.isub, 1) := by decide +kernel
theorem dX8_found_10 : decode cX8_found 10 = .ok (.istore_n 2, 1) := by decide +kernel
theorem dX8_found_11 : decode cX8_found 11 = .ok (.iload_n 2, 1) := by decide +kernel
theorem dX8_found_12 : decode cX8_found 12 = .ok (.ifCond .lt 68, 3) := by decide +kernel
theorem dX8_found_15 : decode cX8_found 15 = .ok (.iconst 1, 1) := by decide +kernel
theorem dX8_found_16 : decode cX8_found 16 = .ok (.istore_n 3, 1) := by decide +kernel
theorem dX8_found_17 : decode cX8_found 17 = .ok (.iconst 0, 1) := by decide +kernel
theorem dX8_found_18 : decode cX8_found 18 = .ok (.istore 4, 2) := by decide +kernel
theorem dX8_found_20 : decode cX8_found 20 = .ok (.iload 4, 2) := by decide +kernel
theorem dX8_found_22 : decode cX8_found 22 = .ok (.iconst 5, 1) := by decide +kernel
theorem dX8_found_23 : decode cX8_found 23 = .ok (.if_icmp .ge 41, 3) := by decide +kernel
theorem dX8_found_26 : decode cX8_found 26 = .ok (.iload_n 3, 1) := by decide +kernel
theorem dX8_found_27 : decode cX8_found 27 = .ok (.ifCond .eq 29, 3) := by decide +kernel
theorem dX8_found_30 : decode cX8_found 30 = .ok (.aload_n 0, 1) := by decide +kernel
theorem dX8_found_31 : decode cX8_found 31 = .ok (.getfield 13, 3) := by decide +kernel
theorem dX8_found_34 : decode cX8_found 34 = .ok (.iload_n 2, 1) := by decide +kernel
theorem dX8_found_35 : decode cX8_found 35 = .ok (.invokestatic 102, 3) := by decide +kernel
theorem dX8_found_38 : decode cX8_found 38 = .ok (.iload 4, 2) := by decide +kernel
theorem dX8_found_40 : decode cX8_found 40 = .ok (.iadd, 1) := by decide +kernel
theorem dX8_found_41 : decode cX8_found 41 = .ok (.iaload, 1) := by decide +kernel
theorem dX8_found_42 : decode cX8_found 42 = .ok (.aload_n 0, 1) := by decide +kernel
theorem dX8_found_43 : decode cX8_found 43 = .ok (.getfield 45, 3) := by decide +kernel
theorem dX8_found_46 : decode cX8_found 46 = .ok (.iload 4, 2) := by decide +kernel
theorem dX8_found_48 : decode cX8_found 48 = .ok (.iaload, 1) := by decide +kernel
theorem dX8_found_49 : decode cX8_found 49 = .ok (.if_icmp .ne 7, 3) := by decide +kernel
theorem dX8_found_52 : decode cX8_found 52 = .ok (.iconst 1, 1) := by decide +kernel
theorem dX8_found_53 : decode cX8_found 53 = .ok (.goto 4, 3) := by decide +kernel
theorem dX8_found_56 : decode cX8_found 56 = .ok (.iconst 0, 1) := by decide +kernel
theorem dX8_found_57 : decode cX8_found 57 = .ok (.istore_n 3, 1) := by decide +kernel
theorem dX8_found_58 : decode cX8_found 58 = .ok (.iinc 4 1, 3) := by decide +kernel
theorem dX8_found_61 : decode cX8_found 61 = .ok (.goto (-41), 3) := by decide +kernel
theorem dX8_found_64 : decode cX8_found 64 = .ok (.iload_n 3, 1) := by decide +kernel
theorem dX8_found_65 : decode cX8_found 65 = .ok (.ifCond .eq 7, 3) := by decide +kernel
theorem dX8_found_68 : decode cX8_found 68 = .ok (.iload_n 2, 1) := by decide +kernel
theorem dX8_found_69 : decode cX8_found 69 = .ok (.goto 4, 3) := by decide +kernel
theorem dX8_found_72 : decode cX8_found 72 = .ok (.iload_n 1, 1) := by decide +kernel
theorem dX8_found_73 : decode cX8_found 73 = .ok (.istore_n 1, 1) := by decide +kernel
theorem dX8_found_74 : decode cX8_found 74 = .ok (.iinc 2 (-1), 3) := by decide +kernel
theorem dX8_found_77 : decode cX8_found 77 = .ok (.goto (-66), 3) := by decide +kernel
theorem dX8_found_80 : decode cX8_found 80 = .ok (.iload_n 1, 1) := by decide +kernel
theorem dX8_found_81 : decode cX8_found 81 = .ok (.ireturn, 1) := by decide +kernel
theorem dX8_key_0 : decode cX8_key 0 = .ok (.aload_n 0, 1) := by decide +kernel
theorem dX8_key_1 : decode cX8_key 1 = .ok (.iconst 0, 1) := by decide +kernel
theorem dX8_key_2 : decode cX8_key 2 = .ok (.putfield 61, 3) := by decide +kernel
theorem dX8_key_5 : decode cX8_key 5 = .ok (.iload_n 3, 1) := by decide +kernel
theorem dX8_key_6 : decode cX8_key 6 = .ok (.invokestatic 98, 3) := by decide +kernel
theorem dX8_key_9 : decode cX8_key 9 = .ok (.ifCond .ne 9, 3) := by decide +kernel
theorem dX8_key_12 : decode cX8_key 12 = .ok (.aload_n 0, 1) := by decide +kernel
theorem dX8_key_13 : decode cX8_key 13 = .ok (.iconst (-1), 1) := by decide +kernel
theorem dX8_key_14 : decode cX8_key 14 = .ok (.invokevirtual 75, 3) := by decide +kernel
theorem dX8_key_17 : decode cX8_key 17 = .ok (.ireturn, 1) := by decide +kernel
theorem dX8_key_18 : decode cX8_key 18 = .ok (.aload_n 0, 1) := by decide +kernel
theorem dX8_key_19 : decode cX8_key 19 = .ok (.iconst 0, 1) := by decide +kernel
theorem dX8_key_20 : decode cX8_key 20 = .ok (.invokevirtual 129, 3) := by decide +kernel
theorem dX8_key_23 : decode cX8_key 23 = .ok (.aload_n 0, 1) := by decide +kernel
theorem dX8_key_24 : decode cX8_key 24 = .ok (.getfield 13, 3) := by decide +kernel
theorem dX8_key_27 : decode cX8_key 27 = .ok (.iconst 0, 1) := by decide +kernel
theorem dX8_key_28 : decode cX8_key 28 = .ok (.iload_n 1, 1) := by decide +kernel
theorem dX8_key_29 : decode cX8_key 29 = .ok (.iastore, 1) := by decide +kernel
theorem dX8_key_30 : decode cX8_key 30 = .ok (.aload_n 0, 1) := by decide +kernel
theorem dX8_key_31 : decode cX8_key 31 = .ok (.getfield 13, 3) := by decide +kernel
theorem dX8_key_34 : decode cX8_key 34 = .ok (.iconst 1, 1) := by decide +kernel
theorem dX8_key_35 : decode cX8_key 35 = .ok (.iload_n 2, 1) := by decide +kernel
theorem dX8_key_36 : decode cX8_key 36 = .ok (.iastore, 1) := by decide +kernel
theorem dX8_key_37 : decode cX8_key 37 = .ok (.aload_n 0, 1) := by decide +kernel
theorem dX8_key_38 : decode cX8_key 38 = .ok (.getfield 13, 3) := by decide +kernel
theorem dX8_key_41 : decode cX8_key 41 = .ok (.iconst 2, 1) := by decide +kernel
theorem dX8_key_42 : decode cX8_key 42 = .ok (.iload_n 3, 1) := by decide +kernel
theorem dX8_key_43 : decode cX8_key 43 = .ok (.iastore, 1) := by decide +kernel
theorem dX8_key_44 : decode cX8_key 44 = .ok (.aload_n 0, 1) := by decide +kernel
theorem dX8_key_45 : decode cX8_key 45 = .ok (.invokevirtual 132, 3) := by decide +kernel
theorem dX8_key_48 : decode cX8_key 48 = .ok (.aload_n 0, 1) := by decide +kernel
theorem dX8_key_49 : decode cX8_key 49 = .ok (.iconst 0, 1) := by decide +kernel
theorem dX8_key_50 : decode cX8_key 50 = .ok (.invokevirtual 81, 3) := by decide +kernel
theorem dX8_key_53 : decode cX8_key 53 = .ok (.ireturn, 1) := by decide +kernel
theorem dX8_becomes_0 : decode cX8_becomes 0 = .ok (.aload_n 0, 1) := by decide +kernel
theorem dX8_becomes_1 : decode cX8_becomes 1 = .ok (.iload_n 3, 1) := by decide +kernel
theorem dX8_becomes_2 : decode cX8_becomes 2 = .ok (.invokevirtual 129, 3) := by decide +kernel
theorem dX8_becomes_5 : decode cX8_becomes 5 = .ok (.aload_n 0, 1) := by decide +kernel
theorem dX8_becomes_6 : decode cX8_becomes 6 = .ok (.getfield 13, 3) := by decide +kernel
theorem dX8_becomes_9 : decode cX8_becomes 9 = .ok (.iload_n 1, 1) := by decide +kernel
theorem dX8_becomes_10 : decode cX8_becomes 10 = .ok (.iaload, 1) := by decide +kernel
theorem dX8_becomes_11 : decode cX8_becomes 11 = .ok (.istore 4, 2) := by decide +kernel
theorem dX8_becomes_13 : decode cX8_becomes 13 = .ok (.aload_n 0, 1) := by decide +kernel
theorem dX8_becomes_14 : decode cX8_becomes 14 = .ok (.getfield 13, 3) := by decide +kernel
theorem dX8_becomes_17 : decode cX8_becomes 17 = .ok (.iload_n 1, 1) := by decide +kernel
theorem dX8_becomes_18 : decode cX8_becomes 18 = .ok (.iload_n 2, 1) := by decide +kernel
theorem dX8_becomes_19 : decode cX8_becomes 19 = .ok (.iastore, 1) := by decide +kernel
theorem dX8_becomes_20 : decode cX8_becomes 20 = .ok (.aload_n 0, 1) := by decide +kernel
theorem dX8_becomes_21 : decode cX8_becomes 21 = .ok (.iload 4, 2) := by decide +kernel
theorem dX8_becomes_23 : decode cX8_becomes 23 = .ok (.invokevirtual 81, 3) := by decide +kernel
theorem dX8_becomes_26 : decode cX8_becomes 26 = .ok (.ireturn, 1) := by decide +kernel
theorem dX8_mask_0 : decode cX8_mask 0 = .ok (.aload_n 0, 1) := by decide +kernel
theorem dX8_mask_1 : decode cX8_mask 1 = .ok (.iconst 0, 1) := by decide +kernel
theorem dX8_mask_2 : decode cX8_mask 2 = .ok (.putfield 61, 3) := by decide +kernel
theorem dX8_mask_5 : decode cX8_mask 5 = .ok (.iload_n 1, 1) := by decide +kernel
theorem dX8_mask_6 : decode cX8_mask 6 = .ok (.i2l, 1) := by decide +kernel
theorem dX8_mask_7 : decode cX8_mask 7 = .ok (.lconst 0, 1) := by decide +kernel
theorem dX8_mask_8 : decode cX8_mask 8 = .ok (.ldc2_w 135, 3) := by decide +kernel
theorem dX8_mask_11 : decode cX8_mask 11 = .ok (.invokestatic 84, 3) := by decide +kernel
theorem dX8_mask_14 : decode cX8_mask 14 = .ok (.ifCond .ne 9, 3) := by decide +kernel
theorem dX8_mask_17 : decode cX8_mask 17 = .ok (.aload_n 0, 1) := by decide +kernel
theorem dX8_mask_18 : decode cX8_mask 18 = .ok (.iconst (-1), 1) := by decide +kernel
theorem dX8_mask_19 : decode cX8_mask 19 = .ok (.invokevirtual 75, 3) := by decide +kernel
theorem dX8_mask_22 : decode cX8_mask 22 = .ok (.ireturn, 1) := by decide +kernel
theorem dX8_mask_23 : decode cX8_mask 23 = .ok (.aload_n 0, 1) := by decide +kernel
theorem dX8_mask_24 : decode cX8_mask 24 = .ok (.iconst 3, 1) := by decide +kernel
theorem dX8_mask_25 : decode cX8_mask 25 = .ok (.iload_n 1, 1) := by decide +kernel
theorem dX8_mask_26 : decode cX8_mask 26 = .ok (.iconst 1, 1) := by decide +kernel
theorem dX8_mask_27 : decode cX8_mask 27 = .ok (.invokevirtual 137, 3) := by decide +kernel
theorem dX8_mask_30 : decode cX8_mask 30 = .ok (.istore_n 2, 1) := by decide +kernel
theorem dX8_mask_31 : decode cX8_mask 31 = .ok (.aload_n 0, 1) := by decide +kernel
theorem dX8_mask_32 : decode cX8_mask 32 = .ok (.invokevirtual 132, 3) := by decide +kernel
theorem dX8_mask_35 : decode cX8_mask 35 = .ok (.iload_n 2, 1) := by decide +kernel
theorem dX8_mask_36 : decode cX8_mask 36 = .ok (.ireturn, 1) := by decide +kernel
theorem dX8_flow_0 : decode cX8_flow 0 = .ok (.aload_n 0, 1) := by decide +kernel
theorem dX8_flow_1 : decode cX8_flow 1 = .ok (.iconst 0, 1) := by decide +kernel
theorem dX8_flow_2 : decode cX8_flow 2 = .ok (.putfield 61, 3) := by decide +kernel
theorem dX8_flow_5 : decode cX8_flow 5 = .ok (.aload_n 0, 1) := by decide +kernel
theorem dX8_flow_6 : decode cX8_flow 6 = .ok (.iload_n 1, 1) := by decide +kernel
theorem dX8_flow_7 : decode cX8_flow 7 = .ok (.iload_n 2, 1) := by decide +kernel
theorem dX8_flow_8 : decode cX8_flow 8 = .ok (.iload_n 3, 1) := by decide +kernel
theorem dX8_flow_9 : decode cX8_flow 9 = .ok (.iload 4, 2) := by decide +kernel
theorem dX8_flow_11 : decode cX8_flow 11 = .ok (.iload 5, 2) := by decide +kernel
theorem dX8_flow_13 : decode cX8_flow 13 = .ok (.invokevirtual 141, 3) := by decide +kernel
theorem dX8_flow_16 : decode cX8_flow 16 = .ok (.ifCond .ne 9, 3) := by decide +kernel
theorem dX8_flow_19 : decode cX8_flow 19 = .ok (.aload_n 0, 1) := by decide +kernel
theorem dX8_flow_20 : decode cX8_flow 20 = .ok (.iconst (-1), 1) := by decide +kernel
theorem dX8_flow_21 : decode cX8_flow 21 = .ok (.invokevirtual 75, 3) := by decide +kernel
theorem dX8_flow_24 : decode cX8_flow 24 = .ok (.ireturn, 1) := by decide +kernel
theorem dX8_flow_25 : decode cX8_flow 25 = .ok (.aload_n 0, 1) := by decide +kernel
theorem dX8_flow_26 : decode cX8_flow 26 = .ok (.invokevirtual 145, 3) := by decide +kernel
theorem dX8_flow_29 : decode cX8_flow 29 = .ok (.iconst (-1), 1) := by decide +kernel
theorem dX8_flow_30 : decode cX8_flow 30 = .ok (.if_icmp .eq 12, 3) := by decide +kernel
theorem dX8_flow_33 : decode cX8_flow 33 = .ok (.aload_n 0, 1) := by decide +kernel
theorem dX8_flow_34 : decode cX8_flow 34 = .ok (.aload_n 0, 1) := by decide +kernel
theorem dX8_flow_35 : decode cX8_flow 35 = .ok (.invokevirtual 145, 3) := by decide +kernel
theorem dX8_flow_38 : decode cX8_flow 38 = .ok (.invokevirtual 81, 3) := by decide +kernel
theorem dX8_flow_41 : decode cX8_flow 41 = .ok (.ireturn, 1) := by decide +kernel
theorem dX8_flow_42 : decode cX8_flow 42 = .ok (.aload_n 0, 1) := by decide +kernel
theorem dX8_flow_43 : decode cX8_flow 43 = .ok (.getfield 13, 3) := by decide +kernel
theorem dX8_flow_46 : decode cX8_flow 46 = .ok (.iconst 4, 1) := by decide +kernel
theorem dX8_flow_47 : decode cX8_flow 47 = .ok (.iaload, 1) := by decide +kernel
theorem dX8_flow_48 : decode cX8_flow 48 = .ok (.istore 6, 2) := by decide +kernel
theorem dX8_flow_50 : decode cX8_flow 50 = .ok (.iload 6, 2) := by decide +kernel
theorem dX8_flow_52 : decode cX8_flow 52 = .ok (.bipush 24, 2) := by decide +kernel
theorem dX8_flow_54 : decode cX8_flow 54 = .ok (.if_icmp .ne 10, 3) := by decide +kernel
theorem dX8_flow_57 : decode cX8_flow 57 = .ok (.aload_n 0, 1) := by decide +kernel
theorem dX8_flow_58 : decode cX8_flow 58 = .ok (.bipush (-5), 2) := by decide +kernel
theorem dX8_flow_60 : decode cX8_flow 60 = .ok (.invokevirtual 75, 3) := by decide +kernel
theorem dX8_flow_63 : decode cX8_flow 63 = .ok (.ireturn, 1) := by decide +kernel
theorem dX8_flow_64 : decode cX8_flow 64 = .ok (.aload_n 0, 1) := by decide +kernel
theorem dX8_flow_65 : decode cX8_flow 65 = .ok (.iconst 2, 1) := by decide +kernel
theorem dX8_flow_66 : decode cX8_flow 66 = .ok (.invokevirtual 129, 3) := by decide +kernel
theorem dX8_flow_69 : decode cX8_flow 69 = .ok (.iload 6, 2) := by decide +kernel
theorem dX8_flow_71 : decode cX8_flow 71 = .ok (.invokestatic 102, 3) := by decide +kernel
theorem dX8_flow_74 : decode cX8_flow 74 = .ok (.istore 7, 2) := by decide +kernel
theorem dX8_flow_76 : decode cX8_flow 76 = .ok (.iconst 0, 1) := by decide +kernel
theorem dX8_flow_77 : decode cX8_flow 77 = .ok (.istore 8, 2) := by decide +kernel
theorem dX8_flow_79 : decode cX8_flow 79 = .ok (.iload 8, 2) := by decide +kernel
theorem dX8_flow_81 : decode cX8_flow 81 = .ok (.bipush 15, 2) := by decide +kernel
theorem dX8_flow_83 : decode cX8_flow 83 = .ok (.if_icmp .ge 36, 3) := by decide +kernel
theorem dX8_flow_86 : decode cX8_flow 86 = .ok (.aload_n 0, 1) := by decide +kernel
theorem dX8_flow_87 : decode cX8_flow 87 = .ok (.getfield 13, 3) := by decide +kernel
theorem dX8_flow_90 : decode cX8_flow 90 = .ok (.iload 7, 2) := by decide +kernel
theorem dX8_flow_92 : decode cX8_flow 92 = .ok (.iload 8, 2) := by decide +kernel
theorem dX8_flow_94 : decode cX8_flow 94 = .ok (.iadd, 1) := by decide +kernel
theorem dX8_flow_95 : decode cX8_flow 95 = .ok (.iload 8, 2) := by decide +kernel
theorem dX8_flow_97 : decode cX8_flow 97 = .ok (.iconst 5, 1) := by decide +kernel
theorem dX8_flow_98 : decode cX8_flow 98 = .ok (.if_icmp .ge 13, 3) := by decide +kernel
theorem dX8_flow_101 : decode cX8_flow 101 = .ok (.aload_n 0, 1) := by decide +kernel
theorem dX8_flow_102 : decode cX8_flow 102 = .ok (.getfield 45, 3) := by decide +kernel
theorem dX8_flow_105 : decode cX8_flow 105 = .ok (.iload 8, 2) := by decide +kernel
theorem dX8_flow_107 : decode cX8_flow 107 = .ok (.iaload, 1) := by decide +kernel
theorem dX8_flow_108 : decode cX8_flow 108 = .ok (.goto 4, 3) := by decide +kernel
theorem dX8_flow_111 : decode cX8_flow 111 = .ok (.iconst 0, 1) := by decide +kernel
theorem dX8_flow_112 : decode cX8_flow 112 = .ok (.iastore, 1) := by decide +kernel
theorem dX8_flow_113 : decode cX8_flow 113 = .ok (.iinc 8 1, 3) := by decide +kernel
theorem dX8_flow_116 : decode cX8_flow 116 = .ok (.goto (-37), 3) := by decide +kernel
theorem dX8_flow_119 : decode cX8_flow 119 = .ok (.aload_n 0, 1) := by decide +kernel
theorem dX8_flow_120 : decode cX8_flow 120 = .ok (.getfield 13, 3) := by decide +kernel
theorem dX8_flow_123 : decode cX8_flow 123 = .ok (.iload 7, 2) := by decide +kernel
theorem dX8_flow_125 : decode cX8_flow 125 = .ok (.bipush 11, 2) := by decide +kernel
theorem dX8_flow_127 : decode cX8_flow 127 = .ok (.iadd, 1) := by decide +kernel
theorem dX8_flow_128 : decode cX8_flow 128 = .ok (.iconst (-1), 1) := by decide +kernel
theorem dX8_flow_129 : decode cX8_flow 129 = .ok (.iastore, 1) := by decide +kernel
theorem dX8_flow_130 : decode cX8_flow 130 = .ok (.aload_n 0, 1) := by decide +kernel
theorem dX8_flow_131 : decode cX8_flow 131 = .ok (.getfield 13, 3) := by decide +kernel
theorem dX8_flow_134 : decode cX8_flow 134 = .ok (.iconst 4, 1) := by decide +kernel
theorem dX8_flow_135 : decode cX8_flow 135 = .ok (.dup2, 1) := by decide +kernel
theorem dX8_flow_136 : decode cX8_flow 136 = .ok (.iaload, 1) := by decide +kernel
theorem dX8_flow_137 : decode cX8_flow 137 = .ok (.iconst 1, 1) := by decide +kernel
theorem dX8_flow_138 : decode cX8_flow 138 = .ok (.iadd, 1) := by decide +kernel
theorem dX8_flow_139 : decode cX8_flow 139 = .ok (.iastore, 1) := by decide +kernel
theorem dX8_flow_140 : decode cX8_flow 140 = .ok (.aload_n 0, 1) := by decide +kernel
theorem dX8_flow_141 : decode cX8_flow 141 = .ok (.iload 6, 2) := by decide +kernel
theorem dX8_flow_143 : decode cX8_flow 143 = .ok (.invokevirtual 113, 3) := by decide +kernel
theorem dX8_flow_146 : decode cX8_flow 146 = .ok (.aload_n 0, 1) := by decide +kernel
theorem dX8_flow_147 : decode cX8_flow 147 = .ok (.iload 6, 2) := by decide +kernel
theorem dX8_flow_149 : decode cX8_flow 149 = .ok (.invokevirtual 81, 3) := by decide +kernel
theorem dX8_flow_152 : decode cX8_flow 152 = .ok (.ireturn, 1) := by decide +kernel
theorem dX8_table_0 : decode cX8_table 0 = .ok (.aload_n 0, 1) := by decide +kernel
theorem dX8_table_1 : decode cX8_table 1 = .ok (.iconst 0, 1) := by decide +kernel
theorem dX8_table_2 : decode cX8_table 2 = .ok (.putfield 61, 3) := by decide +kernel
theorem dX8_table_5 : decode cX8_table 5 = .ok (.iload_n 1, 1) := by decide +kernel
theorem dX8_table_6 : decode cX8_table 6 = .ok (.i2l, 1) := by decide +kernel
theorem dX8_table_7 : decode cX8_table 7 = .ok (.lconst 0, 1) := by decide +kernel
theorem dX8_table_8 : decode cX8_table 8 = .ok (.ldc2_w 148, 3) := by decide +kernel
theorem dX8_table_11 : decode cX8_table 11 = .ok (.invokestatic 84, 3) := by decide +kernel
theorem dX8_table_14 : decode cX8_table 14 = .ok (.ifCond .eq 23, 3) := by decide +kernel
theorem dX8_table_17 : decode cX8_table 17 = .ok (.iload_n 2, 1) := by decide +kernel
theorem dX8_table_18 : decode cX8_table 18 = .ok (.invokestatic 150, 3) := by decide +kernel
theorem dX8_table_21 : decode cX8_table 21 = .ok (.ifCond .eq 16, 3) := by decide +kernel
theorem dX8_table_24 : decode cX8_table 24 = .ok (.aload_n 0, 1) := by decide +kernel
theorem dX8_table_25 : decode cX8_table 25 = .ok (.bipush 23, 2) := by decide +kernel
theorem dX8_table_27 : decode cX8_table 27 = .ok (.iload_n 1, 1) := by decide +kernel
theorem dX8_table_28 : decode cX8_table 28 = .ok (.iadd, 1) := by decide +kernel
theorem dX8_table_29 : decode cX8_table 29 = .ok (.iload_n 2, 1) := by decide +kernel
theorem dX8_table_30 : decode cX8_table 30 = .ok (.iconst 3, 1) := by decide +kernel
theorem dX8_table_31 : decode cX8_table 31 = .ok (.invokevirtual 137, 3) := by decide +kernel
theorem dX8_table_34 : decode cX8_table 34 = .ok (.goto 8, 3) := by decide +kernel
theorem dX8_table_37 : decode cX8_table 37 = .ok (.aload_n 0, 1) := by decide +kernel
theorem dX8_table_38 : decode cX8_table 38 = .ok (.iconst (-1), 1) := by decide +kernel
theorem dX8_table_39 : decode cX8_table 39 = .ok (.invokevirtual 75, 3) := by decide +kernel
theorem dX8_table_42 : decode cX8_table 42 = .ok (.ireturn, 1) := by decide +kernel
theorem dX8_nextEntry_0 : decode cX8_nextEntry 0 = .ok (.iconst (-1), 1) := by decide +kernel
theorem dX8_nextEntry_1 : decode cX8_nextEntry 1 = .ok (.istore_n 1, 1) := by decide +kernel
theorem dX8_nextEntry_2 : decode cX8_nextEntry 2 = .ok (.iconst 0, 1) := by decide +kernel
theorem dX8_nextEntry_3 : decode cX8_nextEntry 3 = .ok (.istore_n 2, 1) := by decide +kernel
theorem dX8_nextEntry_4 : decode cX8_nextEntry 4 = .ok (.iload_n 2, 1) := by decide +kernel
theorem dX8_nextEntry_5 : decode cX8_nextEntry 5 = .ok (.bipush 16, 2) := by decide +kernel
theorem dX8_nextEntry_7 : decode cX8_nextEntry 7 = .ok (.if_icmp .ge 50, 3) := by decide +kernel
theorem dX8_nextEntry_10 : decode cX8_nextEntry 10 = .ok (.aload_n 0, 1) := by decide +kernel
theorem dX8_nextEntry_11 : decode cX8_nextEntry 11 = .ok (.getfield 51, 3) := by decide +kernel
theorem dX8_nextEntry_14 : decode cX8_nextEntry 14 = .ok (.iload_n 2, 1) := by decide +kernel
theorem dX8_nextEntry_15 : decode cX8_nextEntry 15 = .ok (.baload, 1) := by decide +kernel
theorem dX8_nextEntry_16 : decode cX8_nextEntry 16 = .ok (.ifCond .ne 33, 3) := by decide +kernel
theorem dX8_nextEntry_19 : decode cX8_nextEntry 19 = .ok (.iload_n 1, 1) := by decide +kernel
theorem dX8_nextEntry_20 : decode cX8_nextEntry 20 = .ok (.iconst (-1), 1) := by decide +kernel
theorem dX8_nextEntry_21 : decode cX8_nextEntry 21 = .ok (.if_icmp .eq 24, 3) := by decide +kernel
theorem dX8_nextEntry_24 : decode cX8_nextEntry 24 = .ok (.aload_n 0, 1) := by decide +kernel
theorem dX8_nextEntry_25 : decode cX8_nextEntry 25 = .ok (.getfield 13, 3) := by decide +kernel
theorem dX8_nextEntry_28 : decode cX8_nextEntry 28 = .ok (.bipush 39, 2) := by decide +kernel
theorem dX8_nextEntry_30 : decode cX8_nextEntry 30 = .ok (.iload_n 2, 1) := by decide +kernel
theorem dX8_nextEntry_31 : decode cX8_nextEntry 31 = .ok (.iadd, 1) := by decide +kernel
theorem dX8_nextEntry_32 : decode cX8_nextEntry 32 = .ok (.iaload, 1) := by decide +kernel
theorem dX8_nextEntry_33 : decode cX8_nextEntry 33 = .ok (.aload_n 0, 1) := by decide +kernel
theorem dX8_nextEntry_34 : decode cX8_nextEntry 34 = .ok (.getfield 13, 3) := by decide +kernel
theorem dX8_nextEntry_37 : decode cX8_nextEntry 37 = .ok (.bipush 39, 2) := by decide +kernel
theorem dX8_nextEntry_39 : decode cX8_nextEntry 39 = .ok (.iload_n 1, 1) := by decide +kernel
theorem dX8_nextEntry_40 : decode cX8_nextEntry 40 = .ok (.iadd, 1) := by decide +kernel
theorem dX8_nextEntry_41 : decode cX8_nextEntry 41 = .ok (.iaload, 1) := by decide +kernel
theorem dX8_nextEntry_42 : decode cX8_nextEntry 42 = .ok (.if_icmp .le 7, 3) := by decide +kernel
theorem dX8_nextEntry_45 : decode cX8_nextEntry 45 = .ok (.iload_n 2, 1) := by decide +kernel
theorem dX8_nextEntry_46 : decode cX8_nextEntry 46 = .ok (.goto 4, 3) := by decide +kernel
theorem dX8_nextEntry_49 : decode cX8_nextEntry 49 = .ok (.iload_n 1, 1) := by decide +kernel
theorem dX8_nextEntry_50 : decode cX8_nextEntry 50 = .ok (.istore_n 1, 1) := by decide +kernel
theorem dX8_nextEntry_51 : decode cX8_nextEntry 51 = .ok (.iinc 2 1, 3) := by decide +kernel
theorem dX8_nextEntry_54 : decode cX8_nextEntry 54 = .ok (.goto (-50), 3) := by decide +kernel
theorem dX8_nextEntry_57 : decode cX8_nextEntry 57 = .ok (.iload_n 1, 1) := by decide +kernel
theorem dX8_nextEntry_58 : decode cX8_nextEntry 58 = .ok (.ireturn, 1) := by decide +kernel
theorem dX8_leastShare_0 : decode cX8_leastShare 0 = .ok (.iconst (-1), 1) := by decide +kernel
theorem dX8_leastShare_1 : decode cX8_leastShare 1 = .ok (.istore_n 2, 1) := by decide +kernel
theorem dX8_leastShare_2 : decode cX8_leastShare 2 = .ok (.iconst 0, 1) := by decide +kernel
theorem dX8_leastShare_3 : decode cX8_leastShare 3 = .ok (.istore_n 3, 1) := by decide +kernel
theorem dX8_leastShare_4 : decode cX8_leastShare 4 = .ok (.iload_n 3, 1) := by decide +kernel
theorem dX8_leastShare_5 : decode cX8_leastShare 5 = .ok (.iconst 4, 1) := by decide +kernel
theorem dX8_leastShare_6 : decode cX8_leastShare 6 = .ok (.if_icmp .ge 40, 3) := by decide +kernel
theorem dX8_leastShare_9 : decode cX8_leastShare 9 = .ok (.iload_n 3, 1) := by decide +kernel
theorem dX8_leastShare_10 : decode cX8_leastShare 10 = .ok (.iload_n 1, 1) := by decide +kernel
theorem dX8_leastShare_11 : decode cX8_leastShare 11 = .ok (.if_icmp .eq 27, 3) := by decide +kernel
theorem dX8_leastShare_14 : decode cX8_leastShare 14 = .ok (.iload_n 2, 1) := by decide +kernel
theorem dX8_leastShare_15 : decode cX8_leastShare 15 = .ok (.iconst (-1), 1) := by decide +kernel
theorem dX8_leastShare_16 : decode cX8_leastShare 16 = .ok (.if_icmp .eq 18, 3) := by decide +kernel
theorem dX8_leastShare_19 : decode cX8_leastShare 19 = .ok (.aload_n 0, 1) := by decide +kernel
theorem dX8_leastShare_20 : decode cX8_leastShare 20 = .ok (.getfield 48, 3) := by decide +kernel
theorem dX8_leastShare_23 : decode cX8_leastShare 23 = .ok (.iload_n 3, 1) := by decide +kernel
theorem dX8_leastShare_24 : decode cX8_leastShare 24 = .ok (.iaload, 1) := by decide +kernel
theorem dX8_leastShare_25 : decode cX8_leastShare 25 = .ok (.aload_n 0, 1) := by decide +kernel
theorem dX8_leastShare_26 : decode cX8_leastShare 26 = .ok (.getfield 48, 3) := by decide +kernel
theorem dX8_leastShare_29 : decode cX8_leastShare 29 = .ok (.iload_n 2, 1) := by decide +kernel
theorem dX8_leastShare_30 : decode cX8_leastShare 30 = .ok (.iaload, 1) := by decide +kernel
theorem dX8_leastShare_31 : decode cX8_leastShare 31 = .ok (.if_icmp .ge 7, 3) := by decide +kernel
theorem dX8_leastShare_34 : decode cX8_leastShare 34 = .ok (.iload_n 3, 1) := by decide +kernel
theorem dX8_leastShare_35 : decode cX8_leastShare 35 = .ok (.goto 4, 3) := by decide +kernel
theorem dX8_leastShare_38 : decode cX8_leastShare 38 = .ok (.iload_n 2, 1) := by decide +kernel
theorem dX8_leastShare_39 : decode cX8_leastShare 39 = .ok (.istore_n 2, 1) := by decide +kernel
theorem dX8_leastShare_40 : decode cX8_leastShare 40 = .ok (.iinc 3 1, 3) := by decide +kernel
theorem dX8_leastShare_43 : decode cX8_leastShare 43 = .ok (.goto (-39), 3) := by decide +kernel
theorem dX8_leastShare_46 : decode cX8_leastShare 46 = .ok (.iload_n 2, 1) := by decide +kernel
theorem dX8_leastShare_47 : decode cX8_leastShare 47 = .ok (.ireturn, 1) := by decide +kernel
theorem dX8_layBalanced_0 : decode cX8_layBalanced 0 = .ok (.iconst 0, 1) := by decide +kernel
theorem dX8_layBalanced_1 : decode cX8_layBalanced 1 = .ok (.istore_n 1, 1) := by decide +kernel
theorem dX8_layBalanced_2 : decode cX8_layBalanced 2 = .ok (.iconst 0, 1) := by decide +kernel
theorem dX8_layBalanced_3 : decode cX8_layBalanced 3 = .ok (.istore_n 2, 1) := by decide +kernel
theorem dX8_layBalanced_4 : decode cX8_layBalanced 4 = .ok (.iload_n 2, 1) := by decide +kernel
theorem dX8_layBalanced_5 : decode cX8_layBalanced 5 = .ok (.iconst 4, 1) := by decide +kernel
theorem dX8_layBalanced_6 : decode cX8_layBalanced 6 = .ok (.if_icmp .ge 16, 3) := by decide +kernel
theorem dX8_layBalanced_9 : decode cX8_layBalanced 9 = .ok (.aload_n 0, 1) := by decide +kernel
theorem dX8_layBalanced_10 : decode cX8_layBalanced 10 = .ok (.getfield 48, 3) := by decide +kernel
theorem dX8_layBalanced_13 : decode cX8_layBalanced 13 = .ok (.iload_n 2, 1) := by decide +kernel
theorem dX8_layBalanced_14 : decode cX8_layBalanced 14 = .ok (.iconst 0, 1) := by decide +kernel
theorem dX8_layBalanced_15 : decode cX8_layBalanced 15 = .ok (.iastore, 1) := by decide +kernel
theorem dX8_layBalanced_16 : decode cX8_layBalanced 16 = .ok (.iinc 2 1, 3) := by decide +kernel
theorem dX8_layBalanced_19 : decode cX8_layBalanced 19 = .ok (.goto (-15), 3) := by decide +kernel
theorem dX8_layBalanced_22 : decode cX8_layBalanced 22 = .ok (.iconst 0, 1) := by decide +kernel
theorem dX8_layBalanced_23 : decode cX8_layBalanced 23 = .ok (.istore_n 2, 1) := by decide +kernel
theorem dX8_layBalanced_24 : decode cX8_layBalanced 24 = .ok (.iload_n 2, 1) := by decide +kernel
theorem dX8_layBalanced_25 : decode cX8_layBalanced 25 = .ok (.bipush 16, 2) := by decide +kernel
theorem dX8_layBalanced_27 : decode cX8_layBalanced 27 = .ok (.if_icmp .ge 16, 3) := by decide +kernel
theorem dX8_layBalanced_30 : decode cX8_layBalanced 30 = .ok (.aload_n 0, 1) := by decide +kernel
theorem dX8_layBalanced_31 : decode cX8_layBalanced 31 = .ok (.getfield 51, 3) := by decide +kernel
theorem dX8_layBalanced_34 : decode cX8_layBalanced 34 = .ok (.iload_n 2, 1) := by decide +kernel
theorem dX8_layBalanced_35 : decode cX8_layBalanced 35 = .ok (.iconst 0, 1) := by decide +kernel
theorem dX8_layBalanced_36 : decode cX8_layBalanced 36 = .ok (.bastore, 1) := by decide +kernel
theorem dX8_layBalanced_37 : decode cX8_layBalanced 37 = .ok (.iinc 2 1, 3) := by decide +kernel
theorem dX8_layBalanced_40 : decode cX8_layBalanced 40 = .ok (.goto (-16), 3) := by decide +kernel
theorem dX8_layBalanced_43 : decode cX8_layBalanced 43 = .ok (.aload_n 0, 1) := by decide +kernel
theorem dX8_layBalanced_44 : decode cX8_layBalanced 44 = .ok (.invokevirtual 153, 3) := by decide +kernel
theorem dX8_layBalanced_47 : decode cX8_layBalanced 47 = .ok (.istore_n 2, 1) := by decide +kernel
theorem dX8_layBalanced_48 : decode cX8_layBalanced 48 = .ok (.iload_n 2, 1) := by decide +kernel
theorem dX8_layBalanced_49 : decode cX8_layBalanced 49 = .ok (.iconst (-1), 1) := by decide +kernel
theorem dX8_layBalanced_50 : decode cX8_layBalanced 50 = .ok (.if_icmp .eq 73, 3) := by decide +kernel
theorem dX8_layBalanced_53 : decode cX8_layBalanced 53 = .ok (.aload_n 0, 1) := by decide +kernel
theorem dX8_layBalanced_54 : decode cX8_layBalanced 54 = .ok (.iconst (-1), 1) := by decide +kernel
theorem dX8_layBalanced_55 : decode cX8_layBalanced 55 = .ok (.invokevirtual 156, 3) := by decide +kernel
theorem dX8_layBalanced_58 : decode cX8_layBalanced 58 = .ok (.istore_n 3, 1) := by decide +kernel
theorem dX8_layBalanced_59 : decode cX8_layBalanced 59 = .ok (.iload_n 1, 1) := by decide +kernel
theorem dX8_layBalanced_60 : decode cX8_layBalanced 60 = .ok (.aload_n 0, 1) := by decide +kernel
theorem dX8_layBalanced_61 : decode cX8_layBalanced 61 = .ok (.getfield 13, 3) := by decide +kernel
theorem dX8_layBalanced_64 : decode cX8_layBalanced 64 = .ok (.bipush 23, 2) := by decide +kernel
theorem dX8_layBalanced_66 : decode cX8_layBalanced 66 = .ok (.iload_n 2, 1) := by decide +kernel
theorem dX8_layBalanced_67 : decode cX8_layBalanced 67 = .ok (.iadd, 1) := by decide +kernel
theorem dX8_layBalanced_68 : decode cX8_layBalanced 68 = .ok (.iaload, 1) := by decide +kernel
theorem dX8_layBalanced_69 : decode cX8_layBalanced 69 = .ok (.iload_n 3, 1) := by decide +kernel
theorem dX8_layBalanced_70 : decode cX8_layBalanced 70 = .ok (.if_icmp .ne 7, 3) := by decide +kernel
theorem dX8_layBalanced_73 : decode cX8_layBalanced 73 = .ok (.iconst 0, 1) := by decide +kernel
theorem dX8_layBalanced_74 : decode cX8_layBalanced 74 = .ok (.goto 4, 3) := by decide +kernel
theorem dX8_layBalanced_77 : decode cX8_layBalanced 77 = .ok (.iconst 1, 1) := by decide +kernel
theorem dX8_layBalanced_78 : decode cX8_layBalanced 78 = .ok (.iadd, 1) := by decide +kernel
theorem dX8_layBalanced_79 : decode cX8_layBalanced 79 = .ok (.istore_n 1, 1) := by decide +kernel
theorem dX8_layBalanced_80 : decode cX8_layBalanced 80 = .ok (.aload_n 0, 1) := by decide +kernel
theorem dX8_layBalanced_81 : decode cX8_layBalanced 81 = .ok (.getfield 13, 3) := by decide +kernel
theorem dX8_layBalanced_84 : decode cX8_layBalanced 84 = .ok (.bipush 23, 2) := by decide +kernel
theorem dX8_layBalanced_86 : decode cX8_layBalanced 86 = .ok (.iload_n 2, 1) := by decide +kernel
theorem dX8_layBalanced_87 : decode cX8_layBalanced 87 = .ok (.iadd, 1) := by decide +kernel
theorem dX8_layBalanced_88 : decode cX8_layBalanced 88 = .ok (.iload_n 3, 1) := by decide +kernel
theorem dX8_layBalanced_89 : decode cX8_layBalanced 89 = .ok (.iastore, 1) := by decide +kernel
theorem dX8_layBalanced_90 : decode cX8_layBalanced 90 = .ok (.aload_n 0, 1) := by decide +kernel
theorem dX8_layBalanced_91 : decode cX8_layBalanced 91 = .ok (.getfield 48, 3) := by decide +kernel
theorem dX8_layBalanced_94 : decode cX8_layBalanced 94 = .ok (.iload_n 3, 1) := by decide +kernel
theorem dX8_layBalanced_95 : decode cX8_layBalanced 95 = .ok (.dup2, 1) := by decide +kernel
theorem dX8_layBalanced_96 : decode cX8_layBalanced 96 = .ok (.iaload, 1) := by decide +kernel
theorem dX8_layBalanced_97 : decode cX8_layBalanced 97 = .ok (.aload_n 0, 1) := by decide +kernel
theorem dX8_layBalanced_98 : decode cX8_layBalanced 98 = .ok (.getfield 13, 3) := by decide +kernel
theorem dX8_layBalanced_101 : decode cX8_layBalanced 101 = .ok (.bipush 39, 2) := by decide +kernel
theorem dX8_layBalanced_103 : decode cX8_layBalanced 103 = .ok (.iload_n 2, 1) := by decide +kernel
theorem dX8_layBalanced_104 : decode cX8_layBalanced 104 = .ok (.iadd, 1) := by decide +kernel
theorem dX8_layBalanced_105 : decode cX8_layBalanced 105 = .ok (.iaload, 1) := by decide +kernel
theorem dX8_layBalanced_106 : decode cX8_layBalanced 106 = .ok (.iadd, 1) := by decide +kernel
theorem dX8_layBalanced_107 : decode cX8_layBalanced 107 = .ok (.iastore, 1) := by decide +kernel
theorem dX8_layBalanced_108 : decode cX8_layBalanced 108 = .ok (.aload_n 0, 1) := by decide +kernel
theorem dX8_layBalanced_109 : decode cX8_layBalanced 109 = .ok (.getfield 51, 3) := by decide +kernel
theorem dX8_layBalanced_112 : decode cX8_layBalanced 112 = .ok (.iload_n 2, 1) := by decide +kernel
theorem dX8_layBalanced_113 : decode cX8_layBalanced 113 = .ok (.iconst 1, 1) := by decide +kernel
theorem dX8_layBalanced_114 : decode cX8_layBalanced 114 = .ok (.bastore, 1) := by decide +kernel
theorem dX8_layBalanced_115 : decode cX8_layBalanced 115 = .ok (.aload_n 0, 1) := by decide +kernel
theorem dX8_layBalanced_116 : decode cX8_layBalanced 116 = .ok (.invokevirtual 153, 3) := by decide +kernel
theorem dX8_layBalanced_119 : decode cX8_layBalanced 119 = .ok (.istore_n 2, 1) := by decide +kernel
theorem dX8_layBalanced_120 : decode cX8_layBalanced 120 = .ok (.goto (-72), 3) := by decide +kernel
theorem dX8_layBalanced_123 : decode cX8_layBalanced 123 = .ok (.iload_n 1, 1) := by decide +kernel
theorem dX8_layBalanced_124 : decode cX8_layBalanced 124 = .ok (.ireturn, 1) := by decide +kernel
theorem dX8_balance_0 : decode cX8_balance 0 = .ok (.aload_n 0, 1) := by decide +kernel
theorem dX8_balance_1 : decode cX8_balance 1 = .ok (.iconst 0, 1) := by decide +kernel
theorem dX8_balance_2 : decode cX8_balance 2 = .ok (.putfield 61, 3) := by decide +kernel
theorem dX8_balance_5 : decode cX8_balance 5 = .ok (.aload_n 0, 1) := by decide +kernel
theorem dX8_balance_6 : decode cX8_balance 6 = .ok (.iconst 4, 1) := by decide +kernel
theorem dX8_balance_7 : decode cX8_balance 7 = .ok (.invokevirtual 129, 3) := by decide +kernel
theorem dX8_balance_10 : decode cX8_balance 10 = .ok (.aload_n 0, 1) := by decide +kernel
theorem dX8_balance_11 : decode cX8_balance 11 = .ok (.invokevirtual 159, 3) := by decide +kernel
theorem dX8_balance_14 : decode cX8_balance 14 = .ok (.istore_n 1, 1) := by decide +kernel
theorem dX8_balance_15 : decode cX8_balance 15 = .ok (.iconst 0, 1) := by decide +kernel
theorem dX8_balance_16 : decode cX8_balance 16 = .ok (.istore_n 2, 1) := by decide +kernel
theorem dX8_balance_17 : decode cX8_balance 17 = .ok (.iload_n 2, 1) := by decide +kernel
theorem dX8_balance_18 : decode cX8_balance 18 = .ok (.bipush 16, 2) := by decide +kernel
theorem dX8_balance_20 : decode cX8_balance 20 = .ok (.if_icmp .ge 19, 3) := by decide +kernel
theorem dX8_balance_23 : decode cX8_balance 23 = .ok (.aload_n 0, 1) := by decide +kernel
theorem dX8_balance_24 : decode cX8_balance 24 = .ok (.getfield 13, 3) := by decide +kernel
theorem dX8_balance_27 : decode cX8_balance 27 = .ok (.bipush 39, 2) := by decide +kernel
theorem dX8_balance_29 : decode cX8_balance 29 = .ok (.iload_n 2, 1) := by decide +kernel
theorem dX8_balance_30 : decode cX8_balance 30 = .ok (.iadd, 1) := by decide +kernel
theorem dX8_balance_31 : decode cX8_balance 31 = .ok (.iconst 0, 1) := by decide +kernel
theorem dX8_balance_32 : decode cX8_balance 32 = .ok (.iastore, 1) := by decide +kernel
theorem dX8_balance_33 : decode cX8_balance 33 = .ok (.iinc 2 1, 3) := by decide +kernel
theorem dX8_balance_36 : decode cX8_balance 36 = .ok (.goto (-19), 3) := by decide +kernel
theorem dX8_balance_39 : decode cX8_balance 39 = .ok (.aload_n 0, 1) := by decide +kernel
theorem dX8_balance_40 : decode cX8_balance 40 = .ok (.iload_n 1, 1) := by decide +kernel
theorem dX8_balance_41 : decode cX8_balance 41 = .ok (.invokevirtual 81, 3) := by decide +kernel
theorem dX8_balance_44 : decode cX8_balance 44 = .ok (.ireturn, 1) := by decide +kernel
theorem dX8_reads_0 : decode cX8_reads 0 = .ok (.aload_n 0, 1) := by decide +kernel
theorem dX8_reads_1 : decode cX8_reads 1 = .ok (.iconst 0, 1) := by decide +kernel
theorem dX8_reads_2 : decode cX8_reads 2 = .ok (.putfield 61, 3) := by decide +kernel
theorem dX8_reads_5 : decode cX8_reads 5 = .ok (.iload_n 2, 1) := by decide +kernel
theorem dX8_reads_6 : decode cX8_reads 6 = .ok (.i2l, 1) := by decide +kernel
theorem dX8_reads_7 : decode cX8_reads 7 = .ok (.ldc2_w 162, 3) := by decide +kernel
theorem dX8_reads_10 : decode cX8_reads 10 = .ok (.ldc2_w 88, 3) := by decide +kernel
theorem dX8_reads_13 : decode cX8_reads 13 = .ok (.invokestatic 84, 3) := by decide +kernel
theorem dX8_reads_16 : decode cX8_reads 16 = .ok (.ifCond .ne 9, 3) := by decide +kernel
theorem dX8_reads_19 : decode cX8_reads 19 = .ok (.aload_n 0, 1) := by decide +kernel
theorem dX8_reads_20 : decode cX8_reads 20 = .ok (.iconst (-1), 1) := by decide +kernel
theorem dX8_reads_21 : decode cX8_reads 21 = .ok (.invokevirtual 75, 3) := by decide +kernel
theorem dX8_reads_24 : decode cX8_reads 24 = .ok (.ireturn, 1) := by decide +kernel
theorem dX8_reads_25 : decode cX8_reads 25 = .ok (.aload_n 0, 1) := by decide +kernel
theorem dX8_reads_26 : decode cX8_reads 26 = .ok (.iload_n 1, 1) := by decide +kernel
theorem dX8_reads_27 : decode cX8_reads 27 = .ok (.invokevirtual 164, 3) := by decide +kernel
theorem dX8_reads_30 : decode cX8_reads 30 = .ok (.ifCond .eq 20, 3) := by decide +kernel
theorem dX8_reads_33 : decode cX8_reads 33 = .ok (.aload_n 0, 1) := by decide +kernel
theorem dX8_reads_34 : decode cX8_reads 34 = .ok (.iload_n 1, 1) := by decide +kernel
theorem dX8_reads_35 : decode cX8_reads 35 = .ok (.invokestatic 102, 3) := by decide +kernel
theorem dX8_reads_38 : decode cX8_reads 38 = .ok (.bipush 11, 2) := by decide +kernel
theorem dX8_reads_40 : decode cX8_reads 40 = .ok (.iadd, 1) := by decide +kernel
theorem dX8_reads_41 : decode cX8_reads 41 = .ok (.iload_n 2, 1) := by decide +kernel
theorem dX8_reads_42 : decode cX8_reads 42 = .ok (.bipush 13, 2) := by decide +kernel
theorem dX8_reads_44 : decode cX8_reads 44 = .ok (.invokevirtual 137, 3) := by decide +kernel
theorem dX8_reads_47 : decode cX8_reads 47 = .ok (.goto 9, 3) := by decide +kernel
theorem dX8_reads_50 : decode cX8_reads 50 = .ok (.aload_n 0, 1) := by decide +kernel
theorem dX8_reads_51 : decode cX8_reads 51 = .ok (.bipush (-2), 2) := by decide +kernel
theorem dX8_reads_53 : decode cX8_reads 53 = .ok (.invokevirtual 75, 3) := by decide +kernel
theorem dX8_reads_56 : decode cX8_reads 56 = .ok (.ireturn, 1) := by decide +kernel
theorem dX8_dropRule_0 : decode cX8_dropRule 0 = .ok (.aload_n 0, 1) := by decide +kernel
theorem dX8_dropRule_1 : decode cX8_dropRule 1 = .ok (.getfield 13, 3) := by decide +kernel
theorem dX8_dropRule_4 : decode cX8_dropRule 4 = .ok (.iconst 5, 1) := by decide +kernel
theorem dX8_dropRule_5 : decode cX8_dropRule 5 = .ok (.dup2, 1) := by decide +kernel
theorem dX8_dropRule_6 : decode cX8_dropRule 6 = .ok (.iaload, 1) := by decide +kernel
theorem dX8_dropRule_7 : decode cX8_dropRule 7 = .ok (.iconst 1, 1) := by decide +kernel
theorem dX8_dropRule_8 : decode cX8_dropRule 8 = .ok (.isub, 1) := by decide +kernel
theorem dX8_dropRule_9 : decode cX8_dropRule 9 = .ok (.iastore, 1) := by decide +kernel
theorem dX8_dropRule_10 : decode cX8_dropRule 10 = .ok (.iload_n 1, 1) := by decide +kernel
theorem dX8_dropRule_11 : decode cX8_dropRule 11 = .ok (.invokestatic 116, 3) := by decide +kernel
theorem dX8_dropRule_14 : decode cX8_dropRule 14 = .ok (.istore_n 2, 1) := by decide +kernel
theorem dX8_dropRule_15 : decode cX8_dropRule 15 = .ok (.iload_n 2, 1) := by decide +kernel
theorem dX8_dropRule_16 : decode cX8_dropRule 16 = .ok (.aload_n 0, 1) := by decide +kernel
theorem dX8_dropRule_17 : decode cX8_dropRule 17 = .ok (.getfield 13, 3) := by decide +kernel
theorem dX8_dropRule_20 : decode cX8_dropRule 20 = .ok (.iconst 5, 1) := by decide +kernel
theorem dX8_dropRule_21 : decode cX8_dropRule 21 = .ok (.iaload, 1) := by decide +kernel
theorem dX8_dropRule_22 : decode cX8_dropRule 22 = .ok (.invokestatic 116, 3) := by decide +kernel
theorem dX8_dropRule_25 : decode cX8_dropRule 25 = .ok (.if_icmp .ge 23, 3) := by decide +kernel
theorem dX8_dropRule_28 : decode cX8_dropRule 28 = .ok (.aload_n 0, 1) := by decide +kernel
theorem dX8_dropRule_29 : decode cX8_dropRule 29 = .ok (.getfield 13, 3) := by decide +kernel
theorem dX8_dropRule_32 : decode cX8_dropRule 32 = .ok (.iload_n 2, 1) := by decide +kernel
theorem dX8_dropRule_33 : decode cX8_dropRule 33 = .ok (.aload_n 0, 1) := by decide +kernel
theorem dX8_dropRule_34 : decode cX8_dropRule 34 = .ok (.getfield 13, 3) := by decide +kernel
theorem dX8_dropRule_37 : decode cX8_dropRule 37 = .ok (.iload_n 2, 1) := by decide +kernel
theorem dX8_dropRule_38 : decode cX8_dropRule 38 = .ok (.iconst 3, 1) := by decide +kernel
theorem dX8_dropRule_39 : decode cX8_dropRule 39 = .ok (.iadd, 1) := by decide +kernel
theorem dX8_dropRule_40 : decode cX8_dropRule 40 = .ok (.iaload, 1) := by decide +kernel
theorem dX8_dropRule_41 : decode cX8_dropRule 41 = .ok (.iastore, 1) := by decide +kernel
theorem dX8_dropRule_42 : decode cX8_dropRule 42 = .ok (.iinc 2 1, 3) := by decide +kernel
theorem dX8_dropRule_45 : decode cX8_dropRule 45 = .ok (.goto (-30), 3) := by decide +kernel
theorem dX8_dropRule_48 : decode cX8_dropRule 48 = .ok (.return_, 1) := by decide +kernel
theorem dX8_retire_0 : decode cX8_retire 0 = .ok (.aload_n 0, 1) := by decide +kernel
theorem dX8_retire_1 : decode cX8_retire 1 = .ok (.iconst 0, 1) := by decide +kernel
theorem dX8_retire_2 : decode cX8_retire 2 = .ok (.putfield 61, 3) := by decide +kernel
theorem dX8_retire_5 : decode cX8_retire 5 = .ok (.iload_n 1, 1) := by decide +kernel
theorem dX8_retire_6 : decode cX8_retire 6 = .ok (.invokestatic 150, 3) := by decide +kernel
theorem dX8_retire_9 : decode cX8_retire 9 = .ok (.ifCond .ne 9, 3) := by decide +kernel
theorem dX8_retire_12 : decode cX8_retire 12 = .ok (.aload_n 0, 1) := by decide +kernel
theorem dX8_retire_13 : decode cX8_retire 13 = .ok (.iconst (-1), 1) := by decide +kernel
theorem dX8_retire_14 : decode cX8_retire 14 = .ok (.invokevirtual 75, 3) := by decide +kernel
theorem dX8_retire_17 : decode cX8_retire 17 = .ok (.ireturn, 1) := by decide +kernel
theorem dX8_retire_18 : decode cX8_retire 18 = .ok (.aload_n 0, 1) := by decide +kernel
theorem dX8_retire_19 : decode cX8_retire 19 = .ok (.bipush 14, 2) := by decide +kernel
theorem dX8_retire_21 : decode cX8_retire 21 = .ok (.invokevirtual 129, 3) := by decide +kernel
theorem dX8_retire_24 : decode cX8_retire 24 = .ok (.aload_n 0, 1) := by decide +kernel
theorem dX8_retire_25 : decode cX8_retire 25 = .ok (.getfield 13, 3) := by decide +kernel
theorem dX8_retire_28 : decode cX8_retire 28 = .ok (.iconst 5, 1) := by decide +kernel
theorem dX8_retire_29 : decode cX8_retire 29 = .ok (.iaload, 1) := by decide +kernel
theorem dX8_retire_30 : decode cX8_retire 30 = .ok (.iconst 1, 1) := by decide +kernel
theorem dX8_retire_31 : decode cX8_retire 31 = .ok (.isub, 1) := by decide +kernel
theorem dX8_retire_32 : decode cX8_retire 32 = .ok (.istore_n 2, 1) := by decide +kernel
theorem dX8_retire_33 : decode cX8_retire 33 = .ok (.iload_n 2, 1) := by decide +kernel
theorem dX8_retire_34 : decode cX8_retire 34 = .ok (.ifCond .lt 29, 3) := by decide +kernel
theorem dX8_retire_37 : decode cX8_retire 37 = .ok (.aload_n 0, 1) := by decide +kernel
theorem dX8_retire_38 : decode cX8_retire 38 = .ok (.getfield 13, 3) := by decide +kernel
theorem dX8_retire_41 : decode cX8_retire 41 = .ok (.iload_n 2, 1) := by decide +kernel
theorem dX8_retire_42 : decode cX8_retire 42 = .ok (.invokestatic 116, 3) := by decide +kernel
theorem dX8_retire_45 : decode cX8_retire 45 = .ok (.iconst 1, 1) := by decide +kernel
theorem dX8_retire_46 : decode cX8_retire 46 = .ok (.iadd, 1) := by decide +kernel
theorem dX8_retire_47 : decode cX8_retire 47 = .ok (.iaload, 1) := by decide +kernel
theorem dX8_retire_48 : decode cX8_retire 48 = .ok (.iload_n 1, 1) := by decide +kernel
theorem dX8_retire_49 : decode cX8_retire 49 = .ok (.if_icmp .ne 8, 3) := by decide +kernel
theorem dX8_retire_52 : decode cX8_retire 52 = .ok (.aload_n 0, 1) := by decide +kernel
theorem dX8_retire_53 : decode cX8_retire 53 = .ok (.iload_n 2, 1) := by decide +kernel
theorem dX8_retire_54 : decode cX8_retire 54 = .ok (.invokevirtual 167, 3) := by decide +kernel
theorem dX8_retire_57 : decode cX8_retire 57 = .ok (.iinc 2 (-1), 3) := by decide +kernel
theorem dX8_retire_60 : decode cX8_retire 60 = .ok (.goto (-27), 3) := by decide +kernel
theorem dX8_retire_63 : decode cX8_retire 63 = .ok (.iconst 0, 1) := by decide +kernel
theorem dX8_retire_64 : decode cX8_retire 64 = .ok (.istore_n 2, 1) := by decide +kernel
theorem dX8_retire_65 : decode cX8_retire 65 = .ok (.iload_n 2, 1) := by decide +kernel
theorem dX8_retire_66 : decode cX8_retire 66 = .ok (.iconst 4, 1) := by decide +kernel
theorem dX8_retire_67 : decode cX8_retire 67 = .ok (.if_icmp .ge 16, 3) := by decide +kernel
theorem dX8_retire_70 : decode cX8_retire 70 = .ok (.aload_n 0, 1) := by decide +kernel
theorem dX8_retire_71 : decode cX8_retire 71 = .ok (.getfield 48, 3) := by decide +kernel
theorem dX8_retire_74 : decode cX8_retire 74 = .ok (.iload_n 2, 1) := by decide +kernel
theorem dX8_retire_75 : decode cX8_retire 75 = .ok (.iconst 0, 1) := by decide +kernel
theorem dX8_retire_76 : decode cX8_retire 76 = .ok (.iastore, 1) := by decide +kernel
theorem dX8_retire_77 : decode cX8_retire 77 = .ok (.iinc 2 1, 3) := by decide +kernel
theorem dX8_retire_80 : decode cX8_retire 80 = .ok (.goto (-15), 3) := by decide +kernel
theorem dX8_retire_83 : decode cX8_retire 83 = .ok (.iconst 0, 1) := by decide +kernel
theorem dX8_retire_84 : decode cX8_retire 84 = .ok (.istore_n 2, 1) := by decide +kernel
theorem dX8_retire_85 : decode cX8_retire 85 = .ok (.iload_n 2, 1) := by decide +kernel
theorem dX8_retire_86 : decode cX8_retire 86 = .ok (.bipush 16, 2) := by decide +kernel
theorem dX8_retire_88 : decode cX8_retire 88 = .ok (.if_icmp .ge 59, 3) := by decide +kernel
theorem dX8_retire_91 : decode cX8_retire 91 = .ok (.aload_n 0, 1) := by decide +kernel
theorem dX8_retire_92 : decode cX8_retire 92 = .ok (.getfield 51, 3) := by decide +kernel
theorem dX8_retire_95 : decode cX8_retire 95 = .ok (.iload_n 2, 1) := by decide +kernel
theorem dX8_retire_96 : decode cX8_retire 96 = .ok (.aload_n 0, 1) := by decide +kernel
theorem dX8_retire_97 : decode cX8_retire 97 = .ok (.getfield 13, 3) := by decide +kernel
theorem dX8_retire_100 : decode cX8_retire 100 = .ok (.bipush 23, 2) := by decide +kernel
theorem dX8_retire_102 : decode cX8_retire 102 = .ok (.iload_n 2, 1) := by decide +kernel
theorem dX8_retire_103 : decode cX8_retire 103 = .ok (.iadd, 1) := by decide +kernel
theorem dX8_retire_104 : decode cX8_retire 104 = .ok (.iaload, 1) := by decide +kernel
theorem dX8_retire_105 : decode cX8_retire 105 = .ok (.iload_n 1, 1) := by decide +kernel
theorem dX8_retire_106 : decode cX8_retire 106 = .ok (.if_icmp .eq 7, 3) := by decide +kernel
theorem dX8_retire_109 : decode cX8_retire 109 = .ok (.iconst 1, 1) := by decide +kernel
theorem dX8_retire_110 : decode cX8_retire 110 = .ok (.goto 4, 3) := by decide +kernel
theorem dX8_retire_113 : decode cX8_retire 113 = .ok (.iconst 0, 1) := by decide +kernel
theorem dX8_retire_114 : decode cX8_retire 114 = .ok (.bastore, 1) := by decide +kernel
theorem dX8_retire_115 : decode cX8_retire 115 = .ok (.aload_n 0, 1) := by decide +kernel
theorem dX8_retire_116 : decode cX8_retire 116 = .ok (.getfield 48, 3) := by decide +kernel
theorem dX8_retire_119 : decode cX8_retire 119 = .ok (.aload_n 0, 1) := by decide +kernel
theorem dX8_retire_120 : decode cX8_retire 120 = .ok (.getfield 13, 3) := by decide +kernel
theorem dX8_retire_123 : decode cX8_retire 123 = .ok (.bipush 23, 2) := by decide +kernel
theorem dX8_retire_125 : decode cX8_retire 125 = .ok (.iload_n 2, 1) := by decide +kernel
theorem dX8_retire_126 : decode cX8_retire 126 = .ok (.iadd, 1) := by decide +kernel
theorem dX8_retire_127 : decode cX8_retire 127 = .ok (.iaload, 1) := by decide +kernel
theorem dX8_retire_128 : decode cX8_retire 128 = .ok (.dup2, 1) := by decide +kernel
theorem dX8_retire_129 : decode cX8_retire 129 = .ok (.iaload, 1) := by decide +kernel
theorem dX8_retire_130 : decode cX8_retire 130 = .ok (.aload_n 0, 1) := by decide +kernel
theorem dX8_retire_131 : decode cX8_retire 131 = .ok (.getfield 13, 3) := by decide +kernel
theorem dX8_retire_134 : decode cX8_retire 134 = .ok (.bipush 39, 2) := by decide +kernel
theorem dX8_retire_136 : decode cX8_retire 136 = .ok (.iload_n 2, 1) := by decide +kernel
theorem dX8_retire_137 : decode cX8_retire 137 = .ok (.iadd, 1) := by decide +kernel
theorem dX8_retire_138 : decode cX8_retire 138 = .ok (.iaload, 1) := by decide +kernel
theorem dX8_retire_139 : decode cX8_retire 139 = .ok (.iadd, 1) := by decide +kernel
theorem dX8_retire_140 : decode cX8_retire 140 = .ok (.iastore, 1) := by decide +kernel
theorem dX8_retire_141 : decode cX8_retire 141 = .ok (.iinc 2 1, 3) := by decide +kernel
theorem dX8_retire_144 : decode cX8_retire 144 = .ok (.goto (-59), 3) := by decide +kernel
theorem dX8_retire_147 : decode cX8_retire 147 = .ok (.iconst 0, 1) := by decide +kernel
theorem dX8_retire_148 : decode cX8_retire 148 = .ok (.istore_n 2, 1) := by decide +kernel
theorem dX8_retire_149 : decode cX8_retire 149 = .ok (.aload_n 0, 1) := by decide +kernel
theorem dX8_retire_150 : decode cX8_retire 150 = .ok (.invokevirtual 153, 3) := by decide +kernel
theorem dX8_retire_153 : decode cX8_retire 153 = .ok (.istore_n 3, 1) := by decide +kernel
theorem dX8_retire_154 : decode cX8_retire 154 = .ok (.iload_n 3, 1) := by decide +kernel
theorem dX8_retire_155 : decode cX8_retire 155 = .ok (.iconst (-1), 1) := by decide +kernel
theorem dX8_retire_156 : decode cX8_retire 156 = .ok (.if_icmp .eq 58, 3) := by decide +kernel
theorem dX8_retire_159 : decode cX8_retire 159 = .ok (.aload_n 0, 1) := by decide +kernel
theorem dX8_retire_160 : decode cX8_retire 160 = .ok (.iload_n 1, 1) := by decide +kernel
theorem dX8_retire_161 : decode cX8_retire 161 = .ok (.invokevirtual 156, 3) := by decide +kernel
theorem dX8_retire_164 : decode cX8_retire 164 = .ok (.istore 4, 2) := by decide +kernel
theorem dX8_retire_166 : decode cX8_retire 166 = .ok (.aload_n 0, 1) := by decide +kernel
theorem dX8_retire_167 : decode cX8_retire 167 = .ok (.getfield 13, 3) := by decide +kernel
theorem dX8_retire_170 : decode cX8_retire 170 = .ok (.bipush 23, 2) := by decide +kernel
theorem dX8_retire_172 : decode cX8_retire 172 = .ok (.iload_n 3, 1) := by decide +kernel
theorem dX8_retire_173 : decode cX8_retire 173 = .ok (.iadd, 1) := by decide +kernel
theorem dX8_retire_174 : decode cX8_retire 174 = .ok (.iload 4, 2) := by decide +kernel
theorem dX8_retire_176 : decode cX8_retire 176 = .ok (.iastore, 1) := by decide +kernel
theorem dX8_retire_177 : decode cX8_retire 177 = .ok (.aload_n 0, 1) := by decide +kernel
theorem dX8_retire_178 : decode cX8_retire 178 = .ok (.getfield 48, 3) := by decide +kernel
theorem dX8_retire_181 : decode cX8_retire 181 = .ok (.iload 4, 2) := by decide +kernel
theorem dX8_retire_183 : decode cX8_retire 183 = .ok (.dup2, 1) := by decide +kernel
theorem dX8_retire_184 : decode cX8_retire 184 = .ok (.iaload, 1) := by decide +kernel
theorem dX8_retire_185 : decode cX8_retire 185 = .ok (.aload_n 0, 1) := by decide +kernel
theorem dX8_retire_186 : decode cX8_retire 186 = .ok (.getfield 13, 3) := by decide +kernel
theorem dX8_retire_189 : decode cX8_retire 189 = .ok (.bipush 39, 2) := by decide +kernel
theorem dX8_retire_191 : decode cX8_retire 191 = .ok (.iload_n 3, 1) := by decide +kernel
theorem dX8_retire_192 : decode cX8_retire 192 = .ok (.iadd, 1) := by decide +kernel
theorem dX8_retire_193 : decode cX8_retire 193 = .ok (.iaload, 1) := by decide +kernel
theorem dX8_retire_194 : decode cX8_retire 194 = .ok (.iadd, 1) := by decide +kernel
theorem dX8_retire_195 : decode cX8_retire 195 = .ok (.iastore, 1) := by decide +kernel
theorem dX8_retire_196 : decode cX8_retire 196 = .ok (.aload_n 0, 1) := by decide +kernel
theorem dX8_retire_197 : decode cX8_retire 197 = .ok (.getfield 51, 3) := by decide +kernel
theorem dX8_retire_200 : decode cX8_retire 200 = .ok (.iload_n 3, 1) := by decide +kernel
theorem dX8_retire_201 : decode cX8_retire 201 = .ok (.iconst 1, 1) := by decide +kernel
theorem dX8_retire_202 : decode cX8_retire 202 = .ok (.bastore, 1) := by decide +kernel
theorem dX8_retire_203 : decode cX8_retire 203 = .ok (.iinc 2 1, 3) := by decide +kernel
theorem dX8_retire_206 : decode cX8_retire 206 = .ok (.aload_n 0, 1) := by decide +kernel
theorem dX8_retire_207 : decode cX8_retire 207 = .ok (.invokevirtual 153, 3) := by decide +kernel
theorem dX8_retire_210 : decode cX8_retire 210 = .ok (.istore_n 3, 1) := by decide +kernel
theorem dX8_retire_211 : decode cX8_retire 211 = .ok (.goto (-57), 3) := by decide +kernel
theorem dX8_retire_214 : decode cX8_retire 214 = .ok (.aload_n 0, 1) := by decide +kernel
theorem dX8_retire_215 : decode cX8_retire 215 = .ok (.iload_n 2, 1) := by decide +kernel
theorem dX8_retire_216 : decode cX8_retire 216 = .ok (.invokevirtual 81, 3) := by decide +kernel
theorem dX8_retire_219 : decode cX8_retire 219 = .ok (.ireturn, 1) := by decide +kernel
theorem dX8_steers_0 : decode cX8_steers 0 = .ok (.aload_n 0, 1) := by decide +kernel
theorem dX8_steers_1 : decode cX8_steers 1 = .ok (.iload_n 1, 1) := by decide +kernel
theorem dX8_steers_2 : decode cX8_steers 2 = .ok (.invokevirtual 119, 3) := by decide +kernel
theorem dX8_steers_5 : decode cX8_steers 5 = .ok (.istore_n 3, 1) := by decide +kernel
theorem dX8_steers_6 : decode cX8_steers 6 = .ok (.iconst (-1), 1) := by decide +kernel
theorem dX8_steers_7 : decode cX8_steers 7 = .ok (.istore 4, 2) := by decide +kernel
theorem dX8_steers_9 : decode cX8_steers 9 = .ok (.iload_n 3, 1) := by decide +kernel
theorem dX8_steers_10 : decode cX8_steers 10 = .ok (.iconst (-1), 1) := by decide +kernel
theorem dX8_steers_11 : decode cX8_steers 11 = .ok (.if_icmp .ne 133, 3) := by decide +kernel
theorem dX8_steers_14 : decode cX8_steers 14 = .ok (.aload_n 0, 1) := by decide +kernel
theorem dX8_steers_15 : decode cX8_steers 15 = .ok (.getfield 13, 3) := by decide +kernel
theorem dX8_steers_18 : decode cX8_steers 18 = .ok (.iconst 5, 1) := by decide +kernel
theorem dX8_steers_19 : decode cX8_steers 19 = .ok (.iaload, 1) := by decide +kernel
theorem dX8_steers_20 : decode cX8_steers 20 = .ok (.bipush 6, 2) := by decide +kernel
theorem dX8_steers_22 : decode cX8_steers 22 = .ok (.if_icmp .ne 122, 3) := by decide +kernel
theorem dX8_steers_25 : decode cX8_steers 25 = .ok (.iconst 0, 1) := by decide +kernel
theorem dX8_steers_26 : decode cX8_steers 26 = .ok (.istore 5, 2) := by decide +kernel
theorem dX8_steers_28 : decode cX8_steers 28 = .ok (.iconst 1, 1) := by decide +kernel
theorem dX8_steers_29 : decode cX8_steers 29 = .ok (.istore 6, 2) := by decide +kernel
theorem dX8_steers_31 : decode cX8_steers 31 = .ok (.iload 6, 2) := by decide +kernel
theorem dX8_steers_33 : decode cX8_steers 33 = .ok (.bipush 6, 2) := by decide +kernel
theorem dX8_steers_35 : decode cX8_steers 35 = .ok (.if_icmp .ge 91, 3) := by decide +kernel
theorem dX8_steers_38 : decode cX8_steers 38 = .ok (.iload 6, 2) := by decide +kernel
theorem dX8_steers_40 : decode cX8_steers 40 = .ok (.invokestatic 116, 3) := by decide +kernel
theorem dX8_steers_43 : decode cX8_steers 43 = .ok (.istore 7, 2) := by decide +kernel
theorem dX8_steers_45 : decode cX8_steers 45 = .ok (.iload 5, 2) := by decide +kernel
theorem dX8_steers_47 : decode cX8_steers 47 = .ok (.invokestatic 116, 3) := by decide +kernel
theorem dX8_steers_50 : decode cX8_steers 50 = .ok (.istore 8, 2) := by decide +kernel
theorem dX8_steers_52 : decode cX8_steers 52 = .ok (.aload_n 0, 1) := by decide +kernel
theorem dX8_steers_53 : decode cX8_steers 53 = .ok (.getfield 13, 3) := by decide +kernel
theorem dX8_steers_56 : decode cX8_steers 56 = .ok (.iload 7, 2) := by decide +kernel
theorem dX8_steers_58 : decode cX8_steers 58 = .ok (.iconst 2, 1) := by decide +kernel
theorem dX8_steers_59 : decode cX8_steers 59 = .ok (.iadd, 1) := by decide +kernel
theorem dX8_steers_60 : decode cX8_steers 60 = .ok (.iaload, 1) := by decide +kernel
theorem dX8_steers_61 : decode cX8_steers 61 = .ok (.aload_n 0, 1) := by decide +kernel
theorem dX8_steers_62 : decode cX8_steers 62 = .ok (.getfield 13, 3) := by decide +kernel
theorem dX8_steers_65 : decode cX8_steers 65 = .ok (.iload 8, 2) := by decide +kernel
theorem dX8_steers_67 : decode cX8_steers 67 = .ok (.iconst 2, 1) := by decide +kernel
theorem dX8_steers_68 : decode cX8_steers 68 = .ok (.iadd, 1) := by decide +kernel
theorem dX8_steers_69 : decode cX8_steers 69 = .ok (.iaload, 1) := by decide +kernel
theorem dX8_steers_70 : decode cX8_steers 70 = .ok (.if_icmp .lt 41, 3) := by decide +kernel
theorem dX8_steers_73 : decode cX8_steers 73 = .ok (.aload_n 0, 1) := by decide +kernel
theorem dX8_steers_74 : decode cX8_steers 74 = .ok (.getfield 13, 3) := by decide +kernel
theorem dX8_steers_77 : decode cX8_steers 77 = .ok (.iload 7, 2) := by decide +kernel
theorem dX8_steers_79 : decode cX8_steers 79 = .ok (.iconst 2, 1) := by decide +kernel
theorem dX8_steers_80 : decode cX8_steers 80 = .ok (.iadd, 1) := by decide +kernel
theorem dX8_steers_81 : decode cX8_steers 81 = .ok (.iaload, 1) := by decide +kernel
theorem dX8_steers_82 : decode cX8_steers 82 = .ok (.aload_n 0, 1) := by decide +kernel
theorem dX8_steers_83 : decode cX8_steers 83 = .ok (.getfield 13, 3) := by decide +kernel
theorem dX8_steers_86 : decode cX8_steers 86 = .ok (.iload 8, 2) := by decide +kernel
theorem dX8_steers_88 : decode cX8_steers 88 = .ok (.iconst 2, 1) := by decide +kernel
theorem dX8_steers_89 : decode cX8_steers 89 = .ok (.iadd, 1) := by decide +kernel
theorem dX8_steers_90 : decode cX8_steers 90 = .ok (.iaload, 1) := by decide +kernel
theorem dX8_steers_91 : decode cX8_steers 91 = .ok (.if_icmp .ne 25, 3) := by decide +kernel
theorem dX8_steers_94 : decode cX8_steers 94 = .ok (.aload_n 0, 1) := by decide +kernel
theorem dX8_steers_95 : decode cX8_steers 95 = .ok (.getfield 13, 3) := by decide +kernel
theorem dX8_steers_98 : decode cX8_steers 98 = .ok (.iload 7, 2) := by decide +kernel
theorem dX8_steers_100 : decode cX8_steers 100 = .ok (.iaload, 1) := by decide +kernel
theorem dX8_steers_101 : decode cX8_steers 101 = .ok (.aload_n 0, 1) := by decide +kernel
theorem dX8_steers_102 : decode cX8_steers 102 = .ok (.getfield 13, 3) := by decide +kernel
theorem dX8_steers_105 : decode cX8_steers 105 = .ok (.iload 8, 2) := by decide +kernel
theorem dX8_steers_107 : decode cX8_steers 107 = .ok (.iaload, 1) := by decide +kernel
theorem dX8_steers_108 : decode cX8_steers 108 = .ok (.if_icmp .ge 8, 3) := by decide +kernel
theorem dX8_steers_111 : decode cX8_steers 111 = .ok (.iload 6, 2) := by decide +kernel
theorem dX8_steers_113 : decode cX8_steers 113 = .ok (.goto 5, 3) := by decide +kernel
theorem dX8_steers_116 : decode cX8_steers 116 = .ok (.iload 5, 2) := by decide +kernel
theorem dX8_steers_118 : decode cX8_steers 118 = .ok (.istore 5, 2) := by decide +kernel
theorem dX8_steers_120 : decode cX8_steers 120 = .ok (.iinc 6 1, 3) := by decide +kernel
theorem dX8_steers_123 : decode cX8_steers 123 = .ok (.goto (-92), 3) := by decide +kernel
theorem dX8_steers_126 : decode cX8_steers 126 = .ok (.aload_n 0, 1) := by decide +kernel
theorem dX8_steers_127 : decode cX8_steers 127 = .ok (.getfield 13, 3) := by decide +kernel
theorem dX8_steers_130 : decode cX8_steers 130 = .ok (.iload 5, 2) := by decide +kernel
theorem dX8_steers_132 : decode cX8_steers 132 = .ok (.invokestatic 116, 3) := by decide +kernel
theorem dX8_steers_135 : decode cX8_steers 135 = .ok (.iaload, 1) := by decide +kernel
theorem dX8_steers_136 : decode cX8_steers 136 = .ok (.istore 4, 2) := by decide +kernel
theorem dX8_steers_138 : decode cX8_steers 138 = .ok (.aload_n 0, 1) := by decide +kernel
theorem dX8_steers_139 : decode cX8_steers 139 = .ok (.iload 5, 2) := by decide +kernel
theorem dX8_steers_141 : decode cX8_steers 141 = .ok (.invokevirtual 167, 3) := by decide +kernel
theorem dX8_steers_144 : decode cX8_steers 144 = .ok (.iload_n 3, 1) := by decide +kernel
theorem dX8_steers_145 : decode cX8_steers 145 = .ok (.iconst (-1), 1) := by decide +kernel
theorem dX8_steers_146 : decode cX8_steers 146 = .ok (.if_icmp .ne 20, 3) := by decide +kernel
theorem dX8_steers_149 : decode cX8_steers 149 = .ok (.aload_n 0, 1) := by decide +kernel
theorem dX8_steers_150 : decode cX8_steers 150 = .ok (.getfield 13, 3) := by decide +kernel
theorem dX8_steers_153 : decode cX8_steers 153 = .ok (.iconst 5, 1) := by decide +kernel
theorem dX8_steers_154 : decode cX8_steers 154 = .ok (.iaload, 1) := by decide +kernel
theorem dX8_steers_155 : decode cX8_steers 155 = .ok (.istore_n 3, 1) := by decide +kernel
theorem dX8_steers_156 : decode cX8_steers 156 = .ok (.aload_n 0, 1) := by decide +kernel
theorem dX8_steers_157 : decode cX8_steers 157 = .ok (.getfield 13, 3) := by decide +kernel
theorem dX8_steers_160 : decode cX8_steers 160 = .ok (.iconst 5, 1) := by decide +kernel
theorem dX8_steers_161 : decode cX8_steers 161 = .ok (.dup2, 1) := by decide +kernel
theorem dX8_steers_162 : decode cX8_steers 162 = .ok (.iaload, 1) := by decide +kernel
theorem dX8_steers_163 : decode cX8_steers 163 = .ok (.iconst 1, 1) := by decide +kernel
theorem dX8_steers_164 : decode cX8_steers 164 = .ok (.iadd, 1) := by decide +kernel
theorem dX8_steers_165 : decode cX8_steers 165 = .ok (.iastore, 1) := by decide +kernel
theorem dX8_steers_166 : decode cX8_steers 166 = .ok (.aload_n 0, 1) := by decide +kernel
theorem dX8_steers_167 : decode cX8_steers 167 = .ok (.getfield 13, 3) := by decide +kernel
theorem dX8_steers_170 : decode cX8_steers 170 = .ok (.iload_n 3, 1) := by decide +kernel
theorem dX8_steers_171 : decode cX8_steers 171 = .ok (.invokestatic 116, 3) := by decide +kernel
theorem dX8_steers_174 : decode cX8_steers 174 = .ok (.iload_n 1, 1) := by decide +kernel
theorem dX8_steers_175 : decode cX8_steers 175 = .ok (.iastore, 1) := by decide +kernel
theorem dX8_steers_176 : decode cX8_steers 176 = .ok (.aload_n 0, 1) := by decide +kernel
theorem dX8_steers_177 : decode cX8_steers 177 = .ok (.getfield 13, 3) := by decide +kernel
theorem dX8_steers_180 : decode cX8_steers 180 = .ok (.iload_n 3, 1) := by decide +kernel
theorem dX8_steers_181 : decode cX8_steers 181 = .ok (.invokestatic 116, 3) := by decide +kernel
theorem dX8_steers_184 : decode cX8_steers 184 = .ok (.iconst 1, 1) := by decide +kernel
theorem dX8_steers_185 : decode cX8_steers 185 = .ok (.iadd, 1) := by decide +kernel
theorem dX8_steers_186 : decode cX8_steers 186 = .ok (.iload_n 2, 1) := by decide +kernel
theorem dX8_steers_187 : decode cX8_steers 187 = .ok (.iastore, 1) := by decide +kernel
theorem dX8_steers_188 : decode cX8_steers 188 = .ok (.aload_n 0, 1) := by decide +kernel
theorem dX8_steers_189 : decode cX8_steers 189 = .ok (.getfield 13, 3) := by decide +kernel
theorem dX8_steers_192 : decode cX8_steers 192 = .ok (.iload_n 3, 1) := by decide +kernel
theorem dX8_steers_193 : decode cX8_steers 193 = .ok (.invokestatic 116, 3) := by decide +kernel
theorem dX8_steers_196 : decode cX8_steers 196 = .ok (.iconst 2, 1) := by decide +kernel
theorem dX8_steers_197 : decode cX8_steers 197 = .ok (.iadd, 1) := by decide +kernel
theorem dX8_steers_198 : decode cX8_steers 198 = .ok (.aload_n 0, 1) := by decide +kernel
theorem dX8_steers_199 : decode cX8_steers 199 = .ok (.getfield 13, 3) := by decide +kernel
theorem dX8_steers_202 : decode cX8_steers 202 = .ok (.bipush 6, 2) := by decide +kernel
theorem dX8_steers_204 : decode cX8_steers 204 = .ok (.iaload, 1) := by decide +kernel
theorem dX8_steers_205 : decode cX8_steers 205 = .ok (.iastore, 1) := by decide +kernel
theorem dX8_steers_206 : decode cX8_steers 206 = .ok (.iload 4, 2) := by decide +kernel
theorem dX8_steers_208 : decode cX8_steers 208 = .ok (.ireturn, 1) := by decide +kernel
theorem dX8_steer_0 : decode cX8_steer 0 = .ok (.aload_n 0, 1) := by decide +kernel
theorem dX8_steer_1 : decode cX8_steer 1 = .ok (.iconst 0, 1) := by decide +kernel
theorem dX8_steer_2 : decode cX8_steer 2 = .ok (.putfield 61, 3) := by decide +kernel
theorem dX8_steer_5 : decode cX8_steer 5 = .ok (.iload_n 2, 1) := by decide +kernel
theorem dX8_steer_6 : decode cX8_steer 6 = .ok (.invokestatic 150, 3) := by decide +kernel
theorem dX8_steer_9 : decode cX8_steer 9 = .ok (.ifCond .ne 9, 3) := by decide +kernel
theorem dX8_steer_12 : decode cX8_steer 12 = .ok (.aload_n 0, 1) := by decide +kernel
theorem dX8_steer_13 : decode cX8_steer 13 = .ok (.iconst (-1), 1) := by decide +kernel
theorem dX8_steer_14 : decode cX8_steer 14 = .ok (.invokevirtual 75, 3) := by decide +kernel
theorem dX8_steer_17 : decode cX8_steer 17 = .ok (.ireturn, 1) := by decide +kernel
theorem dX8_steer_18 : decode cX8_steer 18 = .ok (.aload_n 0, 1) := by decide +kernel
theorem dX8_steer_19 : decode cX8_steer 19 = .ok (.iload_n 1, 1) := by decide +kernel
theorem dX8_steer_20 : decode cX8_steer 20 = .ok (.invokevirtual 164, 3) := by decide +kernel
theorem dX8_steer_23 : decode cX8_steer 23 = .ok (.ifCond .ne 10, 3) := by decide +kernel
theorem dX8_steer_26 : decode cX8_steer 26 = .ok (.aload_n 0, 1) := by decide +kernel
theorem dX8_steer_27 : decode cX8_steer 27 = .ok (.bipush (-2), 2) := by decide +kernel
theorem dX8_steer_29 : decode cX8_steer 29 = .ok (.invokevirtual 75, 3) := by decide +kernel
theorem dX8_steer_32 : decode cX8_steer 32 = .ok (.ireturn, 1) := by decide +kernel
theorem dX8_steer_33 : decode cX8_steer 33 = .ok (.aload_n 0, 1) := by decide +kernel
theorem dX8_steer_34 : decode cX8_steer 34 = .ok (.iconst 5, 1) := by decide +kernel
theorem dX8_steer_35 : decode cX8_steer 35 = .ok (.invokevirtual 129, 3) := by decide +kernel
theorem dX8_steer_38 : decode cX8_steer 38 = .ok (.aload_n 0, 1) := by decide +kernel
theorem dX8_steer_39 : decode cX8_steer 39 = .ok (.aload_n 0, 1) := by decide +kernel
theorem dX8_steer_40 : decode cX8_steer 40 = .ok (.iload_n 1, 1) := by decide +kernel
theorem dX8_steer_41 : decode cX8_steer 41 = .ok (.iload_n 2, 1) := by decide +kernel
theorem dX8_steer_42 : decode cX8_steer 42 = .ok (.invokevirtual 170, 3) := by decide +kernel
theorem dX8_steer_45 : decode cX8_steer 45 = .ok (.invokevirtual 81, 3) := by decide +kernel
theorem dX8_steer_48 : decode cX8_steer 48 = .ok (.ireturn, 1) := by decide +kernel
theorem dX8_free_0 : decode cX8_free 0 = .ok (.aload_n 0, 1) := by decide +kernel
theorem dX8_free_1 : decode cX8_free 1 = .ok (.iconst 0, 1) := by decide +kernel
theorem dX8_free_2 : decode cX8_free 2 = .ok (.putfield 61, 3) := by decide +kernel
theorem dX8_free_5 : decode cX8_free 5 = .ok (.aload_n 0, 1) := by decide +kernel
theorem dX8_free_6 : decode cX8_free 6 = .ok (.iload_n 1, 1) := by decide +kernel
theorem dX8_free_7 : decode cX8_free 7 = .ok (.invokevirtual 164, 3) := by decide +kernel
theorem dX8_free_10 : decode cX8_free 10 = .ok (.ifCond .eq 11, 3) := by decide +kernel
theorem dX8_free_13 : decode cX8_free 13 = .ok (.aload_n 0, 1) := by decide +kernel
theorem dX8_free_14 : decode cX8_free 14 = .ok (.iload_n 1, 1) := by decide +kernel
theorem dX8_free_15 : decode cX8_free 15 = .ok (.invokevirtual 119, 3) := by decide +kernel
theorem dX8_free_18 : decode cX8_free 18 = .ok (.goto 4, 3) := by decide +kernel
theorem dX8_free_21 : decode cX8_free 21 = .ok (.iconst (-1), 1) := by decide +kernel
theorem dX8_free_22 : decode cX8_free 22 = .ok (.istore_n 2, 1) := by decide +kernel
theorem dX8_free_23 : decode cX8_free 23 = .ok (.iload_n 2, 1) := by decide +kernel
theorem dX8_free_24 : decode cX8_free 24 = .ok (.iconst (-1), 1) := by decide +kernel
theorem dX8_free_25 : decode cX8_free 25 = .ok (.if_icmp .ne 10, 3) := by decide +kernel
theorem dX8_free_28 : decode cX8_free 28 = .ok (.aload_n 0, 1) := by decide +kernel
theorem dX8_free_29 : decode cX8_free 29 = .ok (.bipush (-2), 2) := by decide +kernel
theorem dX8_free_31 : decode cX8_free 31 = .ok (.invokevirtual 75, 3) := by decide +kernel
theorem dX8_free_34 : decode cX8_free 34 = .ok (.ireturn, 1) := by decide +kernel
theorem dX8_free_35 : decode cX8_free 35 = .ok (.aload_n 0, 1) := by decide +kernel
theorem dX8_free_36 : decode cX8_free 36 = .ok (.bipush 6, 2) := by decide +kernel
theorem dX8_free_38 : decode cX8_free 38 = .ok (.invokevirtual 129, 3) := by decide +kernel
theorem dX8_free_41 : decode cX8_free 41 = .ok (.aload_n 0, 1) := by decide +kernel
theorem dX8_free_42 : decode cX8_free 42 = .ok (.getfield 13, 3) := by decide +kernel
theorem dX8_free_45 : decode cX8_free 45 = .ok (.iload_n 2, 1) := by decide +kernel
theorem dX8_free_46 : decode cX8_free 46 = .ok (.invokestatic 116, 3) := by decide +kernel
theorem dX8_free_49 : decode cX8_free 49 = .ok (.iconst 1, 1) := by decide +kernel
theorem dX8_free_50 : decode cX8_free 50 = .ok (.iadd, 1) := by decide +kernel
theorem dX8_free_51 : decode cX8_free 51 = .ok (.iaload, 1) := by decide +kernel
theorem dX8_free_52 : decode cX8_free 52 = .ok (.istore_n 3, 1) := by decide +kernel
theorem dX8_free_53 : decode cX8_free 53 = .ok (.aload_n 0, 1) := by decide +kernel
theorem dX8_free_54 : decode cX8_free 54 = .ok (.iload_n 2, 1) := by decide +kernel
theorem dX8_free_55 : decode cX8_free 55 = .ok (.invokevirtual 167, 3) := by decide +kernel
theorem dX8_free_58 : decode cX8_free 58 = .ok (.aload_n 0, 1) := by decide +kernel
theorem dX8_free_59 : decode cX8_free 59 = .ok (.iload_n 3, 1) := by decide +kernel
theorem dX8_free_60 : decode cX8_free 60 = .ok (.invokevirtual 81, 3) := by decide +kernel
theorem dX8_free_63 : decode cX8_free 63 = .ok (.ireturn, 1) := by decide +kernel
theorem dX8_isTerm_0 : decode cX8_isTerm 0 = .ok (.iload_n 0, 1) := by decide +kernel
theorem dX8_isTerm_1 : decode cX8_isTerm 1 = .ok (.tableswitch 121 0 8 #[51, 51, 61, 71, 81, 91, 103, 111, 51], 51) := by decide +kernel
theorem dX8_isTerm_52 : decode cX8_isTerm 52 = .ok (.iload_n 1, 1) := by decide +kernel
theorem dX8_isTerm_53 : decode cX8_isTerm 53 = .ok (.i2l, 1) := by decide +kernel
theorem dX8_isTerm_54 : decode cX8_isTerm 54 = .ok (.lconst 1, 1) := by decide +kernel
theorem dX8_isTerm_55 : decode cX8_isTerm 55 = .ok (.ldc2_w 173, 3) := by decide +kernel
theorem dX8_isTerm_58 : decode cX8_isTerm 58 = .ok (.invokestatic 84, 3) := by decide +kernel
theorem dX8_isTerm_61 : decode cX8_isTerm 61 = .ok (.ireturn, 1) := by decide +kernel
theorem dX8_isTerm_62 : decode cX8_isTerm 62 = .ok (.iload_n 1, 1) := by decide +kernel
theorem dX8_isTerm_63 : decode cX8_isTerm 63 = .ok (.i2l, 1) := by decide +kernel
theorem dX8_isTerm_64 : decode cX8_isTerm 64 = .ok (.lconst 1, 1) := by decide +kernel
theorem dX8_isTerm_65 : decode cX8_isTerm 65 = .ok (.ldc2_w 175, 3) := by decide +kernel
theorem dX8_isTerm_68 : decode cX8_isTerm 68 = .ok (.invokestatic 84, 3) := by decide +kernel
theorem dX8_isTerm_71 : decode cX8_isTerm 71 = .ok (.ireturn, 1) := by decide +kernel
theorem dX8_isTerm_72 : decode cX8_isTerm 72 = .ok (.iload_n 1, 1) := by decide +kernel
theorem dX8_isTerm_73 : decode cX8_isTerm 73 = .ok (.i2l, 1) := by decide +kernel
theorem dX8_isTerm_74 : decode cX8_isTerm 74 = .ok (.lconst 1, 1) := by decide +kernel
theorem dX8_isTerm_75 : decode cX8_isTerm 75 = .ok (.ldc2_w 177, 3) := by decide +kernel
theorem dX8_isTerm_78 : decode cX8_isTerm 78 = .ok (.invokestatic 84, 3) := by decide +kernel
theorem dX8_isTerm_81 : decode cX8_isTerm 81 = .ok (.ireturn, 1) := by decide +kernel
theorem dX8_isTerm_82 : decode cX8_isTerm 82 = .ok (.iload_n 1, 1) := by decide +kernel
theorem dX8_isTerm_83 : decode cX8_isTerm 83 = .ok (.i2l, 1) := by decide +kernel
theorem dX8_isTerm_84 : decode cX8_isTerm 84 = .ok (.lconst 0, 1) := by decide +kernel
theorem dX8_isTerm_85 : decode cX8_isTerm 85 = .ok (.ldc2_w 179, 3) := by decide +kernel
theorem dX8_isTerm_88 : decode cX8_isTerm 88 = .ok (.invokestatic 84, 3) := by decide +kernel
theorem dX8_isTerm_91 : decode cX8_isTerm 91 = .ok (.ireturn, 1) := by decide +kernel
theorem dX8_isTerm_92 : decode cX8_isTerm 92 = .ok (.iload_n 1, 1) := by decide +kernel
theorem dX8_isTerm_93 : decode cX8_isTerm 93 = .ok (.i2l, 1) := by decide +kernel
theorem dX8_isTerm_94 : decode cX8_isTerm 94 = .ok (.ldc2_w 179, 3) := by decide +kernel
theorem dX8_isTerm_97 : decode cX8_isTerm 97 = .ok (.ldc2_w 181, 3) := by decide +kernel
theorem dX8_isTerm_100 : decode cX8_isTerm 100 = .ok (.invokestatic 84, 3) := by decide +kernel
theorem dX8_isTerm_103 : decode cX8_isTerm 103 = .ok (.ireturn, 1) := by decide +kernel
theorem dX8_isTerm_104 : decode cX8_isTerm 104 = .ok (.iload_n 1, 1) := by decide +kernel
theorem dX8_isTerm_105 : decode cX8_isTerm 105 = .ok (.i2l, 1) := by decide +kernel
theorem dX8_isTerm_106 : decode cX8_isTerm 106 = .ok (.lconst 0, 1) := by decide +kernel
theorem dX8_isTerm_107 : decode cX8_isTerm 107 = .ok (.lconst 1, 1) := by decide +kernel
theorem dX8_isTerm_108 : decode cX8_isTerm 108 = .ok (.invokestatic 84, 3) := by decide +kernel
theorem dX8_isTerm_111 : decode cX8_isTerm 111 = .ok (.ireturn, 1) := by decide +kernel
theorem dX8_isTerm_112 : decode cX8_isTerm 112 = .ok (.iload_n 1, 1) := by decide +kernel
theorem dX8_isTerm_113 : decode cX8_isTerm 113 = .ok (.i2l, 1) := by decide +kernel
theorem dX8_isTerm_114 : decode cX8_isTerm 114 = .ok (.lconst 0, 1) := by decide +kernel
theorem dX8_isTerm_115 : decode cX8_isTerm 115 = .ok (.ldc2_w 183, 3) := by decide +kernel
theorem dX8_isTerm_118 : decode cX8_isTerm 118 = .ok (.invokestatic 84, 3) := by decide +kernel
theorem dX8_isTerm_121 : decode cX8_isTerm 121 = .ok (.ireturn, 1) := by decide +kernel
theorem dX8_isTerm_122 : decode cX8_isTerm 122 = .ok (.iconst 0, 1) := by decide +kernel
theorem dX8_isTerm_123 : decode cX8_isTerm 123 = .ok (.ireturn, 1) := by decide +kernel
theorem dX8_terms_0 : decode cX8_terms 0 = .ok (.aload_n 0, 1) := by decide +kernel
theorem dX8_terms_1 : decode cX8_terms 1 = .ok (.iconst 0, 1) := by decide +kernel
theorem dX8_terms_2 : decode cX8_terms 2 = .ok (.putfield 61, 3) := by decide +kernel
theorem dX8_terms_5 : decode cX8_terms 5 = .ok (.iload_n 1, 1) := by decide +kernel
theorem dX8_terms_6 : decode cX8_terms 6 = .ok (.iload_n 2, 1) := by decide +kernel
theorem dX8_terms_7 : decode cX8_terms 7 = .ok (.invokestatic 185, 3) := by decide +kernel
theorem dX8_terms_10 : decode cX8_terms 10 = .ok (.ifCond .eq 17, 3) := by decide +kernel
theorem dX8_terms_13 : decode cX8_terms 13 = .ok (.aload_n 0, 1) := by decide +kernel
theorem dX8_terms_14 : decode cX8_terms 14 = .ok (.bipush 14, 2) := by decide +kernel
theorem dX8_terms_16 : decode cX8_terms 16 = .ok (.iload_n 1, 1) := by decide +kernel
theorem dX8_terms_17 : decode cX8_terms 17 = .ok (.iadd, 1) := by decide +kernel
theorem dX8_terms_18 : decode cX8_terms 18 = .ok (.iload_n 2, 1) := by decide +kernel
theorem dX8_terms_19 : decode cX8_terms 19 = .ok (.bipush 7, 2) := by decide +kernel
theorem dX8_terms_21 : decode cX8_terms 21 = .ok (.invokevirtual 137, 3) := by decide +kernel
theorem dX8_terms_24 : decode cX8_terms 24 = .ok (.goto 8, 3) := by decide +kernel
theorem dX8_terms_27 : decode cX8_terms 27 = .ok (.aload_n 0, 1) := by decide +kernel
theorem dX8_terms_28 : decode cX8_terms 28 = .ok (.iconst (-1), 1) := by decide +kernel
theorem dX8_terms_29 : decode cX8_terms 29 = .ok (.invokevirtual 75, 3) := by decide +kernel
theorem dX8_terms_32 : decode cX8_terms 32 = .ok (.ireturn, 1) := by decide +kernel
theorem dX8_comes_0 : decode cX8_comes 0 = .ok (.iload_n 1, 1) := by decide +kernel
theorem dX8_comes_1 : decode cX8_comes 1 = .ok (.invokestatic 102, 3) := by decide +kernel
theorem dX8_comes_4 : decode cX8_comes 4 = .ok (.istore 4, 2) := by decide +kernel
theorem dX8_comes_6 : decode cX8_comes 6 = .ok (.aload_n 0, 1) := by decide +kernel
theorem dX8_comes_7 : decode cX8_comes 7 = .ok (.iload_n 1, 1) := by decide +kernel
theorem dX8_comes_8 : decode cX8_comes 8 = .ok (.invokevirtual 189, 3) := by decide +kernel
theorem dX8_comes_11 : decode cX8_comes 11 = .ok (.istore 5, 2) := by decide +kernel
theorem dX8_comes_13 : decode cX8_comes 13 = .ok (.aload_n 0, 1) := by decide +kernel
theorem dX8_comes_14 : decode cX8_comes 14 = .ok (.iload_n 1, 1) := by decide +kernel
theorem dX8_comes_15 : decode cX8_comes 15 = .ok (.invokevirtual 192, 3) := by decide +kernel
theorem dX8_comes_18 : decode cX8_comes 18 = .ok (.istore 6, 2) := by decide +kernel
theorem dX8_comes_20 : decode cX8_comes 20 = .ok (.iload 6, 2) := by decide +kernel
theorem dX8_comes_22 : decode cX8_comes 22 = .ok (.iconst (-1), 1) := by decide +kernel
theorem dX8_comes_23 : decode cX8_comes 23 = .ok (.if_icmp .ne 8, 3) := by decide +kernel
theorem dX8_comes_26 : decode cX8_comes 26 = .ok (.iload 5, 2) := by decide +kernel
theorem dX8_comes_28 : decode cX8_comes 28 = .ok (.goto 5, 3) := by decide +kernel
theorem dX8_comes_31 : decode cX8_comes 31 = .ok (.iload 6, 2) := by decide +kernel
theorem dX8_comes_33 : decode cX8_comes 33 = .ok (.istore 7, 2) := by decide +kernel
theorem dX8_comes_35 : decode cX8_comes 35 = .ok (.aload_n 0, 1) := by decide +kernel
theorem dX8_comes_36 : decode cX8_comes 36 = .ok (.getfield 13, 3) := by decide +kernel
theorem dX8_comes_39 : decode cX8_comes 39 = .ok (.iload 4, 2) := by decide +kernel
theorem dX8_comes_41 : decode cX8_comes 41 = .ok (.iconst 5, 1) := by decide +kernel
theorem dX8_comes_42 : decode cX8_comes 42 = .ok (.iadd, 1) := by decide +kernel
theorem dX8_comes_43 : decode cX8_comes 43 = .ok (.iaload, 1) := by decide +kernel
theorem dX8_comes_44 : decode cX8_comes 44 = .ok (.istore 8, 2) := by decide +kernel
theorem dX8_comes_46 : decode cX8_comes 46 = .ok (.aload_n 0, 1) := by decide +kernel
theorem dX8_comes_47 : decode cX8_comes 47 = .ok (.getfield 13, 3) := by decide +kernel
theorem dX8_comes_50 : decode cX8_comes 50 = .ok (.iload 4, 2) := by decide +kernel
theorem dX8_comes_52 : decode cX8_comes 52 = .ok (.iconst 5, 1) := by decide +kernel
theorem dX8_comes_53 : decode cX8_comes 53 = .ok (.iadd, 1) := by decide +kernel
theorem dX8_comes_54 : decode cX8_comes 54 = .ok (.dup2, 1) := by decide +kernel
theorem dX8_comes_55 : decode cX8_comes 55 = .ok (.iaload, 1) := by decide +kernel
theorem dX8_comes_56 : decode cX8_comes 56 = .ok (.iload_n 2, 1) := by decide +kernel
theorem dX8_comes_57 : decode cX8_comes 57 = .ok (.iadd, 1) := by decide +kernel
theorem dX8_comes_58 : decode cX8_comes 58 = .ok (.iastore, 1) := by decide +kernel
theorem dX8_comes_59 : decode cX8_comes 59 = .ok (.aload_n 0, 1) := by decide +kernel
theorem dX8_comes_60 : decode cX8_comes 60 = .ok (.getfield 13, 3) := by decide +kernel
theorem dX8_comes_63 : decode cX8_comes 63 = .ok (.iload 4, 2) := by decide +kernel
theorem dX8_comes_65 : decode cX8_comes 65 = .ok (.bipush 6, 2) := by decide +kernel
theorem dX8_comes_67 : decode cX8_comes 67 = .ok (.iadd, 1) := by decide +kernel
theorem dX8_comes_68 : decode cX8_comes 68 = .ok (.dup2, 1) := by decide +kernel
theorem dX8_comes_69 : decode cX8_comes 69 = .ok (.iaload, 1) := by decide +kernel
theorem dX8_comes_70 : decode cX8_comes 70 = .ok (.iconst 1, 1) := by decide +kernel
theorem dX8_comes_71 : decode cX8_comes 71 = .ok (.iadd, 1) := by decide +kernel
theorem dX8_comes_72 : decode cX8_comes 72 = .ok (.iastore, 1) := by decide +kernel
theorem dX8_comes_73 : decode cX8_comes 73 = .ok (.aload_n 0, 1) := by decide +kernel
theorem dX8_comes_74 : decode cX8_comes 74 = .ok (.getfield 13, 3) := by decide +kernel
theorem dX8_comes_77 : decode cX8_comes 77 = .ok (.bipush 7, 2) := by decide +kernel
theorem dX8_comes_79 : decode cX8_comes 79 = .ok (.dup2, 1) := by decide +kernel
theorem dX8_comes_80 : decode cX8_comes 80 = .ok (.iaload, 1) := by decide +kernel
theorem dX8_comes_81 : decode cX8_comes 81 = .ok (.iconst 1, 1) := by decide +kernel
theorem dX8_comes_82 : decode cX8_comes 82 = .ok (.iadd, 1) := by decide +kernel
theorem dX8_comes_83 : decode cX8_comes 83 = .ok (.iastore, 1) := by decide +kernel
theorem dX8_comes_84 : decode cX8_comes 84 = .ok (.aload_n 0, 1) := by decide +kernel
theorem dX8_comes_85 : decode cX8_comes 85 = .ok (.getfield 13, 3) := by decide +kernel
theorem dX8_comes_88 : decode cX8_comes 88 = .ok (.bipush 39, 2) := by decide +kernel
theorem dX8_comes_90 : decode cX8_comes 90 = .ok (.aload_n 0, 1) := by decide +kernel
theorem dX8_comes_91 : decode cX8_comes 91 = .ok (.iload_n 1, 1) := by decide +kernel
theorem dX8_comes_92 : decode cX8_comes 92 = .ok (.invokevirtual 122, 3) := by decide +kernel
theorem dX8_comes_95 : decode cX8_comes 95 = .ok (.iadd, 1) := by decide +kernel
theorem dX8_comes_96 : decode cX8_comes 96 = .ok (.dup2, 1) := by decide +kernel
theorem dX8_comes_97 : decode cX8_comes 97 = .ok (.iaload, 1) := by decide +kernel
theorem dX8_comes_98 : decode cX8_comes 98 = .ok (.iconst 1, 1) := by decide +kernel
theorem dX8_comes_99 : decode cX8_comes 99 = .ok (.iadd, 1) := by decide +kernel
theorem dX8_comes_100 : decode cX8_comes 100 = .ok (.iastore, 1) := by decide +kernel
theorem dX8_comes_101 : decode cX8_comes 101 = .ok (.aload_n 0, 1) := by decide +kernel
theorem dX8_comes_102 : decode cX8_comes 102 = .ok (.iload_n 1, 1) := by decide +kernel
theorem dX8_comes_103 : decode cX8_comes 103 = .ok (.invokevirtual 119, 3) := by decide +kernel
theorem dX8_comes_106 : decode cX8_comes 106 = .ok (.istore 9, 2) := by decide +kernel
theorem dX8_comes_108 : decode cX8_comes 108 = .ok (.iload 9, 2) := by decide +kernel
theorem dX8_comes_110 : decode cX8_comes 110 = .ok (.iconst (-1), 1) := by decide +kernel
theorem dX8_comes_111 : decode cX8_comes 111 = .ok (.if_icmp .eq 22, 3) := by decide +kernel
theorem dX8_comes_114 : decode cX8_comes 114 = .ok (.aload_n 0, 1) := by decide +kernel
theorem dX8_comes_115 : decode cX8_comes 115 = .ok (.getfield 13, 3) := by decide +kernel
theorem dX8_comes_118 : decode cX8_comes 118 = .ok (.iload 9, 2) := by decide +kernel
theorem dX8_comes_120 : decode cX8_comes 120 = .ok (.invokestatic 116, 3) := by decide +kernel
theorem dX8_comes_123 : decode cX8_comes 123 = .ok (.iconst 2, 1) := by decide +kernel
theorem dX8_comes_124 : decode cX8_comes 124 = .ok (.iadd, 1) := by decide +kernel
theorem dX8_comes_125 : decode cX8_comes 125 = .ok (.aload_n 0, 1) := by decide +kernel
theorem dX8_comes_126 : decode cX8_comes 126 = .ok (.getfield 13, 3) := by decide +kernel
theorem dX8_comes_129 : decode cX8_comes 129 = .ok (.bipush 6, 2) := by decide +kernel
theorem dX8_comes_131 : decode cX8_comes 131 = .ok (.iaload, 1) := by decide +kernel
theorem dX8_comes_132 : decode cX8_comes 132 = .ok (.iastore, 1) := by decide +kernel
theorem dX8_comes_133 : decode cX8_comes 133 = .ok (.iload 7, 2) := by decide +kernel
theorem dX8_comes_135 : decode cX8_comes 135 = .ok (.iload 5, 2) := by decide +kernel
theorem dX8_comes_137 : decode cX8_comes 137 = .ok (.if_icmp .eq 28, 3) := by decide +kernel
theorem dX8_comes_140 : decode cX8_comes 140 = .ok (.aload_n 0, 1) := by decide +kernel
theorem dX8_comes_141 : decode cX8_comes 141 = .ok (.getfield 13, 3) := by decide +kernel
theorem dX8_comes_144 : decode cX8_comes 144 = .ok (.iload 4, 2) := by decide +kernel
theorem dX8_comes_146 : decode cX8_comes 146 = .ok (.bipush 8, 2) := by decide +kernel
theorem dX8_comes_148 : decode cX8_comes 148 = .ok (.iadd, 1) := by decide +kernel
theorem dX8_comes_149 : decode cX8_comes 149 = .ok (.dup2, 1) := by decide +kernel
theorem dX8_comes_150 : decode cX8_comes 150 = .ok (.iaload, 1) := by decide +kernel
theorem dX8_comes_151 : decode cX8_comes 151 = .ok (.iconst 1, 1) := by decide +kernel
theorem dX8_comes_152 : decode cX8_comes 152 = .ok (.iadd, 1) := by decide +kernel
theorem dX8_comes_153 : decode cX8_comes 153 = .ok (.iastore, 1) := by decide +kernel
theorem dX8_comes_154 : decode cX8_comes 154 = .ok (.aload_n 0, 1) := by decide +kernel
theorem dX8_comes_155 : decode cX8_comes 155 = .ok (.getfield 13, 3) := by decide +kernel
theorem dX8_comes_158 : decode cX8_comes 158 = .ok (.bipush 9, 2) := by decide +kernel
theorem dX8_comes_160 : decode cX8_comes 160 = .ok (.dup2, 1) := by decide +kernel
theorem dX8_comes_161 : decode cX8_comes 161 = .ok (.iaload, 1) := by decide +kernel
theorem dX8_comes_162 : decode cX8_comes 162 = .ok (.iconst 1, 1) := by decide +kernel
theorem dX8_comes_163 : decode cX8_comes 163 = .ok (.iadd, 1) := by decide +kernel
theorem dX8_comes_164 : decode cX8_comes 164 = .ok (.iastore, 1) := by decide +kernel
theorem dX8_comes_165 : decode cX8_comes 165 = .ok (.iload 7, 2) := by decide +kernel
theorem dX8_comes_167 : decode cX8_comes 167 = .ok (.invokestatic 57, 3) := by decide +kernel
theorem dX8_comes_170 : decode cX8_comes 170 = .ok (.istore 10, 2) := by decide +kernel
theorem dX8_comes_172 : decode cX8_comes 172 = .ok (.aload_n 0, 1) := by decide +kernel
theorem dX8_comes_173 : decode cX8_comes 173 = .ok (.getfield 13, 3) := by decide +kernel
theorem dX8_comes_176 : decode cX8_comes 176 = .ok (.iload 10, 2) := by decide +kernel
theorem dX8_comes_178 : decode cX8_comes 178 = .ok (.iaload, 1) := by decide +kernel
theorem dX8_comes_179 : decode cX8_comes 179 = .ok (.aload_n 0, 1) := by decide +kernel
theorem dX8_comes_180 : decode cX8_comes 180 = .ok (.getfield 13, 3) := by decide +kernel
theorem dX8_comes_183 : decode cX8_comes 183 = .ok (.bipush 14, 2) := by decide +kernel
theorem dX8_comes_185 : decode cX8_comes 185 = .ok (.iaload, 1) := by decide +kernel
theorem dX8_comes_186 : decode cX8_comes 186 = .ok (.if_icmp .lt 43, 3) := by decide +kernel
theorem dX8_comes_189 : decode cX8_comes 189 = .ok (.aload_n 0, 1) := by decide +kernel
theorem dX8_comes_190 : decode cX8_comes 190 = .ok (.getfield 13, 3) := by decide +kernel
theorem dX8_comes_193 : decode cX8_comes 193 = .ok (.iload 4, 2) := by decide +kernel
theorem dX8_comes_195 : decode cX8_comes 195 = .ok (.bipush 7, 2) := by decide +kernel
theorem dX8_comes_197 : decode cX8_comes 197 = .ok (.iadd, 1) := by decide +kernel
theorem dX8_comes_198 : decode cX8_comes 198 = .ok (.dup2, 1) := by decide +kernel
theorem dX8_comes_199 : decode cX8_comes 199 = .ok (.iaload, 1) := by decide +kernel
theorem dX8_comes_200 : decode cX8_comes 200 = .ok (.iconst 1, 1) := by decide +kernel
theorem dX8_comes_201 : decode cX8_comes 201 = .ok (.iadd, 1) := by decide +kernel
theorem dX8_comes_202 : decode cX8_comes 202 = .ok (.iastore, 1) := by decide +kernel
theorem dX8_comes_203 : decode cX8_comes 203 = .ok (.aload_n 0, 1) := by decide +kernel
theorem dX8_comes_204 : decode cX8_comes 204 = .ok (.getfield 13, 3) := by decide +kernel
theorem dX8_comes_207 : decode cX8_comes 207 = .ok (.bipush 8, 2) := by decide +kernel
theorem dX8_comes_209 : decode cX8_comes 209 = .ok (.dup2, 1) := by decide +kernel
theorem dX8_comes_210 : decode cX8_comes 210 = .ok (.iaload, 1) := by decide +kernel
theorem dX8_comes_211 : decode cX8_comes 211 = .ok (.iconst 1, 1) := by decide +kernel
theorem dX8_comes_212 : decode cX8_comes 212 = .ok (.iadd, 1) := by decide +kernel
theorem dX8_comes_213 : decode cX8_comes 213 = .ok (.iastore, 1) := by decide +kernel
theorem dX8_comes_214 : decode cX8_comes 214 = .ok (.aload_n 0, 1) := by decide +kernel
theorem dX8_comes_215 : decode cX8_comes 215 = .ok (.getfield 13, 3) := by decide +kernel
theorem dX8_comes_218 : decode cX8_comes 218 = .ok (.iload 10, 2) := by decide +kernel
theorem dX8_comes_220 : decode cX8_comes 220 = .ok (.iconst 5, 1) := by decide +kernel
theorem dX8_comes_221 : decode cX8_comes 221 = .ok (.iadd, 1) := by decide +kernel
theorem dX8_comes_222 : decode cX8_comes 222 = .ok (.dup2, 1) := by decide +kernel
theorem dX8_comes_223 : decode cX8_comes 223 = .ok (.iaload, 1) := by decide +kernel
theorem dX8_comes_224 : decode cX8_comes 224 = .ok (.iconst 1, 1) := by decide +kernel
theorem dX8_comes_225 : decode cX8_comes 225 = .ok (.iadd, 1) := by decide +kernel
theorem dX8_comes_226 : decode cX8_comes 226 = .ok (.iastore, 1) := by decide +kernel
theorem dX8_comes_227 : decode cX8_comes 227 = .ok (.iconst 4, 1) := by decide +kernel
theorem dX8_comes_228 : decode cX8_comes 228 = .ok (.ireturn, 1) := by decide +kernel
theorem dX8_comes_229 : decode cX8_comes 229 = .ok (.iload 7, 2) := by decide +kernel
theorem dX8_comes_231 : decode cX8_comes 231 = .ok (.aload_n 0, 1) := by decide +kernel
theorem dX8_comes_232 : decode cX8_comes 232 = .ok (.getfield 13, 3) := by decide +kernel
theorem dX8_comes_235 : decode cX8_comes 235 = .ok (.iload 10, 2) := by decide +kernel
theorem dX8_comes_237 : decode cX8_comes 237 = .ok (.iaload, 1) := by decide +kernel
theorem dX8_comes_238 : decode cX8_comes 238 = .ok (.invokestatic 125, 3) := by decide +kernel
theorem dX8_comes_241 : decode cX8_comes 241 = .ok (.istore 11, 2) := by decide +kernel
theorem dX8_comes_243 : decode cX8_comes 243 = .ok (.aload_n 0, 1) := by decide +kernel
theorem dX8_comes_244 : decode cX8_comes 244 = .ok (.getfield 13, 3) := by decide +kernel
theorem dX8_comes_247 : decode cX8_comes 247 = .ok (.iload 11, 2) := by decide +kernel
theorem dX8_comes_249 : decode cX8_comes 249 = .ok (.iload_n 1, 1) := by decide +kernel
theorem dX8_comes_250 : decode cX8_comes 250 = .ok (.iastore, 1) := by decide +kernel
theorem dX8_comes_251 : decode cX8_comes 251 = .ok (.aload_n 0, 1) := by decide +kernel
theorem dX8_comes_252 : decode cX8_comes 252 = .ok (.getfield 13, 3) := by decide +kernel
theorem dX8_comes_255 : decode cX8_comes 255 = .ok (.iload 11, 2) := by decide +kernel
theorem dX8_comes_257 : decode cX8_comes 257 = .ok (.iconst 1, 1) := by decide +kernel
theorem dX8_comes_258 : decode cX8_comes 258 = .ok (.iadd, 1) := by decide +kernel
theorem dX8_comes_259 : decode cX8_comes 259 = .ok (.iload 8, 2) := by decide +kernel
theorem dX8_comes_261 : decode cX8_comes 261 = .ok (.iastore, 1) := by decide +kernel
theorem dX8_comes_262 : decode cX8_comes 262 = .ok (.aload_n 0, 1) := by decide +kernel
theorem dX8_comes_263 : decode cX8_comes 263 = .ok (.getfield 13, 3) := by decide +kernel
theorem dX8_comes_266 : decode cX8_comes 266 = .ok (.iload 11, 2) := by decide +kernel
theorem dX8_comes_268 : decode cX8_comes 268 = .ok (.iconst 2, 1) := by decide +kernel
theorem dX8_comes_269 : decode cX8_comes 269 = .ok (.iadd, 1) := by decide +kernel
theorem dX8_comes_270 : decode cX8_comes 270 = .ok (.iload_n 2, 1) := by decide +kernel
theorem dX8_comes_271 : decode cX8_comes 271 = .ok (.iastore, 1) := by decide +kernel
theorem dX8_comes_272 : decode cX8_comes 272 = .ok (.aload_n 0, 1) := by decide +kernel
theorem dX8_comes_273 : decode cX8_comes 273 = .ok (.getfield 13, 3) := by decide +kernel
theorem dX8_comes_276 : decode cX8_comes 276 = .ok (.iload 11, 2) := by decide +kernel
theorem dX8_comes_278 : decode cX8_comes 278 = .ok (.iconst 3, 1) := by decide +kernel
theorem dX8_comes_279 : decode cX8_comes 279 = .ok (.iadd, 1) := by decide +kernel
theorem dX8_comes_280 : decode cX8_comes 280 = .ok (.iload_n 3, 1) := by decide +kernel
theorem dX8_comes_281 : decode cX8_comes 281 = .ok (.iastore, 1) := by decide +kernel
theorem dX8_comes_282 : decode cX8_comes 282 = .ok (.aload_n 0, 1) := by decide +kernel
theorem dX8_comes_283 : decode cX8_comes 283 = .ok (.getfield 13, 3) := by decide +kernel
theorem dX8_comes_286 : decode cX8_comes 286 = .ok (.iload 10, 2) := by decide +kernel
theorem dX8_comes_288 : decode cX8_comes 288 = .ok (.iaload, 1) := by decide +kernel
theorem dX8_comes_289 : decode cX8_comes 289 = .ok (.ifCond .ne 19, 3) := by decide +kernel
theorem dX8_comes_292 : decode cX8_comes 292 = .ok (.aload_n 0, 1) := by decide +kernel
theorem dX8_comes_293 : decode cX8_comes 293 = .ok (.getfield 13, 3) := by decide +kernel
theorem dX8_comes_296 : decode cX8_comes 296 = .ok (.iload 10, 2) := by decide +kernel
theorem dX8_comes_298 : decode cX8_comes 298 = .ok (.iconst 2, 1) := by decide +kernel
theorem dX8_comes_299 : decode cX8_comes 299 = .ok (.iadd, 1) := by decide +kernel
theorem dX8_comes_300 : decode cX8_comes 300 = .ok (.aload_n 0, 1) := by decide +kernel
theorem dX8_comes_301 : decode cX8_comes 301 = .ok (.getfield 13, 3) := by decide +kernel
theorem dX8_comes_304 : decode cX8_comes 304 = .ok (.bipush 6, 2) := by decide +kernel
theorem dX8_comes_306 : decode cX8_comes 306 = .ok (.iaload, 1) := by decide +kernel
theorem dX8_comes_307 : decode cX8_comes 307 = .ok (.iastore, 1) := by decide +kernel
theorem dX8_comes_308 : decode cX8_comes 308 = .ok (.aload_n 0, 1) := by decide +kernel
theorem dX8_comes_309 : decode cX8_comes 309 = .ok (.getfield 13, 3) := by decide +kernel
theorem dX8_comes_312 : decode cX8_comes 312 = .ok (.iload 10, 2) := by decide +kernel
theorem dX8_comes_314 : decode cX8_comes 314 = .ok (.dup2, 1) := by decide +kernel
theorem dX8_comes_315 : decode cX8_comes 315 = .ok (.iaload, 1) := by decide +kernel
theorem dX8_comes_316 : decode cX8_comes 316 = .ok (.iconst 1, 1) := by decide +kernel
theorem dX8_comes_317 : decode cX8_comes 317 = .ok (.iadd, 1) := by decide +kernel
theorem dX8_comes_318 : decode cX8_comes 318 = .ok (.iastore, 1) := by decide +kernel
theorem dX8_comes_319 : decode cX8_comes 319 = .ok (.aload_n 0, 1) := by decide +kernel
theorem dX8_comes_320 : decode cX8_comes 320 = .ok (.getfield 13, 3) := by decide +kernel
theorem dX8_comes_323 : decode cX8_comes 323 = .ok (.iload 10, 2) := by decide +kernel
theorem dX8_comes_325 : decode cX8_comes 325 = .ok (.bipush 7, 2) := by decide +kernel
theorem dX8_comes_327 : decode cX8_comes 327 = .ok (.iadd, 1) := by decide +kernel
theorem dX8_comes_328 : decode cX8_comes 328 = .ok (.dup2, 1) := by decide +kernel
theorem dX8_comes_329 : decode cX8_comes 329 = .ok (.iaload, 1) := by decide +kernel
theorem dX8_comes_330 : decode cX8_comes 330 = .ok (.iconst 1, 1) := by decide +kernel
theorem dX8_comes_331 : decode cX8_comes 331 = .ok (.iadd, 1) := by decide +kernel
theorem dX8_comes_332 : decode cX8_comes 332 = .ok (.iastore, 1) := by decide +kernel
theorem dX8_comes_333 : decode cX8_comes 333 = .ok (.aload_n 0, 1) := by decide +kernel
theorem dX8_comes_334 : decode cX8_comes 334 = .ok (.getfield 13, 3) := by decide +kernel
theorem dX8_comes_337 : decode cX8_comes 337 = .ok (.iload 10, 2) := by decide +kernel
theorem dX8_comes_339 : decode cX8_comes 339 = .ok (.iaload, 1) := by decide +kernel
theorem dX8_comes_340 : decode cX8_comes 340 = .ok (.aload_n 0, 1) := by decide +kernel
theorem dX8_comes_341 : decode cX8_comes 341 = .ok (.getfield 13, 3) := by decide +kernel
theorem dX8_comes_344 : decode cX8_comes 344 = .ok (.bipush 22, 2) := by decide +kernel
theorem dX8_comes_346 : decode cX8_comes 346 = .ok (.iaload, 1) := by decide +kernel
theorem dX8_comes_347 : decode cX8_comes 347 = .ok (.if_icmp .lt 28, 3) := by decide +kernel
theorem dX8_comes_350 : decode cX8_comes 350 = .ok (.aload_n 0, 1) := by decide +kernel
theorem dX8_comes_351 : decode cX8_comes 351 = .ok (.getfield 13, 3) := by decide +kernel
theorem dX8_comes_354 : decode cX8_comes 354 = .ok (.iload 4, 2) := by decide +kernel
theorem dX8_comes_356 : decode cX8_comes 356 = .ok (.bipush 12, 2) := by decide +kernel
theorem dX8_comes_358 : decode cX8_comes 358 = .ok (.iadd, 1) := by decide +kernel
theorem dX8_comes_359 : decode cX8_comes 359 = .ok (.dup2, 1) := by decide +kernel
theorem dX8_comes_360 : decode cX8_comes 360 = .ok (.iaload, 1) := by decide +kernel
theorem dX8_comes_361 : decode cX8_comes 361 = .ok (.iconst 1, 1) := by decide +kernel
theorem dX8_comes_362 : decode cX8_comes 362 = .ok (.iadd, 1) := by decide +kernel
theorem dX8_comes_363 : decode cX8_comes 363 = .ok (.iastore, 1) := by decide +kernel
theorem dX8_comes_364 : decode cX8_comes 364 = .ok (.aload_n 0, 1) := by decide +kernel
theorem dX8_comes_365 : decode cX8_comes 365 = .ok (.getfield 13, 3) := by decide +kernel
theorem dX8_comes_368 : decode cX8_comes 368 = .ok (.bipush 12, 2) := by decide +kernel
theorem dX8_comes_370 : decode cX8_comes 370 = .ok (.dup2, 1) := by decide +kernel
theorem dX8_comes_371 : decode cX8_comes 371 = .ok (.iaload, 1) := by decide +kernel
theorem dX8_comes_372 : decode cX8_comes 372 = .ok (.iconst 1, 1) := by decide +kernel
theorem dX8_comes_373 : decode cX8_comes 373 = .ok (.iadd, 1) := by decide +kernel
theorem dX8_comes_374 : decode cX8_comes 374 = .ok (.iastore, 1) := by decide +kernel
theorem dX8_comes_375 : decode cX8_comes 375 = .ok (.iload 7, 2) := by decide +kernel
theorem dX8_comes_377 : decode cX8_comes 377 = .ok (.ireturn, 1) := by decide +kernel
theorem dX8_hasNext_0 : decode cX8_hasNext 0 = .ok (.aload_n 0, 1) := by decide +kernel
theorem dX8_hasNext_1 : decode cX8_hasNext 1 = .ok (.getfield 13, 3) := by decide +kernel
theorem dX8_hasNext_4 : decode cX8_hasNext 4 = .ok (.iload_n 1, 1) := by decide +kernel
theorem dX8_hasNext_5 : decode cX8_hasNext 5 = .ok (.invokestatic 102, 3) := by decide +kernel
theorem dX8_hasNext_8 : decode cX8_hasNext 8 = .ok (.iconst 5, 1) := by decide +kernel
theorem dX8_hasNext_9 : decode cX8_hasNext 9 = .ok (.iadd, 1) := by decide +kernel
theorem dX8_hasNext_10 : decode cX8_hasNext 10 = .ok (.iaload, 1) := by decide +kernel
theorem dX8_hasNext_11 : decode cX8_hasNext 11 = .ok (.iload_n 2, 1) := by decide +kernel
theorem dX8_hasNext_12 : decode cX8_hasNext 12 = .ok (.iadd, 1) := by decide +kernel
theorem dX8_hasNext_13 : decode cX8_hasNext 13 = .ok (.ldc 195, 2) := by decide +kernel
theorem dX8_hasNext_15 : decode cX8_hasNext 15 = .ok (.if_icmp .gt 7, 3) := by decide +kernel
theorem dX8_hasNext_18 : decode cX8_hasNext 18 = .ok (.iconst 1, 1) := by decide +kernel
theorem dX8_hasNext_19 : decode cX8_hasNext 19 = .ok (.goto 4, 3) := by decide +kernel
theorem dX8_hasNext_22 : decode cX8_hasNext 22 = .ok (.iconst 0, 1) := by decide +kernel
theorem dX8_hasNext_23 : decode cX8_hasNext 23 = .ok (.ireturn, 1) := by decide +kernel
theorem dX8_packet_0 : decode cX8_packet 0 = .ok (.aload_n 0, 1) := by decide +kernel
theorem dX8_packet_1 : decode cX8_packet 1 = .ok (.iconst 0, 1) := by decide +kernel
theorem dX8_packet_2 : decode cX8_packet 2 = .ok (.putfield 61, 3) := by decide +kernel
theorem dX8_packet_5 : decode cX8_packet 5 = .ok (.iload_n 2, 1) := by decide +kernel
theorem dX8_packet_6 : decode cX8_packet 6 = .ok (.i2l, 1) := by decide +kernel
theorem dX8_packet_7 : decode cX8_packet 7 = .ok (.lconst 1, 1) := by decide +kernel
theorem dX8_packet_8 : decode cX8_packet 8 = .ok (.ldc2_w 196, 3) := by decide +kernel
theorem dX8_packet_11 : decode cX8_packet 11 = .ok (.invokestatic 84, 3) := by decide +kernel
theorem dX8_packet_14 : decode cX8_packet 14 = .ok (.ifCond .ne 9, 3) := by decide +kernel
theorem dX8_packet_17 : decode cX8_packet 17 = .ok (.aload_n 0, 1) := by decide +kernel
theorem dX8_packet_18 : decode cX8_packet 18 = .ok (.iconst (-1), 1) := by decide +kernel
theorem dX8_packet_19 : decode cX8_packet 19 = .ok (.invokevirtual 75, 3) := by decide +kernel
theorem dX8_packet_22 : decode cX8_packet 22 = .ok (.ireturn, 1) := by decide +kernel
theorem dX8_packet_23 : decode cX8_packet 23 = .ok (.aload_n 0, 1) := by decide +kernel
theorem dX8_packet_24 : decode cX8_packet 24 = .ok (.iload_n 1, 1) := by decide +kernel
theorem dX8_packet_25 : decode cX8_packet 25 = .ok (.invokevirtual 164, 3) := by decide +kernel
theorem dX8_packet_28 : decode cX8_packet 28 = .ok (.ifCond .ne 10, 3) := by decide +kernel
theorem dX8_packet_31 : decode cX8_packet 31 = .ok (.aload_n 0, 1) := by decide +kernel
theorem dX8_packet_32 : decode cX8_packet 32 = .ok (.bipush (-2), 2) := by decide +kernel
theorem dX8_packet_34 : decode cX8_packet 34 = .ok (.invokevirtual 75, 3) := by decide +kernel
theorem dX8_packet_37 : decode cX8_packet 37 = .ok (.ireturn, 1) := by decide +kernel
theorem dX8_packet_38 : decode cX8_packet 38 = .ok (.aload_n 0, 1) := by decide +kernel
theorem dX8_packet_39 : decode cX8_packet 39 = .ok (.iload_n 1, 1) := by decide +kernel
theorem dX8_packet_40 : decode cX8_packet 40 = .ok (.iload_n 2, 1) := by decide +kernel
theorem dX8_packet_41 : decode cX8_packet 41 = .ok (.invokevirtual 198, 3) := by decide +kernel
theorem dX8_packet_44 : decode cX8_packet 44 = .ok (.ifCond .ne 10, 3) := by decide +kernel
theorem dX8_packet_47 : decode cX8_packet 47 = .ok (.aload_n 0, 1) := by decide +kernel
theorem dX8_packet_48 : decode cX8_packet 48 = .ok (.bipush (-4), 2) := by decide +kernel
theorem dX8_packet_50 : decode cX8_packet 50 = .ok (.invokevirtual 75, 3) := by decide +kernel
theorem dX8_packet_53 : decode cX8_packet 53 = .ok (.ireturn, 1) := by decide +kernel
theorem dX8_packet_54 : decode cX8_packet 54 = .ok (.aload_n 0, 1) := by decide +kernel
theorem dX8_packet_55 : decode cX8_packet 55 = .ok (.bipush 8, 2) := by decide +kernel
theorem dX8_packet_57 : decode cX8_packet 57 = .ok (.invokevirtual 129, 3) := by decide +kernel
theorem dX8_packet_60 : decode cX8_packet 60 = .ok (.aload_n 0, 1) := by decide +kernel
theorem dX8_packet_61 : decode cX8_packet 61 = .ok (.aload_n 0, 1) := by decide +kernel
theorem dX8_packet_62 : decode cX8_packet 62 = .ok (.iload_n 1, 1) := by decide +kernel
theorem dX8_packet_63 : decode cX8_packet 63 = .ok (.iload_n 2, 1) := by decide +kernel
theorem dX8_packet_64 : decode cX8_packet 64 = .ok (.iload_n 3, 1) := by decide +kernel
theorem dX8_packet_65 : decode cX8_packet 65 = .ok (.ifCond .eq 7, 3) := by decide +kernel
theorem dX8_packet_68 : decode cX8_packet 68 = .ok (.iconst 1, 1) := by decide +kernel
theorem dX8_packet_69 : decode cX8_packet 69 = .ok (.goto 4, 3) := by decide +kernel
theorem dX8_packet_72 : decode cX8_packet 72 = .ok (.iconst 0, 1) := by decide +kernel
theorem dX8_packet_73 : decode cX8_packet 73 = .ok (.invokevirtual 201, 3) := by decide +kernel
theorem dX8_packet_76 : decode cX8_packet 76 = .ok (.invokevirtual 81, 3) := by decide +kernel
theorem dX8_packet_79 : decode cX8_packet 79 = .ok (.ireturn, 1) := by decide +kernel
theorem dX8_burst_0 : decode cX8_burst 0 = .ok (.aload_n 0, 1) := by decide +kernel
theorem dX8_burst_1 : decode cX8_burst 1 = .ok (.iconst 0, 1) := by decide +kernel
theorem dX8_burst_2 : decode cX8_burst 2 = .ok (.putfield 61, 3) := by decide +kernel
theorem dX8_burst_5 : decode cX8_burst 5 = .ok (.iload_n 2, 1) := by decide +kernel
theorem dX8_burst_6 : decode cX8_burst 6 = .ok (.i2l, 1) := by decide +kernel
theorem dX8_burst_7 : decode cX8_burst 7 = .ok (.lconst 1, 1) := by decide +kernel
theorem dX8_burst_8 : decode cX8_burst 8 = .ok (.ldc2_w 204, 3) := by decide +kernel
theorem dX8_burst_11 : decode cX8_burst 11 = .ok (.invokestatic 84, 3) := by decide +kernel
theorem dX8_burst_14 : decode cX8_burst 14 = .ok (.ifCond .eq 15, 3) := by decide +kernel
theorem dX8_burst_17 : decode cX8_burst 17 = .ok (.iload_n 3, 1) := by decide +kernel
theorem dX8_burst_18 : decode cX8_burst 18 = .ok (.i2l, 1) := by decide +kernel
theorem dX8_burst_19 : decode cX8_burst 19 = .ok (.lconst 1, 1) := by decide +kernel
theorem dX8_burst_20 : decode cX8_burst 20 = .ok (.ldc2_w 196, 3) := by decide +kernel
theorem dX8_burst_23 : decode cX8_burst 23 = .ok (.invokestatic 84, 3) := by decide +kernel
theorem dX8_burst_26 : decode cX8_burst 26 = .ok (.ifCond .ne 9, 3) := by decide +kernel
theorem dX8_burst_29 : decode cX8_burst 29 = .ok (.aload_n 0, 1) := by decide +kernel
theorem dX8_burst_30 : decode cX8_burst 30 = .ok (.iconst (-1), 1) := by decide +kernel
theorem dX8_burst_31 : decode cX8_burst 31 = .ok (.invokevirtual 75, 3) := by decide +kernel
theorem dX8_burst_34 : decode cX8_burst 34 = .ok (.ireturn, 1) := by decide +kernel
theorem dX8_burst_35 : decode cX8_burst 35 = .ok (.aload_n 0, 1) := by decide +kernel
theorem dX8_burst_36 : decode cX8_burst 36 = .ok (.iload_n 1, 1) := by decide +kernel
theorem dX8_burst_37 : decode cX8_burst 37 = .ok (.invokevirtual 164, 3) := by decide +kernel
theorem dX8_burst_40 : decode cX8_burst 40 = .ok (.ifCond .ne 10, 3) := by decide +kernel
theorem dX8_burst_43 : decode cX8_burst 43 = .ok (.aload_n 0, 1) := by decide +kernel
theorem dX8_burst_44 : decode cX8_burst 44 = .ok (.bipush (-2), 2) := by decide +kernel
theorem dX8_burst_46 : decode cX8_burst 46 = .ok (.invokevirtual 75, 3) := by decide +kernel
theorem dX8_burst_49 : decode cX8_burst 49 = .ok (.ireturn, 1) := by decide +kernel
theorem dX8_burst_50 : decode cX8_burst 50 = .ok (.aload_n 0, 1) := by decide +kernel
theorem dX8_burst_51 : decode cX8_burst 51 = .ok (.getfield 13, 3) := by decide +kernel
theorem dX8_burst_54 : decode cX8_burst 54 = .ok (.iconst 4, 1) := by decide +kernel
theorem dX8_burst_55 : decode cX8_burst 55 = .ok (.iaload, 1) := by decide +kernel
theorem dX8_burst_56 : decode cX8_burst 56 = .ok (.istore 4, 2) := by decide +kernel
theorem dX8_burst_58 : decode cX8_burst 58 = .ok (.iconst 0, 1) := by decide +kernel
theorem dX8_burst_59 : decode cX8_burst 59 = .ok (.istore 5, 2) := by decide +kernel
theorem dX8_burst_61 : decode cX8_burst 61 = .ok (.iload 5, 2) := by decide +kernel
theorem dX8_burst_63 : decode cX8_burst 63 = .ok (.iload 4, 2) := by decide +kernel
theorem dX8_burst_65 : decode cX8_burst 65 = .ok (.if_icmp .ge 54, 3) := by decide +kernel
theorem dX8_burst_68 : decode cX8_burst 68 = .ok (.iload 5, 2) := by decide +kernel
theorem dX8_burst_70 : decode cX8_burst 70 = .ok (.iload_n 2, 1) := by decide +kernel
theorem dX8_burst_71 : decode cX8_burst 71 = .ok (.if_icmp .ge 48, 3) := by decide +kernel
theorem dX8_burst_74 : decode cX8_burst 74 = .ok (.iload_n 2, 1) := by decide +kernel
theorem dX8_burst_75 : decode cX8_burst 75 = .ok (.iload 5, 2) := by decide +kernel
theorem dX8_burst_77 : decode cX8_burst 77 = .ok (.isub, 1) := by decide +kernel
theorem dX8_burst_78 : decode cX8_burst 78 = .ok (.iload 4, 2) := by decide +kernel
theorem dX8_burst_80 : decode cX8_burst 80 = .ok (.iadd, 1) := by decide +kernel
theorem dX8_burst_81 : decode cX8_burst 81 = .ok (.iconst 1, 1) := by decide +kernel
theorem dX8_burst_82 : decode cX8_burst 82 = .ok (.isub, 1) := by decide +kernel
theorem dX8_burst_83 : decode cX8_burst 83 = .ok (.iload 4, 2) := by decide +kernel
theorem dX8_burst_85 : decode cX8_burst 85 = .ok (.idiv, 1) := by decide +kernel
theorem dX8_burst_86 : decode cX8_burst 86 = .ok (.istore 6, 2) := by decide +kernel
theorem dX8_burst_88 : decode cX8_burst 88 = .ok (.aload_n 0, 1) := by decide +kernel
theorem dX8_burst_89 : decode cX8_burst 89 = .ok (.iload_n 1, 1) := by decide +kernel
theorem dX8_burst_90 : decode cX8_burst 90 = .ok (.iload 5, 2) := by decide +kernel
theorem dX8_burst_92 : decode cX8_burst 92 = .ok (.iadd, 1) := by decide +kernel
theorem dX8_burst_93 : decode cX8_burst 93 = .ok (.iload 4, 2) := by decide +kernel
theorem dX8_burst_95 : decode cX8_burst 95 = .ok (.irem, 1) := by decide +kernel
theorem dX8_burst_96 : decode cX8_burst 96 = .ok (.iload 6, 2) := by decide +kernel
theorem dX8_burst_98 : decode cX8_burst 98 = .ok (.iload_n 3, 1) := by decide +kernel
theorem dX8_burst_99 : decode cX8_burst 99 = .ok (.imul, 1) := by decide +kernel
theorem dX8_burst_100 : decode cX8_burst 100 = .ok (.invokevirtual 198, 3) := by decide +kernel
theorem dX8_burst_103 : decode cX8_burst 103 = .ok (.ifCond .ne 10, 3) := by decide +kernel
theorem dX8_burst_106 : decode cX8_burst 106 = .ok (.aload_n 0, 1) := by decide +kernel
theorem dX8_burst_107 : decode cX8_burst 107 = .ok (.bipush (-4), 2) := by decide +kernel
theorem dX8_burst_109 : decode cX8_burst 109 = .ok (.invokevirtual 75, 3) := by decide +kernel
theorem dX8_burst_112 : decode cX8_burst 112 = .ok (.ireturn, 1) := by decide +kernel
theorem dX8_burst_113 : decode cX8_burst 113 = .ok (.iinc 5 1, 3) := by decide +kernel
theorem dX8_burst_116 : decode cX8_burst 116 = .ok (.goto (-55), 3) := by decide +kernel
theorem dX8_burst_119 : decode cX8_burst 119 = .ok (.aload_n 0, 1) := by decide +kernel
theorem dX8_burst_120 : decode cX8_burst 120 = .ok (.bipush 9, 2) := by decide +kernel
theorem dX8_burst_122 : decode cX8_burst 122 = .ok (.invokevirtual 129, 3) := by decide +kernel
theorem dX8_burst_125 : decode cX8_burst 125 = .ok (.iconst 0, 1) := by decide +kernel
theorem dX8_burst_126 : decode cX8_burst 126 = .ok (.istore 5, 2) := by decide +kernel
theorem dX8_burst_128 : decode cX8_burst 128 = .ok (.iconst 0, 1) := by decide +kernel
theorem dX8_burst_129 : decode cX8_burst 129 = .ok (.istore 6, 2) := by decide +kernel
theorem dX8_burst_131 : decode cX8_burst 131 = .ok (.iload 6, 2) := by decide +kernel
theorem dX8_burst_133 : decode cX8_burst 133 = .ok (.iload_n 2, 1) := by decide +kernel
theorem dX8_burst_134 : decode cX8_burst 134 = .ok (.if_icmp .ge 36, 3) := by decide +kernel
theorem dX8_burst_137 : decode cX8_burst 137 = .ok (.iload 5, 2) := by decide +kernel
theorem dX8_burst_139 : decode cX8_burst 139 = .ok (.aload_n 0, 1) := by decide +kernel
theorem dX8_burst_140 : decode cX8_burst 140 = .ok (.iload_n 1, 1) := by decide +kernel
theorem dX8_burst_141 : decode cX8_burst 141 = .ok (.iload 6, 2) := by decide +kernel
theorem dX8_burst_143 : decode cX8_burst 143 = .ok (.iadd, 1) := by decide +kernel
theorem dX8_burst_144 : decode cX8_burst 144 = .ok (.iload 4, 2) := by decide +kernel
theorem dX8_burst_146 : decode cX8_burst 146 = .ok (.irem, 1) := by decide +kernel
theorem dX8_burst_147 : decode cX8_burst 147 = .ok (.iload_n 3, 1) := by decide +kernel
theorem dX8_burst_148 : decode cX8_burst 148 = .ok (.iconst 0, 1) := by decide +kernel
theorem dX8_burst_149 : decode cX8_burst 149 = .ok (.invokevirtual 201, 3) := by decide +kernel
theorem dX8_burst_152 : decode cX8_burst 152 = .ok (.iconst 4, 1) := by decide +kernel
theorem dX8_burst_153 : decode cX8_burst 153 = .ok (.if_icmp .ge 7, 3) := by decide +kernel
theorem dX8_burst_156 : decode cX8_burst 156 = .ok (.iconst 1, 1) := by decide +kernel
theorem dX8_burst_157 : decode cX8_burst 157 = .ok (.goto 4, 3) := by decide +kernel
theorem dX8_burst_160 : decode cX8_burst 160 = .ok (.iconst 0, 1) := by decide +kernel
theorem dX8_burst_161 : decode cX8_burst 161 = .ok (.iadd, 1) := by decide +kernel
theorem dX8_burst_162 : decode cX8_burst 162 = .ok (.istore 5, 2) := by decide +kernel
theorem dX8_burst_164 : decode cX8_burst 164 = .ok (.iinc 6 1, 3) := by decide +kernel
theorem dX8_burst_167 : decode cX8_burst 167 = .ok (.goto (-36), 3) := by decide +kernel
theorem dX8_burst_170 : decode cX8_burst 170 = .ok (.aload_n 0, 1) := by decide +kernel
theorem dX8_burst_171 : decode cX8_burst 171 = .ok (.iload 5, 2) := by decide +kernel
theorem dX8_burst_173 : decode cX8_burst 173 = .ok (.invokevirtual 81, 3) := by decide +kernel
theorem dX8_burst_176 : decode cX8_burst 176 = .ok (.ireturn, 1) := by decide +kernel
theorem dX8_gap_0 : decode cX8_gap 0 = .ok (.aload_n 0, 1) := by decide +kernel
theorem dX8_gap_1 : decode cX8_gap 1 = .ok (.iconst 0, 1) := by decide +kernel
theorem dX8_gap_2 : decode cX8_gap 2 = .ok (.putfield 61, 3) := by decide +kernel
theorem dX8_gap_5 : decode cX8_gap 5 = .ok (.iload_n 2, 1) := by decide +kernel
theorem dX8_gap_6 : decode cX8_gap 6 = .ok (.i2l, 1) := by decide +kernel
theorem dX8_gap_7 : decode cX8_gap 7 = .ok (.lconst 1, 1) := by decide +kernel
theorem dX8_gap_8 : decode cX8_gap 8 = .ok (.ldc2_w 177, 3) := by decide +kernel
theorem dX8_gap_11 : decode cX8_gap 11 = .ok (.invokestatic 84, 3) := by decide +kernel
theorem dX8_gap_14 : decode cX8_gap 14 = .ok (.ifCond .ne 9, 3) := by decide +kernel
theorem dX8_gap_17 : decode cX8_gap 17 = .ok (.aload_n 0, 1) := by decide +kernel
theorem dX8_gap_18 : decode cX8_gap 18 = .ok (.iconst (-1), 1) := by decide +kernel
theorem dX8_gap_19 : decode cX8_gap 19 = .ok (.invokevirtual 75, 3) := by decide +kernel
theorem dX8_gap_22 : decode cX8_gap 22 = .ok (.ireturn, 1) := by decide +kernel
theorem dX8_gap_23 : decode cX8_gap 23 = .ok (.aload_n 0, 1) := by decide +kernel
theorem dX8_gap_24 : decode cX8_gap 24 = .ok (.iload_n 1, 1) := by decide +kernel
theorem dX8_gap_25 : decode cX8_gap 25 = .ok (.invokevirtual 164, 3) := by decide +kernel
theorem dX8_gap_28 : decode cX8_gap 28 = .ok (.ifCond .ne 10, 3) := by decide +kernel
theorem dX8_gap_31 : decode cX8_gap 31 = .ok (.aload_n 0, 1) := by decide +kernel
theorem dX8_gap_32 : decode cX8_gap 32 = .ok (.bipush (-2), 2) := by decide +kernel
theorem dX8_gap_34 : decode cX8_gap 34 = .ok (.invokevirtual 75, 3) := by decide +kernel
theorem dX8_gap_37 : decode cX8_gap 37 = .ok (.ireturn, 1) := by decide +kernel
theorem dX8_gap_38 : decode cX8_gap 38 = .ok (.aload_n 0, 1) := by decide +kernel
theorem dX8_gap_39 : decode cX8_gap 39 = .ok (.iload_n 1, 1) := by decide +kernel
theorem dX8_gap_40 : decode cX8_gap 40 = .ok (.iload_n 2, 1) := by decide +kernel
theorem dX8_gap_41 : decode cX8_gap 41 = .ok (.invokevirtual 198, 3) := by decide +kernel
theorem dX8_gap_44 : decode cX8_gap 44 = .ok (.ifCond .ne 10, 3) := by decide +kernel
theorem dX8_gap_47 : decode cX8_gap 47 = .ok (.aload_n 0, 1) := by decide +kernel
theorem dX8_gap_48 : decode cX8_gap 48 = .ok (.bipush (-4), 2) := by decide +kernel
theorem dX8_gap_50 : decode cX8_gap 50 = .ok (.invokevirtual 75, 3) := by decide +kernel
theorem dX8_gap_53 : decode cX8_gap 53 = .ok (.ireturn, 1) := by decide +kernel
theorem dX8_gap_54 : decode cX8_gap 54 = .ok (.aload_n 0, 1) := by decide +kernel
theorem dX8_gap_55 : decode cX8_gap 55 = .ok (.bipush 10, 2) := by decide +kernel
theorem dX8_gap_57 : decode cX8_gap 57 = .ok (.invokevirtual 129, 3) := by decide +kernel
theorem dX8_gap_60 : decode cX8_gap 60 = .ok (.aload_n 0, 1) := by decide +kernel
theorem dX8_gap_61 : decode cX8_gap 61 = .ok (.getfield 13, 3) := by decide +kernel
theorem dX8_gap_64 : decode cX8_gap 64 = .ok (.iload_n 1, 1) := by decide +kernel
theorem dX8_gap_65 : decode cX8_gap 65 = .ok (.invokestatic 102, 3) := by decide +kernel
theorem dX8_gap_68 : decode cX8_gap 68 = .ok (.iconst 5, 1) := by decide +kernel
theorem dX8_gap_69 : decode cX8_gap 69 = .ok (.iadd, 1) := by decide +kernel
theorem dX8_gap_70 : decode cX8_gap 70 = .ok (.dup2, 1) := by decide +kernel
theorem dX8_gap_71 : decode cX8_gap 71 = .ok (.iaload, 1) := by decide +kernel
theorem dX8_gap_72 : decode cX8_gap 72 = .ok (.iload_n 2, 1) := by decide +kernel
theorem dX8_gap_73 : decode cX8_gap 73 = .ok (.iadd, 1) := by decide +kernel
theorem dX8_gap_74 : decode cX8_gap 74 = .ok (.iastore, 1) := by decide +kernel
theorem dX8_gap_75 : decode cX8_gap 75 = .ok (.aload_n 0, 1) := by decide +kernel
theorem dX8_gap_76 : decode cX8_gap 76 = .ok (.aload_n 0, 1) := by decide +kernel
theorem dX8_gap_77 : decode cX8_gap 77 = .ok (.getfield 13, 3) := by decide +kernel
theorem dX8_gap_80 : decode cX8_gap 80 = .ok (.iload_n 1, 1) := by decide +kernel
theorem dX8_gap_81 : decode cX8_gap 81 = .ok (.invokestatic 102, 3) := by decide +kernel
theorem dX8_gap_84 : decode cX8_gap 84 = .ok (.iconst 5, 1) := by decide +kernel
theorem dX8_gap_85 : decode cX8_gap 85 = .ok (.iadd, 1) := by decide +kernel
theorem dX8_gap_86 : decode cX8_gap 86 = .ok (.iaload, 1) := by decide +kernel
theorem dX8_gap_87 : decode cX8_gap 87 = .ok (.invokevirtual 81, 3) := by decide +kernel
theorem dX8_gap_90 : decode cX8_gap 90 = .ok (.ireturn, 1) := by decide +kernel
theorem dX8_gives_0 : decode cX8_gives 0 = .ok (.iconst 3, 1) := by decide +kernel
theorem dX8_gives_1 : decode cX8_gives 1 = .ok (.iload_n 1, 1) := by decide +kernel
theorem dX8_gives_2 : decode cX8_gives 2 = .ok (.imul, 1) := by decide +kernel
theorem dX8_gives_3 : decode cX8_gives 3 = .ok (.istore_n 3, 1) := by decide +kernel
theorem dX8_gives_4 : decode cX8_gives 4 = .ok (.iload_n 1, 1) := by decide +kernel
theorem dX8_gives_5 : decode cX8_gives 5 = .ok (.invokestatic 102, 3) := by decide +kernel
theorem dX8_gives_8 : decode cX8_gives 8 = .ok (.istore 4, 2) := by decide +kernel
theorem dX8_gives_10 : decode cX8_gives 10 = .ok (.aload_n 0, 1) := by decide +kernel
theorem dX8_gives_11 : decode cX8_gives 11 = .ok (.getfield 54, 3) := by decide +kernel
theorem dX8_gives_14 : decode cX8_gives 14 = .ok (.iload_n 3, 1) := by decide +kernel
theorem dX8_gives_15 : decode cX8_gives 15 = .ok (.iconst 1, 1) := by decide +kernel
theorem dX8_gives_16 : decode cX8_gives 16 = .ok (.iadd, 1) := by decide +kernel
theorem dX8_gives_17 : decode cX8_gives 17 = .ok (.iaload, 1) := by decide +kernel
theorem dX8_gives_18 : decode cX8_gives 18 = .ok (.istore 5, 2) := by decide +kernel
theorem dX8_gives_20 : decode cX8_gives 20 = .ok (.aload_n 0, 1) := by decide +kernel
theorem dX8_gives_21 : decode cX8_gives 21 = .ok (.getfield 13, 3) := by decide +kernel
theorem dX8_gives_24 : decode cX8_gives 24 = .ok (.bipush 18, 2) := by decide +kernel
theorem dX8_gives_26 : decode cX8_gives 26 = .ok (.iaload, 1) := by decide +kernel
theorem dX8_gives_27 : decode cX8_gives 27 = .ok (.iload 5, 2) := by decide +kernel
theorem dX8_gives_29 : decode cX8_gives 29 = .ok (.invokestatic 206, 3) := by decide +kernel
theorem dX8_gives_32 : decode cX8_gives 32 = .ok (.istore 6, 2) := by decide +kernel
theorem dX8_gives_34 : decode cX8_gives 34 = .ok (.iload 5, 2) := by decide +kernel
theorem dX8_gives_36 : decode cX8_gives 36 = .ok (.iload 6, 2) := by decide +kernel
theorem dX8_gives_38 : decode cX8_gives 38 = .ok (.isub, 1) := by decide +kernel
theorem dX8_gives_39 : decode cX8_gives 39 = .ok (.istore 7, 2) := by decide +kernel
theorem dX8_gives_41 : decode cX8_gives 41 = .ok (.iload 7, 2) := by decide +kernel
theorem dX8_gives_43 : decode cX8_gives 43 = .ok (.aload_n 0, 1) := by decide +kernel
theorem dX8_gives_44 : decode cX8_gives 44 = .ok (.getfield 13, 3) := by decide +kernel
theorem dX8_gives_47 : decode cX8_gives 47 = .ok (.bipush 19, 2) := by decide +kernel
theorem dX8_gives_49 : decode cX8_gives 49 = .ok (.iaload, 1) := by decide +kernel
theorem dX8_gives_50 : decode cX8_gives 50 = .ok (.iadd, 1) := by decide +kernel
theorem dX8_gives_51 : decode cX8_gives 51 = .ok (.iconst 1, 1) := by decide +kernel
theorem dX8_gives_52 : decode cX8_gives 52 = .ok (.isub, 1) := by decide +kernel
theorem dX8_gives_53 : decode cX8_gives 53 = .ok (.aload_n 0, 1) := by decide +kernel
theorem dX8_gives_54 : decode cX8_gives 54 = .ok (.getfield 13, 3) := by decide +kernel
theorem dX8_gives_57 : decode cX8_gives 57 = .ok (.bipush 19, 2) := by decide +kernel
theorem dX8_gives_59 : decode cX8_gives 59 = .ok (.iaload, 1) := by decide +kernel
theorem dX8_gives_60 : decode cX8_gives 60 = .ok (.idiv, 1) := by decide +kernel
theorem dX8_gives_61 : decode cX8_gives 61 = .ok (.istore 8, 2) := by decide +kernel
theorem dX8_gives_63 : decode cX8_gives 63 = .ok (.aload_n 0, 1) := by decide +kernel
theorem dX8_gives_64 : decode cX8_gives 64 = .ok (.getfield 13, 3) := by decide +kernel
theorem dX8_gives_67 : decode cX8_gives 67 = .ok (.bipush 13, 2) := by decide +kernel
theorem dX8_gives_69 : decode cX8_gives 69 = .ok (.iaload, 1) := by decide +kernel
theorem dX8_gives_70 : decode cX8_gives 70 = .ok (.bipush 12, 2) := by decide +kernel
theorem dX8_gives_72 : decode cX8_gives 72 = .ok (.if_icmp .ne 50, 3) := by decide +kernel
theorem dX8_gives_75 : decode cX8_gives 75 = .ok (.sipush 993, 3) := by decide +kernel
theorem dX8_gives_78 : decode cX8_gives 78 = .ok (.istore 9, 2) := by decide +kernel
theorem dX8_gives_80 : decode cX8_gives 80 = .ok (.iload 9, 2) := by decide +kernel
theorem dX8_gives_82 : decode cX8_gives 82 = .ok (.sipush 1059, 3) := by decide +kernel
theorem dX8_gives_85 : decode cX8_gives 85 = .ok (.if_icmp .ge 26, 3) := by decide +kernel
theorem dX8_gives_88 : decode cX8_gives 88 = .ok (.aload_n 0, 1) := by decide +kernel
theorem dX8_gives_89 : decode cX8_gives 89 = .ok (.getfield 13, 3) := by decide +kernel
theorem dX8_gives_92 : decode cX8_gives 92 = .ok (.iload 9, 2) := by decide +kernel
theorem dX8_gives_94 : decode cX8_gives 94 = .ok (.aload_n 0, 1) := by decide +kernel
theorem dX8_gives_95 : decode cX8_gives 95 = .ok (.getfield 13, 3) := by decide +kernel
theorem dX8_gives_98 : decode cX8_gives 98 = .ok (.iload 9, 2) := by decide +kernel
theorem dX8_gives_100 : decode cX8_gives 100 = .ok (.bipush 6, 2) := by decide +kernel
theorem dX8_gives_102 : decode cX8_gives 102 = .ok (.iadd, 1) := by decide +kernel
theorem dX8_gives_103 : decode cX8_gives 103 = .ok (.iaload, 1) := by decide +kernel
theorem dX8_gives_104 : decode cX8_gives 104 = .ok (.iastore, 1) := by decide +kernel
theorem dX8_gives_105 : decode cX8_gives 105 = .ok (.iinc 9 1, 3) := by decide +kernel
theorem dX8_gives_108 : decode cX8_gives 108 = .ok (.goto (-28), 3) := by decide +kernel
theorem dX8_gives_111 : decode cX8_gives 111 = .ok (.aload_n 0, 1) := by decide +kernel
theorem dX8_gives_112 : decode cX8_gives 112 = .ok (.getfield 13, 3) := by decide +kernel
theorem dX8_gives_115 : decode cX8_gives 115 = .ok (.bipush 13, 2) := by decide +kernel
theorem dX8_gives_117 : decode cX8_gives 117 = .ok (.dup2, 1) := by decide +kernel
theorem dX8_gives_118 : decode cX8_gives 118 = .ok (.iaload, 1) := by decide +kernel
theorem dX8_gives_119 : decode cX8_gives 119 = .ok (.iconst 1, 1) := by decide +kernel
theorem dX8_gives_120 : decode cX8_gives 120 = .ok (.isub, 1) := by decide +kernel
theorem dX8_gives_121 : decode cX8_gives 121 = .ok (.iastore, 1) := by decide +kernel
theorem dX8_gives_122 : decode cX8_gives 122 = .ok (.sipush 993, 3) := by decide +kernel
theorem dX8_gives_125 : decode cX8_gives 125 = .ok (.bipush 6, 2) := by decide +kernel
theorem dX8_gives_127 : decode cX8_gives 127 = .ok (.aload_n 0, 1) := by decide +kernel
theorem dX8_gives_128 : decode cX8_gives 128 = .ok (.getfield 13, 3) := by decide +kernel
theorem dX8_gives_131 : decode cX8_gives 131 = .ok (.bipush 13, 2) := by decide +kernel
theorem dX8_gives_133 : decode cX8_gives 133 = .ok (.iaload, 1) := by decide +kernel
theorem dX8_gives_134 : decode cX8_gives 134 = .ok (.imul, 1) := by decide +kernel
theorem dX8_gives_135 : decode cX8_gives 135 = .ok (.iadd, 1) := by decide +kernel
theorem dX8_gives_136 : decode cX8_gives 136 = .ok (.istore 9, 2) := by decide +kernel
theorem dX8_gives_138 : decode cX8_gives 138 = .ok (.aload_n 0, 1) := by decide +kernel
theorem dX8_gives_139 : decode cX8_gives 139 = .ok (.getfield 13, 3) := by decide +kernel
theorem dX8_gives_142 : decode cX8_gives 142 = .ok (.iload 9, 2) := by decide +kernel
theorem dX8_gives_144 : decode cX8_gives 144 = .ok (.iload_n 1, 1) := by decide +kernel
theorem dX8_gives_145 : decode cX8_gives 145 = .ok (.iastore, 1) := by decide +kernel
theorem dX8_gives_146 : decode cX8_gives 146 = .ok (.aload_n 0, 1) := by decide +kernel
theorem dX8_gives_147 : decode cX8_gives 147 = .ok (.getfield 13, 3) := by decide +kernel
theorem dX8_gives_150 : decode cX8_gives 150 = .ok (.iload 9, 2) := by decide +kernel
theorem dX8_gives_152 : decode cX8_gives 152 = .ok (.iconst 1, 1) := by decide +kernel
theorem dX8_gives_153 : decode cX8_gives 153 = .ok (.iadd, 1) := by decide +kernel
theorem dX8_gives_154 : decode cX8_gives 154 = .ok (.aload_n 0, 1) := by decide +kernel
theorem dX8_gives_155 : decode cX8_gives 155 = .ok (.getfield 54, 3) := by decide +kernel
theorem dX8_gives_158 : decode cX8_gives 158 = .ok (.iload_n 3, 1) := by decide +kernel
theorem dX8_gives_159 : decode cX8_gives 159 = .ok (.iaload, 1) := by decide +kernel
theorem dX8_gives_160 : decode cX8_gives 160 = .ok (.iastore, 1) := by decide +kernel
theorem dX8_gives_161 : decode cX8_gives 161 = .ok (.aload_n 0, 1) := by decide +kernel
theorem dX8_gives_162 : decode cX8_gives 162 = .ok (.getfield 13, 3) := by decide +kernel
theorem dX8_gives_165 : decode cX8_gives 165 = .ok (.iload 9, 2) := by decide +kernel
theorem dX8_gives_167 : decode cX8_gives 167 = .ok (.iconst 2, 1) := by decide +kernel
theorem dX8_gives_168 : decode cX8_gives 168 = .ok (.iadd, 1) := by decide +kernel
theorem dX8_gives_169 : decode cX8_gives 169 = .ok (.iload 5, 2) := by decide +kernel
theorem dX8_gives_171 : decode cX8_gives 171 = .ok (.iastore, 1) := by decide +kernel
theorem dX8_gives_172 : decode cX8_gives 172 = .ok (.aload_n 0, 1) := by decide +kernel
theorem dX8_gives_173 : decode cX8_gives 173 = .ok (.getfield 13, 3) := by decide +kernel
theorem dX8_gives_176 : decode cX8_gives 176 = .ok (.iload 9, 2) := by decide +kernel
theorem dX8_gives_178 : decode cX8_gives 178 = .ok (.iconst 3, 1) := by decide +kernel
theorem dX8_gives_179 : decode cX8_gives 179 = .ok (.iadd, 1) := by decide +kernel
theorem dX8_gives_180 : decode cX8_gives 180 = .ok (.aload_n 0, 1) := by decide +kernel
theorem dX8_gives_181 : decode cX8_gives 181 = .ok (.getfield 54, 3) := by decide +kernel
theorem dX8_gives_184 : decode cX8_gives 184 = .ok (.iload_n 3, 1) := by decide +kernel
theorem dX8_gives_185 : decode cX8_gives 185 = .ok (.iconst 2, 1) := by decide +kernel
theorem dX8_gives_186 : decode cX8_gives 186 = .ok (.iadd, 1) := by decide +kernel
theorem dX8_gives_187 : decode cX8_gives 187 = .ok (.iaload, 1) := by decide +kernel
theorem dX8_gives_188 : decode cX8_gives 188 = .ok (.iastore, 1) := by decide +kernel
theorem dX8_gives_189 : decode cX8_gives 189 = .ok (.aload_n 0, 1) := by decide +kernel
theorem dX8_gives_190 : decode cX8_gives 190 = .ok (.getfield 13, 3) := by decide +kernel
theorem dX8_gives_193 : decode cX8_gives 193 = .ok (.iload 9, 2) := by decide +kernel
theorem dX8_gives_195 : decode cX8_gives 195 = .ok (.iconst 4, 1) := by decide +kernel
theorem dX8_gives_196 : decode cX8_gives 196 = .ok (.iadd, 1) := by decide +kernel
theorem dX8_gives_197 : decode cX8_gives 197 = .ok (.iload 8, 2) := by decide +kernel
theorem dX8_gives_199 : decode cX8_gives 199 = .ok (.iastore, 1) := by decide +kernel
theorem dX8_gives_200 : decode cX8_gives 200 = .ok (.aload_n 0, 1) := by decide +kernel
theorem dX8_gives_201 : decode cX8_gives 201 = .ok (.getfield 13, 3) := by decide +kernel
theorem dX8_gives_204 : decode cX8_gives 204 = .ok (.iload 9, 2) := by decide +kernel
theorem dX8_gives_206 : decode cX8_gives 206 = .ok (.iconst 5, 1) := by decide +kernel
theorem dX8_gives_207 : decode cX8_gives 207 = .ok (.iadd, 1) := by decide +kernel
theorem dX8_gives_208 : decode cX8_gives 208 = .ok (.iload 6, 2) := by decide +kernel
theorem dX8_gives_210 : decode cX8_gives 210 = .ok (.iastore, 1) := by decide +kernel
theorem dX8_gives_211 : decode cX8_gives 211 = .ok (.aload_n 0, 1) := by decide +kernel
theorem dX8_gives_212 : decode cX8_gives 212 = .ok (.getfield 13, 3) := by decide +kernel
theorem dX8_gives_215 : decode cX8_gives 215 = .ok (.bipush 13, 2) := by decide +kernel
theorem dX8_gives_217 : decode cX8_gives 217 = .ok (.dup2, 1) := by decide +kernel
theorem dX8_gives_218 : decode cX8_gives 218 = .ok (.iaload, 1) := by decide +kernel
theorem dX8_gives_219 : decode cX8_gives 219 = .ok (.iconst 1, 1) := by decide +kernel
theorem dX8_gives_220 : decode cX8_gives 220 = .ok (.iadd, 1) := by decide +kernel
theorem dX8_gives_221 : decode cX8_gives 221 = .ok (.iastore, 1) := by decide +kernel
theorem dX8_gives_222 : decode cX8_gives 222 = .ok (.aload_n 0, 1) := by decide +kernel
theorem dX8_gives_223 : decode cX8_gives 223 = .ok (.getfield 16, 3) := by decide +kernel
theorem dX8_gives_226 : decode cX8_gives 226 = .ok (.iconst 0, 1) := by decide +kernel
theorem dX8_gives_227 : decode cX8_gives 227 = .ok (.dup2, 1) := by decide +kernel
theorem dX8_gives_228 : decode cX8_gives 228 = .ok (.laload, 1) := by decide +kernel
theorem dX8_gives_229 : decode cX8_gives 229 = .ok (.lconst 1, 1) := by decide +kernel
theorem dX8_gives_230 : decode cX8_gives 230 = .ok (.ladd, 1) := by decide +kernel
theorem dX8_gives_231 : decode cX8_gives 231 = .ok (.lastore, 1) := by decide +kernel
theorem dX8_gives_232 : decode cX8_gives 232 = .ok (.aload_n 0, 1) := by decide +kernel
theorem dX8_gives_233 : decode cX8_gives 233 = .ok (.getfield 16, 3) := by decide +kernel
theorem dX8_gives_236 : decode cX8_gives 236 = .ok (.iconst 1, 1) := by decide +kernel
theorem dX8_gives_237 : decode cX8_gives 237 = .ok (.dup2, 1) := by decide +kernel
theorem dX8_gives_238 : decode cX8_gives 238 = .ok (.laload, 1) := by decide +kernel
theorem dX8_gives_239 : decode cX8_gives 239 = .ok (.aload_n 0, 1) := by decide +kernel
theorem dX8_gives_240 : decode cX8_gives 240 = .ok (.getfield 54, 3) := by decide +kernel
theorem dX8_gives_243 : decode cX8_gives 243 = .ok (.iload_n 3, 1) := by decide +kernel
theorem dX8_gives_244 : decode cX8_gives 244 = .ok (.iconst 2, 1) := by decide +kernel
theorem dX8_gives_245 : decode cX8_gives 245 = .ok (.iadd, 1) := by decide +kernel
theorem dX8_gives_246 : decode cX8_gives 246 = .ok (.iaload, 1) := by decide +kernel
theorem dX8_gives_247 : decode cX8_gives 247 = .ok (.i2l, 1) := by decide +kernel
theorem dX8_gives_248 : decode cX8_gives 248 = .ok (.ladd, 1) := by decide +kernel
theorem dX8_gives_249 : decode cX8_gives 249 = .ok (.lastore, 1) := by decide +kernel
theorem dX8_gives_250 : decode cX8_gives 250 = .ok (.aload_n 0, 1) := by decide +kernel
theorem dX8_gives_251 : decode cX8_gives 251 = .ok (.getfield 16, 3) := by decide +kernel
theorem dX8_gives_254 : decode cX8_gives 254 = .ok (.iconst 2, 1) := by decide +kernel
theorem dX8_gives_255 : decode cX8_gives 255 = .ok (.dup2, 1) := by decide +kernel
theorem dX8_gives_256 : decode cX8_gives 256 = .ok (.laload, 1) := by decide +kernel
theorem dX8_gives_257 : decode cX8_gives 257 = .ok (.iload 5, 2) := by decide +kernel
theorem dX8_gives_259 : decode cX8_gives 259 = .ok (.i2l, 1) := by decide +kernel
theorem dX8_gives_260 : decode cX8_gives 260 = .ok (.ladd, 1) := by decide +kernel
theorem dX8_gives_261 : decode cX8_gives 261 = .ok (.lastore, 1) := by decide +kernel
theorem dX8_gives_262 : decode cX8_gives 262 = .ok (.aload_n 0, 1) := by decide +kernel
theorem dX8_gives_263 : decode cX8_gives 263 = .ok (.getfield 16, 3) := by decide +kernel
theorem dX8_gives_266 : decode cX8_gives 266 = .ok (.iconst 3, 1) := by decide +kernel
theorem dX8_gives_267 : decode cX8_gives 267 = .ok (.dup2, 1) := by decide +kernel
theorem dX8_gives_268 : decode cX8_gives 268 = .ok (.laload, 1) := by decide +kernel
theorem dX8_gives_269 : decode cX8_gives 269 = .ok (.iload 6, 2) := by decide +kernel
theorem dX8_gives_271 : decode cX8_gives 271 = .ok (.ifCond .le 7, 3) := by decide +kernel
theorem dX8_gives_274 : decode cX8_gives 274 = .ok (.lconst 1, 1) := by decide +kernel
theorem dX8_gives_275 : decode cX8_gives 275 = .ok (.goto 4, 3) := by decide +kernel
theorem dX8_gives_278 : decode cX8_gives 278 = .ok (.lconst 0, 1) := by decide +kernel
theorem dX8_gives_279 : decode cX8_gives 279 = .ok (.ladd, 1) := by decide +kernel
theorem dX8_gives_280 : decode cX8_gives 280 = .ok (.lastore, 1) := by decide +kernel
theorem dX8_gives_281 : decode cX8_gives 281 = .ok (.aload_n 0, 1) := by decide +kernel
theorem dX8_gives_282 : decode cX8_gives 282 = .ok (.getfield 16, 3) := by decide +kernel
theorem dX8_gives_285 : decode cX8_gives 285 = .ok (.iconst 4, 1) := by decide +kernel
theorem dX8_gives_286 : decode cX8_gives 286 = .ok (.dup2, 1) := by decide +kernel
theorem dX8_gives_287 : decode cX8_gives 287 = .ok (.laload, 1) := by decide +kernel
theorem dX8_gives_288 : decode cX8_gives 288 = .ok (.iload 6, 2) := by decide +kernel
theorem dX8_gives_290 : decode cX8_gives 290 = .ok (.i2l, 1) := by decide +kernel
theorem dX8_gives_291 : decode cX8_gives 291 = .ok (.ladd, 1) := by decide +kernel
theorem dX8_gives_292 : decode cX8_gives 292 = .ok (.lastore, 1) := by decide +kernel
theorem dX8_gives_293 : decode cX8_gives 293 = .ok (.aload_n 0, 1) := by decide +kernel
theorem dX8_gives_294 : decode cX8_gives 294 = .ok (.getfield 16, 3) := by decide +kernel
theorem dX8_gives_297 : decode cX8_gives 297 = .ok (.iconst 5, 1) := by decide +kernel
theorem dX8_gives_298 : decode cX8_gives 298 = .ok (.dup2, 1) := by decide +kernel
theorem dX8_gives_299 : decode cX8_gives 299 = .ok (.laload, 1) := by decide +kernel
theorem dX8_gives_300 : decode cX8_gives 300 = .ok (.iload 7, 2) := by decide +kernel
theorem dX8_gives_302 : decode cX8_gives 302 = .ok (.i2l, 1) := by decide +kernel
theorem dX8_gives_303 : decode cX8_gives 303 = .ok (.ladd, 1) := by decide +kernel
theorem dX8_gives_304 : decode cX8_gives 304 = .ok (.lastore, 1) := by decide +kernel
theorem dX8_gives_305 : decode cX8_gives 305 = .ok (.aload_n 0, 1) := by decide +kernel
theorem dX8_gives_306 : decode cX8_gives 306 = .ok (.getfield 16, 3) := by decide +kernel
theorem dX8_gives_309 : decode cX8_gives 309 = .ok (.bipush 6, 2) := by decide +kernel
theorem dX8_gives_311 : decode cX8_gives 311 = .ok (.dup2, 1) := by decide +kernel
theorem dX8_gives_312 : decode cX8_gives 312 = .ok (.laload, 1) := by decide +kernel
theorem dX8_gives_313 : decode cX8_gives 313 = .ok (.iload 8, 2) := by decide +kernel
theorem dX8_gives_315 : decode cX8_gives 315 = .ok (.i2l, 1) := by decide +kernel
theorem dX8_gives_316 : decode cX8_gives 316 = .ok (.ladd, 1) := by decide +kernel
theorem dX8_gives_317 : decode cX8_gives 317 = .ok (.lastore, 1) := by decide +kernel
theorem dX8_gives_318 : decode cX8_gives 318 = .ok (.aload_n 0, 1) := by decide +kernel
theorem dX8_gives_319 : decode cX8_gives 319 = .ok (.getfield 13, 3) := by decide +kernel
theorem dX8_gives_322 : decode cX8_gives 322 = .ok (.iload 4, 2) := by decide +kernel
theorem dX8_gives_324 : decode cX8_gives 324 = .ok (.bipush 9, 2) := by decide +kernel
theorem dX8_gives_326 : decode cX8_gives 326 = .ok (.iadd, 1) := by decide +kernel
theorem dX8_gives_327 : decode cX8_gives 327 = .ok (.aload_n 0, 1) := by decide +kernel
theorem dX8_gives_328 : decode cX8_gives 328 = .ok (.getfield 54, 3) := by decide +kernel
theorem dX8_gives_331 : decode cX8_gives 331 = .ok (.iload_n 3, 1) := by decide +kernel
theorem dX8_gives_332 : decode cX8_gives 332 = .ok (.iaload, 1) := by decide +kernel
theorem dX8_gives_333 : decode cX8_gives 333 = .ok (.iload 5, 2) := by decide +kernel
theorem dX8_gives_335 : decode cX8_gives 335 = .ok (.iadd, 1) := by decide +kernel
theorem dX8_gives_336 : decode cX8_gives 336 = .ok (.iastore, 1) := by decide +kernel
theorem dX8_gives_337 : decode cX8_gives 337 = .ok (.aload_n 0, 1) := by decide +kernel
theorem dX8_gives_338 : decode cX8_gives 338 = .ok (.getfield 13, 3) := by decide +kernel
theorem dX8_gives_341 : decode cX8_gives 341 = .ok (.iload 4, 2) := by decide +kernel
theorem dX8_gives_343 : decode cX8_gives 343 = .ok (.bipush 10, 2) := by decide +kernel
theorem dX8_gives_345 : decode cX8_gives 345 = .ok (.iadd, 1) := by decide +kernel
theorem dX8_gives_346 : decode cX8_gives 346 = .ok (.dup2, 1) := by decide +kernel
theorem dX8_gives_347 : decode cX8_gives 347 = .ok (.iaload, 1) := by decide +kernel
theorem dX8_gives_348 : decode cX8_gives 348 = .ok (.iconst 1, 1) := by decide +kernel
theorem dX8_gives_349 : decode cX8_gives 349 = .ok (.iadd, 1) := by decide +kernel
theorem dX8_gives_350 : decode cX8_gives 350 = .ok (.iastore, 1) := by decide +kernel
theorem dX8_gives_351 : decode cX8_gives 351 = .ok (.aload_n 0, 1) := by decide +kernel
theorem dX8_gives_352 : decode cX8_gives 352 = .ok (.getfield 13, 3) := by decide +kernel
theorem dX8_gives_355 : decode cX8_gives 355 = .ok (.iload 4, 2) := by decide +kernel
theorem dX8_gives_357 : decode cX8_gives 357 = .ok (.bipush 13, 2) := by decide +kernel
theorem dX8_gives_359 : decode cX8_gives 359 = .ok (.iadd, 1) := by decide +kernel
theorem dX8_gives_360 : decode cX8_gives 360 = .ok (.dup2, 1) := by decide +kernel
theorem dX8_gives_361 : decode cX8_gives 361 = .ok (.iaload, 1) := by decide +kernel
theorem dX8_gives_362 : decode cX8_gives 362 = .ok (.iload 5, 2) := by decide +kernel
theorem dX8_gives_364 : decode cX8_gives 364 = .ok (.iadd, 1) := by decide +kernel
theorem dX8_gives_365 : decode cX8_gives 365 = .ok (.iastore, 1) := by decide +kernel
theorem dX8_gives_366 : decode cX8_gives 366 = .ok (.aload_n 0, 1) := by decide +kernel
theorem dX8_gives_367 : decode cX8_gives 367 = .ok (.getfield 54, 3) := by decide +kernel
theorem dX8_gives_370 : decode cX8_gives 370 = .ok (.iload_n 3, 1) := by decide +kernel
theorem dX8_gives_371 : decode cX8_gives 371 = .ok (.iconst 2, 1) := by decide +kernel
theorem dX8_gives_372 : decode cX8_gives 372 = .ok (.iadd, 1) := by decide +kernel
theorem dX8_gives_373 : decode cX8_gives 373 = .ok (.iconst 0, 1) := by decide +kernel
theorem dX8_gives_374 : decode cX8_gives 374 = .ok (.iastore, 1) := by decide +kernel
theorem dX8_gives_375 : decode cX8_gives 375 = .ok (.aload_n 0, 1) := by decide +kernel
theorem dX8_gives_376 : decode cX8_gives 376 = .ok (.dup, 1) := by decide +kernel
theorem dX8_gives_377 : decode cX8_gives 377 = .ok (.getfield 209, 3) := by decide +kernel
theorem dX8_gives_380 : decode cX8_gives 380 = .ok (.iconst 1, 1) := by decide +kernel
theorem dX8_gives_381 : decode cX8_gives 381 = .ok (.iadd, 1) := by decide +kernel
theorem dX8_gives_382 : decode cX8_gives 382 = .ok (.putfield 209, 3) := by decide +kernel
theorem dX8_gives_385 : decode cX8_gives 385 = .ok (.aload_n 0, 1) := by decide +kernel
theorem dX8_gives_386 : decode cX8_gives 386 = .ok (.iload_n 1, 1) := by decide +kernel
theorem dX8_gives_387 : decode cX8_gives 387 = .ok (.iload_n 2, 1) := by decide +kernel
theorem dX8_gives_388 : decode cX8_gives 388 = .ok (.invokevirtual 212, 3) := by decide +kernel
theorem dX8_gives_391 : decode cX8_gives 391 = .ok (.return_, 1) := by decide +kernel
theorem dX8_follows_0 : decode cX8_follows 0 = .ok (.aload_n 0, 1) := by decide +kernel
theorem dX8_follows_1 : decode cX8_follows 1 = .ok (.getfield 13, 3) := by decide +kernel
theorem dX8_follows_4 : decode cX8_follows 4 = .ok (.iload_n 1, 1) := by decide +kernel
theorem dX8_follows_5 : decode cX8_follows 5 = .ok (.invokestatic 102, 3) := by decide +kernel
theorem dX8_follows_8 : decode cX8_follows 8 = .ok (.bipush 11, 2) := by decide +kernel
theorem dX8_follows_10 : decode cX8_follows 10 = .ok (.iadd, 1) := by decide +kernel
theorem dX8_follows_11 : decode cX8_follows 11 = .ok (.iaload, 1) := by decide +kernel
theorem dX8_follows_12 : decode cX8_follows 12 = .ok (.istore_n 3, 1) := by decide +kernel
theorem dX8_follows_13 : decode cX8_follows 13 = .ok (.aload_n 0, 1) := by decide +kernel
theorem dX8_follows_14 : decode cX8_follows 14 = .ok (.iload_n 1, 1) := by decide +kernel
theorem dX8_follows_15 : decode cX8_follows 15 = .ok (.invokevirtual 119, 3) := by decide +kernel
theorem dX8_follows_18 : decode cX8_follows 18 = .ok (.istore 4, 2) := by decide +kernel
theorem dX8_follows_20 : decode cX8_follows 20 = .ok (.iload 4, 2) := by decide +kernel
theorem dX8_follows_22 : decode cX8_follows 22 = .ok (.iconst (-1), 1) := by decide +kernel
theorem dX8_follows_23 : decode cX8_follows 23 = .ok (.if_icmp .eq 23, 3) := by decide +kernel
theorem dX8_follows_26 : decode cX8_follows 26 = .ok (.aload_n 0, 1) := by decide +kernel
theorem dX8_follows_27 : decode cX8_follows 27 = .ok (.getfield 13, 3) := by decide +kernel
theorem dX8_follows_30 : decode cX8_follows 30 = .ok (.iload 4, 2) := by decide +kernel
theorem dX8_follows_32 : decode cX8_follows 32 = .ok (.invokestatic 116, 3) := by decide +kernel
theorem dX8_follows_35 : decode cX8_follows 35 = .ok (.iconst 1, 1) := by decide +kernel
theorem dX8_follows_36 : decode cX8_follows 36 = .ok (.iadd, 1) := by decide +kernel
theorem dX8_follows_37 : decode cX8_follows 37 = .ok (.iaload, 1) := by decide +kernel
theorem dX8_follows_38 : decode cX8_follows 38 = .ok (.iload_n 3, 1) := by decide +kernel
theorem dX8_follows_39 : decode cX8_follows 39 = .ok (.if_icmp .ne 7, 3) := by decide +kernel
theorem dX8_follows_42 : decode cX8_follows 42 = .ok (.iconst 1, 1) := by decide +kernel
theorem dX8_follows_43 : decode cX8_follows 43 = .ok (.goto 4, 3) := by decide +kernel
theorem dX8_follows_46 : decode cX8_follows 46 = .ok (.iconst 0, 1) := by decide +kernel
theorem dX8_follows_47 : decode cX8_follows 47 = .ok (.istore 5, 2) := by decide +kernel
theorem dX8_follows_49 : decode cX8_follows 49 = .ok (.aload_n 0, 1) := by decide +kernel
theorem dX8_follows_50 : decode cX8_follows 50 = .ok (.getfield 13, 3) := by decide +kernel
theorem dX8_follows_53 : decode cX8_follows 53 = .ok (.bipush 20, 2) := by decide +kernel
theorem dX8_follows_55 : decode cX8_follows 55 = .ok (.iaload, 1) := by decide +kernel
theorem dX8_follows_56 : decode cX8_follows 56 = .ok (.iconst 1, 1) := by decide +kernel
theorem dX8_follows_57 : decode cX8_follows 57 = .ok (.if_icmp .ne 36, 3) := by decide +kernel
theorem dX8_follows_60 : decode cX8_follows 60 = .ok (.iload_n 3, 1) := by decide +kernel
theorem dX8_follows_61 : decode cX8_follows 61 = .ok (.iconst (-1), 1) := by decide +kernel
theorem dX8_follows_62 : decode cX8_follows 62 = .ok (.if_icmp .eq 31, 3) := by decide +kernel
theorem dX8_follows_65 : decode cX8_follows 65 = .ok (.iload_n 3, 1) := by decide +kernel
theorem dX8_follows_66 : decode cX8_follows 66 = .ok (.iload_n 2, 1) := by decide +kernel
theorem dX8_follows_67 : decode cX8_follows 67 = .ok (.if_icmp .eq 26, 3) := by decide +kernel
theorem dX8_follows_70 : decode cX8_follows 70 = .ok (.iload 5, 2) := by decide +kernel
theorem dX8_follows_72 : decode cX8_follows 72 = .ok (.ifCond .ne 21, 3) := by decide +kernel
theorem dX8_follows_75 : decode cX8_follows 75 = .ok (.aload_n 0, 1) := by decide +kernel
theorem dX8_follows_76 : decode cX8_follows 76 = .ok (.iload_n 1, 1) := by decide +kernel
theorem dX8_follows_77 : decode cX8_follows 77 = .ok (.iload_n 3, 1) := by decide +kernel
theorem dX8_follows_78 : decode cX8_follows 78 = .ok (.invokevirtual 170, 3) := by decide +kernel
theorem dX8_follows_81 : decode cX8_follows 81 = .ok (.pop, 1) := by decide +kernel
theorem dX8_follows_82 : decode cX8_follows 82 = .ok (.aload_n 0, 1) := by decide +kernel
theorem dX8_follows_83 : decode cX8_follows 83 = .ok (.getfield 13, 3) := by decide +kernel
theorem dX8_follows_86 : decode cX8_follows 86 = .ok (.bipush 11, 2) := by decide +kernel
theorem dX8_follows_88 : decode cX8_follows 88 = .ok (.dup2, 1) := by decide +kernel
theorem dX8_follows_89 : decode cX8_follows 89 = .ok (.iaload, 1) := by decide +kernel
theorem dX8_follows_90 : decode cX8_follows 90 = .ok (.iconst 1, 1) := by decide +kernel
theorem dX8_follows_91 : decode cX8_follows 91 = .ok (.iadd, 1) := by decide +kernel
theorem dX8_follows_92 : decode cX8_follows 92 = .ok (.iastore, 1) := by decide +kernel
theorem dX8_follows_93 : decode cX8_follows 93 = .ok (.return_, 1) := by decide +kernel
theorem dX8_takes_0 : decode cX8_takes 0 = .ok (.iload_n 1, 1) := by decide +kernel
theorem dX8_takes_1 : decode cX8_takes 1 = .ok (.invokestatic 57, 3) := by decide +kernel
theorem dX8_takes_4 : decode cX8_takes 4 = .ok (.istore_n 2, 1) := by decide +kernel
theorem dX8_takes_5 : decode cX8_takes 5 = .ok (.aload_n 0, 1) := by decide +kernel
theorem dX8_takes_6 : decode cX8_takes 6 = .ok (.getfield 13, 3) := by decide +kernel
theorem dX8_takes_9 : decode cX8_takes 9 = .ok (.iload_n 2, 1) := by decide +kernel
theorem dX8_takes_10 : decode cX8_takes 10 = .ok (.iaload, 1) := by decide +kernel
theorem dX8_takes_11 : decode cX8_takes 11 = .ok (.bipush 16, 2) := by decide +kernel
theorem dX8_takes_13 : decode cX8_takes 13 = .ok (.invokestatic 206, 3) := by decide +kernel
theorem dX8_takes_16 : decode cX8_takes 16 = .ok (.istore_n 3, 1) := by decide +kernel
theorem dX8_takes_17 : decode cX8_takes 17 = .ok (.iconst 0, 1) := by decide +kernel
theorem dX8_takes_18 : decode cX8_takes 18 = .ok (.istore 4, 2) := by decide +kernel
theorem dX8_takes_20 : decode cX8_takes 20 = .ok (.iload 4, 2) := by decide +kernel
theorem dX8_takes_22 : decode cX8_takes 22 = .ok (.bipush 72, 2) := by decide +kernel
theorem dX8_takes_24 : decode cX8_takes 24 = .ok (.if_icmp .ge 17, 3) := by decide +kernel
theorem dX8_takes_27 : decode cX8_takes 27 = .ok (.aload_n 0, 1) := by decide +kernel
theorem dX8_takes_28 : decode cX8_takes 28 = .ok (.getfield 54, 3) := by decide +kernel
theorem dX8_takes_31 : decode cX8_takes 31 = .ok (.iload 4, 2) := by decide +kernel
theorem dX8_takes_33 : decode cX8_takes 33 = .ok (.iconst 0, 1) := by decide +kernel
theorem dX8_takes_34 : decode cX8_takes 34 = .ok (.iastore, 1) := by decide +kernel
theorem dX8_takes_35 : decode cX8_takes 35 = .ok (.iinc 4 1, 3) := by decide +kernel
theorem dX8_takes_38 : decode cX8_takes 38 = .ok (.goto (-18), 3) := by decide +kernel
theorem dX8_takes_41 : decode cX8_takes 41 = .ok (.iconst 0, 1) := by decide +kernel
theorem dX8_takes_42 : decode cX8_takes 42 = .ok (.istore 4, 2) := by decide +kernel
theorem dX8_takes_44 : decode cX8_takes 44 = .ok (.iload 4, 2) := by decide +kernel
theorem dX8_takes_46 : decode cX8_takes 46 = .ok (.iload_n 3, 1) := by decide +kernel
theorem dX8_takes_47 : decode cX8_takes 47 = .ok (.if_icmp .ge 20, 3) := by decide +kernel
theorem dX8_takes_50 : decode cX8_takes 50 = .ok (.aload_n 0, 1) := by decide +kernel
theorem dX8_takes_51 : decode cX8_takes 51 = .ok (.iload_n 1, 1) := by decide +kernel
theorem dX8_takes_52 : decode cX8_takes 52 = .ok (.iload_n 1, 1) := by decide +kernel
theorem dX8_takes_53 : decode cX8_takes 53 = .ok (.iload 4, 2) := by decide +kernel
theorem dX8_takes_55 : decode cX8_takes 55 = .ok (.invokestatic 125, 3) := by decide +kernel
theorem dX8_takes_58 : decode cX8_takes 58 = .ok (.invokevirtual 216, 3) := by decide +kernel
theorem dX8_takes_61 : decode cX8_takes 61 = .ok (.iinc 4 1, 3) := by decide +kernel
theorem dX8_takes_64 : decode cX8_takes 64 = .ok (.goto (-20), 3) := by decide +kernel
theorem dX8_takes_67 : decode cX8_takes 67 = .ok (.iconst 0, 1) := by decide +kernel
theorem dX8_takes_68 : decode cX8_takes 68 = .ok (.istore 4, 2) := by decide +kernel
theorem dX8_takes_70 : decode cX8_takes 70 = .ok (.iload 4, 2) := by decide +kernel
theorem dX8_takes_72 : decode cX8_takes 72 = .ok (.aload_n 0, 1) := by decide +kernel
theorem dX8_takes_73 : decode cX8_takes 73 = .ok (.getfield 13, 3) := by decide +kernel
theorem dX8_takes_76 : decode cX8_takes 76 = .ok (.iconst 4, 1) := by decide +kernel
theorem dX8_takes_77 : decode cX8_takes 77 = .ok (.iaload, 1) := by decide +kernel
theorem dX8_takes_78 : decode cX8_takes 78 = .ok (.if_icmp .ge 30, 3) := by decide +kernel
theorem dX8_takes_81 : decode cX8_takes 81 = .ok (.aload_n 0, 1) := by decide +kernel
theorem dX8_takes_82 : decode cX8_takes 82 = .ok (.getfield 54, 3) := by decide +kernel
theorem dX8_takes_85 : decode cX8_takes 85 = .ok (.iconst 3, 1) := by decide +kernel
theorem dX8_takes_86 : decode cX8_takes 86 = .ok (.iload 4, 2) := by decide +kernel
theorem dX8_takes_88 : decode cX8_takes 88 = .ok (.imul, 1) := by decide +kernel
theorem dX8_takes_89 : decode cX8_takes 89 = .ok (.iconst 2, 1) := by decide +kernel
theorem dX8_takes_90 : decode cX8_takes 90 = .ok (.iadd, 1) := by decide +kernel
theorem dX8_takes_91 : decode cX8_takes 91 = .ok (.iaload, 1) := by decide +kernel
theorem dX8_takes_92 : decode cX8_takes 92 = .ok (.ifCond .le 10, 3) := by decide +kernel
theorem dX8_takes_95 : decode cX8_takes 95 = .ok (.aload_n 0, 1) := by decide +kernel
theorem dX8_takes_96 : decode cX8_takes 96 = .ok (.iload 4, 2) := by decide +kernel
theorem dX8_takes_98 : decode cX8_takes 98 = .ok (.iload_n 1, 1) := by decide +kernel
theorem dX8_takes_99 : decode cX8_takes 99 = .ok (.invokevirtual 219, 3) := by decide +kernel
theorem dX8_takes_102 : decode cX8_takes 102 = .ok (.iinc 4 1, 3) := by decide +kernel
theorem dX8_takes_105 : decode cX8_takes 105 = .ok (.goto (-35), 3) := by decide +kernel
theorem dX8_takes_108 : decode cX8_takes 108 = .ok (.aload_n 0, 1) := by decide +kernel
theorem dX8_takes_109 : decode cX8_takes 109 = .ok (.getfield 13, 3) := by decide +kernel
theorem dX8_takes_112 : decode cX8_takes 112 = .ok (.iload_n 2, 1) := by decide +kernel
theorem dX8_takes_113 : decode cX8_takes 113 = .ok (.dup2, 1) := by decide +kernel
theorem dX8_takes_114 : decode cX8_takes 114 = .ok (.iaload, 1) := by decide +kernel
theorem dX8_takes_115 : decode cX8_takes 115 = .ok (.iload_n 3, 1) := by decide +kernel
theorem dX8_takes_116 : decode cX8_takes 116 = .ok (.isub, 1) := by decide +kernel
theorem dX8_takes_117 : decode cX8_takes 117 = .ok (.iastore, 1) := by decide +kernel
theorem dX8_takes_118 : decode cX8_takes 118 = .ok (.iload_n 2, 1) := by decide +kernel
theorem dX8_takes_119 : decode cX8_takes 119 = .ok (.bipush 8, 2) := by decide +kernel
theorem dX8_takes_121 : decode cX8_takes 121 = .ok (.iadd, 1) := by decide +kernel
theorem dX8_takes_122 : decode cX8_takes 122 = .ok (.istore 4, 2) := by decide +kernel
theorem dX8_takes_124 : decode cX8_takes 124 = .ok (.iload 4, 2) := by decide +kernel
theorem dX8_takes_126 : decode cX8_takes 126 = .ok (.iload_n 1, 1) := by decide +kernel
theorem dX8_takes_127 : decode cX8_takes 127 = .ok (.aload_n 0, 1) := by decide +kernel
theorem dX8_takes_128 : decode cX8_takes 128 = .ok (.getfield 13, 3) := by decide +kernel
theorem dX8_takes_131 : decode cX8_takes 131 = .ok (.iload_n 2, 1) := by decide +kernel
theorem dX8_takes_132 : decode cX8_takes 132 = .ok (.iaload, 1) := by decide +kernel
theorem dX8_takes_133 : decode cX8_takes 133 = .ok (.invokestatic 125, 3) := by decide +kernel
theorem dX8_takes_136 : decode cX8_takes 136 = .ok (.if_icmp .ge 27, 3) := by decide +kernel
theorem dX8_takes_139 : decode cX8_takes 139 = .ok (.aload_n 0, 1) := by decide +kernel
theorem dX8_takes_140 : decode cX8_takes 140 = .ok (.getfield 13, 3) := by decide +kernel
theorem dX8_takes_143 : decode cX8_takes 143 = .ok (.iload 4, 2) := by decide +kernel
theorem dX8_takes_145 : decode cX8_takes 145 = .ok (.aload_n 0, 1) := by decide +kernel
theorem dX8_takes_146 : decode cX8_takes 146 = .ok (.getfield 13, 3) := by decide +kernel
theorem dX8_takes_149 : decode cX8_takes 149 = .ok (.iload 4, 2) := by decide +kernel
theorem dX8_takes_151 : decode cX8_takes 151 = .ok (.iconst 4, 1) := by decide +kernel
theorem dX8_takes_152 : decode cX8_takes 152 = .ok (.iload_n 3, 1) := by decide +kernel
theorem dX8_takes_153 : decode cX8_takes 153 = .ok (.imul, 1) := by decide +kernel
theorem dX8_takes_154 : decode cX8_takes 154 = .ok (.iadd, 1) := by decide +kernel
theorem dX8_takes_155 : decode cX8_takes 155 = .ok (.iaload, 1) := by decide +kernel
theorem dX8_takes_156 : decode cX8_takes 156 = .ok (.iastore, 1) := by decide +kernel
theorem dX8_takes_157 : decode cX8_takes 157 = .ok (.iinc 4 1, 3) := by decide +kernel
theorem dX8_takes_160 : decode cX8_takes 160 = .ok (.goto (-36), 3) := by decide +kernel
theorem dX8_takes_163 : decode cX8_takes 163 = .ok (.aload_n 0, 1) := by decide +kernel
theorem dX8_takes_164 : decode cX8_takes 164 = .ok (.getfield 13, 3) := by decide +kernel
theorem dX8_takes_167 : decode cX8_takes 167 = .ok (.iload_n 2, 1) := by decide +kernel
theorem dX8_takes_168 : decode cX8_takes 168 = .ok (.iconst 4, 1) := by decide +kernel
theorem dX8_takes_169 : decode cX8_takes 169 = .ok (.iadd, 1) := by decide +kernel
theorem dX8_takes_170 : decode cX8_takes 170 = .ok (.dup2, 1) := by decide +kernel
theorem dX8_takes_171 : decode cX8_takes 171 = .ok (.iaload, 1) := by decide +kernel
theorem dX8_takes_172 : decode cX8_takes 172 = .ok (.iload_n 3, 1) := by decide +kernel
theorem dX8_takes_173 : decode cX8_takes 173 = .ok (.iadd, 1) := by decide +kernel
theorem dX8_takes_174 : decode cX8_takes 174 = .ok (.iastore, 1) := by decide +kernel
theorem dX8_takes_175 : decode cX8_takes 175 = .ok (.aload_n 0, 1) := by decide +kernel
theorem dX8_takes_176 : decode cX8_takes 176 = .ok (.getfield 13, 3) := by decide +kernel
theorem dX8_takes_179 : decode cX8_takes 179 = .ok (.iload_n 2, 1) := by decide +kernel
theorem dX8_takes_180 : decode cX8_takes 180 = .ok (.iconst 3, 1) := by decide +kernel
theorem dX8_takes_181 : decode cX8_takes 181 = .ok (.iadd, 1) := by decide +kernel
theorem dX8_takes_182 : decode cX8_takes 182 = .ok (.dup2, 1) := by decide +kernel
theorem dX8_takes_183 : decode cX8_takes 183 = .ok (.iaload, 1) := by decide +kernel
theorem dX8_takes_184 : decode cX8_takes 184 = .ok (.iconst 1, 1) := by decide +kernel
theorem dX8_takes_185 : decode cX8_takes 185 = .ok (.iadd, 1) := by decide +kernel
theorem dX8_takes_186 : decode cX8_takes 186 = .ok (.iastore, 1) := by decide +kernel
theorem dX8_takes_187 : decode cX8_takes 187 = .ok (.aload_n 0, 1) := by decide +kernel
theorem dX8_takes_188 : decode cX8_takes 188 = .ok (.getfield 13, 3) := by decide +kernel
theorem dX8_takes_191 : decode cX8_takes 191 = .ok (.bipush 10, 2) := by decide +kernel
theorem dX8_takes_193 : decode cX8_takes 193 = .ok (.dup2, 1) := by decide +kernel
theorem dX8_takes_194 : decode cX8_takes 194 = .ok (.iaload, 1) := by decide +kernel
theorem dX8_takes_195 : decode cX8_takes 195 = .ok (.iconst 1, 1) := by decide +kernel
theorem dX8_takes_196 : decode cX8_takes 196 = .ok (.iadd, 1) := by decide +kernel
theorem dX8_takes_197 : decode cX8_takes 197 = .ok (.iastore, 1) := by decide +kernel
theorem dX8_takes_198 : decode cX8_takes 198 = .ok (.aload_n 0, 1) := by decide +kernel
theorem dX8_takes_199 : decode cX8_takes 199 = .ok (.dup, 1) := by decide +kernel
theorem dX8_takes_200 : decode cX8_takes 200 = .ok (.getfield 222, 3) := by decide +kernel
theorem dX8_takes_203 : decode cX8_takes 203 = .ok (.iconst 1, 1) := by decide +kernel
theorem dX8_takes_204 : decode cX8_takes 204 = .ok (.iadd, 1) := by decide +kernel
theorem dX8_takes_205 : decode cX8_takes 205 = .ok (.putfield 222, 3) := by decide +kernel
theorem dX8_takes_208 : decode cX8_takes 208 = .ok (.aload_n 0, 1) := by decide +kernel
theorem dX8_takes_209 : decode cX8_takes 209 = .ok (.getfield 13, 3) := by decide +kernel
theorem dX8_takes_212 : decode cX8_takes 212 = .ok (.iload_n 2, 1) := by decide +kernel
theorem dX8_takes_213 : decode cX8_takes 213 = .ok (.iconst 2, 1) := by decide +kernel
theorem dX8_takes_214 : decode cX8_takes 214 = .ok (.iadd, 1) := by decide +kernel
theorem dX8_takes_215 : decode cX8_takes 215 = .ok (.aload_n 0, 1) := by decide +kernel
theorem dX8_takes_216 : decode cX8_takes 216 = .ok (.getfield 13, 3) := by decide +kernel
theorem dX8_takes_219 : decode cX8_takes 219 = .ok (.iload_n 2, 1) := by decide +kernel
theorem dX8_takes_220 : decode cX8_takes 220 = .ok (.iaload, 1) := by decide +kernel
theorem dX8_takes_221 : decode cX8_takes 221 = .ok (.ifCond .le 13, 3) := by decide +kernel
theorem dX8_takes_224 : decode cX8_takes 224 = .ok (.aload_n 0, 1) := by decide +kernel
theorem dX8_takes_225 : decode cX8_takes 225 = .ok (.getfield 13, 3) := by decide +kernel
theorem dX8_takes_228 : decode cX8_takes 228 = .ok (.bipush 6, 2) := by decide +kernel
theorem dX8_takes_230 : decode cX8_takes 230 = .ok (.iaload, 1) := by decide +kernel
theorem dX8_takes_231 : decode cX8_takes 231 = .ok (.goto 4, 3) := by decide +kernel
theorem dX8_takes_234 : decode cX8_takes 234 = .ok (.iconst (-1), 1) := by decide +kernel
theorem dX8_takes_235 : decode cX8_takes 235 = .ok (.iastore, 1) := by decide +kernel
theorem dX8_takes_236 : decode cX8_takes 236 = .ok (.iload_n 3, 1) := by decide +kernel
theorem dX8_takes_237 : decode cX8_takes 237 = .ok (.ireturn, 1) := by decide +kernel
theorem dX8_joins_0 : decode cX8_joins 0 = .ok (.aload_n 0, 1) := by decide +kernel
theorem dX8_joins_1 : decode cX8_joins 1 = .ok (.getfield 13, 3) := by decide +kernel
theorem dX8_joins_4 : decode cX8_joins 4 = .ok (.iload_n 2, 1) := by decide +kernel
theorem dX8_joins_5 : decode cX8_joins 5 = .ok (.iaload, 1) := by decide +kernel
theorem dX8_joins_6 : decode cX8_joins 6 = .ok (.istore_n 3, 1) := by decide +kernel
theorem dX8_joins_7 : decode cX8_joins 7 = .ok (.iconst 3, 1) := by decide +kernel
theorem dX8_joins_8 : decode cX8_joins 8 = .ok (.iload_n 3, 1) := by decide +kernel
theorem dX8_joins_9 : decode cX8_joins 9 = .ok (.imul, 1) := by decide +kernel
theorem dX8_joins_10 : decode cX8_joins 10 = .ok (.istore 4, 2) := by decide +kernel
theorem dX8_joins_12 : decode cX8_joins 12 = .ok (.aload_n 0, 1) := by decide +kernel
theorem dX8_joins_13 : decode cX8_joins 13 = .ok (.getfield 54, 3) := by decide +kernel
theorem dX8_joins_16 : decode cX8_joins 16 = .ok (.iload 4, 2) := by decide +kernel
theorem dX8_joins_18 : decode cX8_joins 18 = .ok (.iconst 2, 1) := by decide +kernel
theorem dX8_joins_19 : decode cX8_joins 19 = .ok (.iadd, 1) := by decide +kernel
theorem dX8_joins_20 : decode cX8_joins 20 = .ok (.iaload, 1) := by decide +kernel
theorem dX8_joins_21 : decode cX8_joins 21 = .ok (.ifCond .le 63, 3) := by decide +kernel
theorem dX8_joins_24 : decode cX8_joins 24 = .ok (.aload_n 0, 1) := by decide +kernel
theorem dX8_joins_25 : decode cX8_joins 25 = .ok (.getfield 54, 3) := by decide +kernel
theorem dX8_joins_28 : decode cX8_joins 28 = .ok (.iload 4, 2) := by decide +kernel
theorem dX8_joins_30 : decode cX8_joins 30 = .ok (.iaload, 1) := by decide +kernel
theorem dX8_joins_31 : decode cX8_joins 31 = .ok (.aload_n 0, 1) := by decide +kernel
theorem dX8_joins_32 : decode cX8_joins 32 = .ok (.getfield 54, 3) := by decide +kernel
theorem dX8_joins_35 : decode cX8_joins 35 = .ok (.iload 4, 2) := by decide +kernel
theorem dX8_joins_37 : decode cX8_joins 37 = .ok (.iconst 1, 1) := by decide +kernel
theorem dX8_joins_38 : decode cX8_joins 38 = .ok (.iadd, 1) := by decide +kernel
theorem dX8_joins_39 : decode cX8_joins 39 = .ok (.iaload, 1) := by decide +kernel
theorem dX8_joins_40 : decode cX8_joins 40 = .ok (.iadd, 1) := by decide +kernel
theorem dX8_joins_41 : decode cX8_joins 41 = .ok (.aload_n 0, 1) := by decide +kernel
theorem dX8_joins_42 : decode cX8_joins 42 = .ok (.getfield 13, 3) := by decide +kernel
theorem dX8_joins_45 : decode cX8_joins 45 = .ok (.iload_n 2, 1) := by decide +kernel
theorem dX8_joins_46 : decode cX8_joins 46 = .ok (.iconst 1, 1) := by decide +kernel
theorem dX8_joins_47 : decode cX8_joins 47 = .ok (.iadd, 1) := by decide +kernel
theorem dX8_joins_48 : decode cX8_joins 48 = .ok (.iaload, 1) := by decide +kernel
theorem dX8_joins_49 : decode cX8_joins 49 = .ok (.if_icmp .ne 35, 3) := by decide +kernel
theorem dX8_joins_52 : decode cX8_joins 52 = .ok (.aload_n 0, 1) := by decide +kernel
theorem dX8_joins_53 : decode cX8_joins 53 = .ok (.getfield 54, 3) := by decide +kernel
theorem dX8_joins_56 : decode cX8_joins 56 = .ok (.iload 4, 2) := by decide +kernel
theorem dX8_joins_58 : decode cX8_joins 58 = .ok (.iconst 1, 1) := by decide +kernel
theorem dX8_joins_59 : decode cX8_joins 59 = .ok (.iadd, 1) := by decide +kernel
theorem dX8_joins_60 : decode cX8_joins 60 = .ok (.iaload, 1) := by decide +kernel
theorem dX8_joins_61 : decode cX8_joins 61 = .ok (.aload_n 0, 1) := by decide +kernel
theorem dX8_joins_62 : decode cX8_joins 62 = .ok (.getfield 13, 3) := by decide +kernel
theorem dX8_joins_65 : decode cX8_joins 65 = .ok (.iload_n 2, 1) := by decide +kernel
theorem dX8_joins_66 : decode cX8_joins 66 = .ok (.iconst 2, 1) := by decide +kernel
theorem dX8_joins_67 : decode cX8_joins 67 = .ok (.iadd, 1) := by decide +kernel
theorem dX8_joins_68 : decode cX8_joins 68 = .ok (.iaload, 1) := by decide +kernel
theorem dX8_joins_69 : decode cX8_joins 69 = .ok (.iadd, 1) := by decide +kernel
theorem dX8_joins_70 : decode cX8_joins 70 = .ok (.aload_n 0, 1) := by decide +kernel
theorem dX8_joins_71 : decode cX8_joins 71 = .ok (.getfield 13, 3) := by decide +kernel
theorem dX8_joins_74 : decode cX8_joins 74 = .ok (.bipush 17, 2) := by decide +kernel
theorem dX8_joins_76 : decode cX8_joins 76 = .ok (.iaload, 1) := by decide +kernel
theorem dX8_joins_77 : decode cX8_joins 77 = .ok (.if_icmp .gt 7, 3) := by decide +kernel
theorem dX8_joins_80 : decode cX8_joins 80 = .ok (.iconst 1, 1) := by decide +kernel
theorem dX8_joins_81 : decode cX8_joins 81 = .ok (.goto 4, 3) := by decide +kernel
theorem dX8_joins_84 : decode cX8_joins 84 = .ok (.iconst 0, 1) := by decide +kernel
theorem dX8_joins_85 : decode cX8_joins 85 = .ok (.istore 5, 2) := by decide +kernel
theorem dX8_joins_87 : decode cX8_joins 87 = .ok (.aload_n 0, 1) := by decide +kernel
theorem dX8_joins_88 : decode cX8_joins 88 = .ok (.getfield 54, 3) := by decide +kernel
theorem dX8_joins_91 : decode cX8_joins 91 = .ok (.iload 4, 2) := by decide +kernel
theorem dX8_joins_93 : decode cX8_joins 93 = .ok (.iconst 2, 1) := by decide +kernel
theorem dX8_joins_94 : decode cX8_joins 94 = .ok (.iadd, 1) := by decide +kernel
theorem dX8_joins_95 : decode cX8_joins 95 = .ok (.iaload, 1) := by decide +kernel
theorem dX8_joins_96 : decode cX8_joins 96 = .ok (.ifCond .le 14, 3) := by decide +kernel
theorem dX8_joins_99 : decode cX8_joins 99 = .ok (.iload 5, 2) := by decide +kernel
theorem dX8_joins_101 : decode cX8_joins 101 = .ok (.ifCond .ne 9, 3) := by decide +kernel
theorem dX8_joins_104 : decode cX8_joins 104 = .ok (.aload_n 0, 1) := by decide +kernel
theorem dX8_joins_105 : decode cX8_joins 105 = .ok (.iload_n 3, 1) := by decide +kernel
theorem dX8_joins_106 : decode cX8_joins 106 = .ok (.iload_n 1, 1) := by decide +kernel
theorem dX8_joins_107 : decode cX8_joins 107 = .ok (.invokevirtual 219, 3) := by decide +kernel
theorem dX8_joins_110 : decode cX8_joins 110 = .ok (.iload 5, 2) := by decide +kernel
theorem dX8_joins_112 : decode cX8_joins 112 = .ok (.ifCond .ne 28, 3) := by decide +kernel
theorem dX8_joins_115 : decode cX8_joins 115 = .ok (.aload_n 0, 1) := by decide +kernel
theorem dX8_joins_116 : decode cX8_joins 116 = .ok (.getfield 54, 3) := by decide +kernel
theorem dX8_joins_119 : decode cX8_joins 119 = .ok (.iload 4, 2) := by decide +kernel
theorem dX8_joins_121 : decode cX8_joins 121 = .ok (.aload_n 0, 1) := by decide +kernel
theorem dX8_joins_122 : decode cX8_joins 122 = .ok (.getfield 13, 3) := by decide +kernel
theorem dX8_joins_125 : decode cX8_joins 125 = .ok (.iload_n 2, 1) := by decide +kernel
theorem dX8_joins_126 : decode cX8_joins 126 = .ok (.iconst 1, 1) := by decide +kernel
theorem dX8_joins_127 : decode cX8_joins 127 = .ok (.iadd, 1) := by decide +kernel
theorem dX8_joins_128 : decode cX8_joins 128 = .ok (.iaload, 1) := by decide +kernel
theorem dX8_joins_129 : decode cX8_joins 129 = .ok (.iastore, 1) := by decide +kernel
theorem dX8_joins_130 : decode cX8_joins 130 = .ok (.aload_n 0, 1) := by decide +kernel
theorem dX8_joins_131 : decode cX8_joins 131 = .ok (.getfield 54, 3) := by decide +kernel
theorem dX8_joins_134 : decode cX8_joins 134 = .ok (.iload 4, 2) := by decide +kernel
theorem dX8_joins_136 : decode cX8_joins 136 = .ok (.iconst 1, 1) := by decide +kernel
theorem dX8_joins_137 : decode cX8_joins 137 = .ok (.iadd, 1) := by decide +kernel
theorem dX8_joins_138 : decode cX8_joins 138 = .ok (.iconst 0, 1) := by decide +kernel
theorem dX8_joins_139 : decode cX8_joins 139 = .ok (.iastore, 1) := by decide +kernel
theorem dX8_joins_140 : decode cX8_joins 140 = .ok (.aload_n 0, 1) := by decide +kernel
theorem dX8_joins_141 : decode cX8_joins 141 = .ok (.getfield 54, 3) := by decide +kernel
theorem dX8_joins_144 : decode cX8_joins 144 = .ok (.iload 4, 2) := by decide +kernel
theorem dX8_joins_146 : decode cX8_joins 146 = .ok (.iconst 1, 1) := by decide +kernel
theorem dX8_joins_147 : decode cX8_joins 147 = .ok (.iadd, 1) := by decide +kernel
theorem dX8_joins_148 : decode cX8_joins 148 = .ok (.dup2, 1) := by decide +kernel
theorem dX8_joins_149 : decode cX8_joins 149 = .ok (.iaload, 1) := by decide +kernel
theorem dX8_joins_150 : decode cX8_joins 150 = .ok (.aload_n 0, 1) := by decide +kernel
theorem dX8_joins_151 : decode cX8_joins 151 = .ok (.getfield 13, 3) := by decide +kernel
theorem dX8_joins_154 : decode cX8_joins 154 = .ok (.iload_n 2, 1) := by decide +kernel
theorem dX8_joins_155 : decode cX8_joins 155 = .ok (.iconst 2, 1) := by decide +kernel
theorem dX8_joins_156 : decode cX8_joins 156 = .ok (.iadd, 1) := by decide +kernel
theorem dX8_joins_157 : decode cX8_joins 157 = .ok (.iaload, 1) := by decide +kernel
theorem dX8_joins_158 : decode cX8_joins 158 = .ok (.iadd, 1) := by decide +kernel
theorem dX8_joins_159 : decode cX8_joins 159 = .ok (.iastore, 1) := by decide +kernel
theorem dX8_joins_160 : decode cX8_joins 160 = .ok (.aload_n 0, 1) := by decide +kernel
theorem dX8_joins_161 : decode cX8_joins 161 = .ok (.getfield 54, 3) := by decide +kernel
theorem dX8_joins_164 : decode cX8_joins 164 = .ok (.iload 4, 2) := by decide +kernel
theorem dX8_joins_166 : decode cX8_joins 166 = .ok (.iconst 2, 1) := by decide +kernel
theorem dX8_joins_167 : decode cX8_joins 167 = .ok (.iadd, 1) := by decide +kernel
theorem dX8_joins_168 : decode cX8_joins 168 = .ok (.dup2, 1) := by decide +kernel
theorem dX8_joins_169 : decode cX8_joins 169 = .ok (.iaload, 1) := by decide +kernel
theorem dX8_joins_170 : decode cX8_joins 170 = .ok (.iconst 1, 1) := by decide +kernel
theorem dX8_joins_171 : decode cX8_joins 171 = .ok (.iadd, 1) := by decide +kernel
theorem dX8_joins_172 : decode cX8_joins 172 = .ok (.iastore, 1) := by decide +kernel
theorem dX8_joins_173 : decode cX8_joins 173 = .ok (.aload_n 0, 1) := by decide +kernel
theorem dX8_joins_174 : decode cX8_joins 174 = .ok (.getfield 13, 3) := by decide +kernel
theorem dX8_joins_177 : decode cX8_joins 177 = .ok (.iload_n 2, 1) := by decide +kernel
theorem dX8_joins_178 : decode cX8_joins 178 = .ok (.iconst 3, 1) := by decide +kernel
theorem dX8_joins_179 : decode cX8_joins 179 = .ok (.iadd, 1) := by decide +kernel
theorem dX8_joins_180 : decode cX8_joins 180 = .ok (.iaload, 1) := by decide +kernel
theorem dX8_joins_181 : decode cX8_joins 181 = .ok (.iconst 1, 1) := by decide +kernel
theorem dX8_joins_182 : decode cX8_joins 182 = .ok (.if_icmp .ne 9, 3) := by decide +kernel
theorem dX8_joins_185 : decode cX8_joins 185 = .ok (.aload_n 0, 1) := by decide +kernel
theorem dX8_joins_186 : decode cX8_joins 186 = .ok (.iload_n 3, 1) := by decide +kernel
theorem dX8_joins_187 : decode cX8_joins 187 = .ok (.iload_n 1, 1) := by decide +kernel
theorem dX8_joins_188 : decode cX8_joins 188 = .ok (.invokevirtual 219, 3) := by decide +kernel
theorem dX8_joins_191 : decode cX8_joins 191 = .ok (.return_, 1) := by decide +kernel
theorem dX8_calls_0 : decode cX8_calls 0 = .ok (.aload_n 0, 1) := by decide +kernel
theorem dX8_calls_1 : decode cX8_calls 1 = .ok (.iload_n 1, 1) := by decide +kernel
theorem dX8_calls_2 : decode cX8_calls 2 = .ok (.invokevirtual 225, 3) := by decide +kernel
theorem dX8_calls_5 : decode cX8_calls 5 = .ok (.istore_n 2, 1) := by decide +kernel
theorem dX8_calls_6 : decode cX8_calls 6 = .ok (.iload_n 1, 1) := by decide +kernel
theorem dX8_calls_7 : decode cX8_calls 7 = .ok (.invokestatic 57, 3) := by decide +kernel
theorem dX8_calls_10 : decode cX8_calls 10 = .ok (.iconst 1, 1) := by decide +kernel
theorem dX8_calls_11 : decode cX8_calls 11 = .ok (.iadd, 1) := by decide +kernel
theorem dX8_calls_12 : decode cX8_calls 12 = .ok (.istore_n 3, 1) := by decide +kernel
theorem dX8_calls_13 : decode cX8_calls 13 = .ok (.iload_n 2, 1) := by decide +kernel
theorem dX8_calls_14 : decode cX8_calls 14 = .ok (.aload_n 0, 1) := by decide +kernel
theorem dX8_calls_15 : decode cX8_calls 15 = .ok (.getfield 13, 3) := by decide +kernel
theorem dX8_calls_18 : decode cX8_calls 18 = .ok (.bipush 15, 2) := by decide +kernel
theorem dX8_calls_20 : decode cX8_calls 20 = .ok (.iaload, 1) := by decide +kernel
theorem dX8_calls_21 : decode cX8_calls 21 = .ok (.if_icmp .lt 25, 3) := by decide +kernel
theorem dX8_calls_24 : decode cX8_calls 24 = .ok (.aload_n 0, 1) := by decide +kernel
theorem dX8_calls_25 : decode cX8_calls 25 = .ok (.getfield 13, 3) := by decide +kernel
theorem dX8_calls_28 : decode cX8_calls 28 = .ok (.iload_n 3, 1) := by decide +kernel
theorem dX8_calls_29 : decode cX8_calls 29 = .ok (.bipush 16, 2) := by decide +kernel
theorem dX8_calls_31 : decode cX8_calls 31 = .ok (.iconst 2, 1) := by decide +kernel
theorem dX8_calls_32 : decode cX8_calls 32 = .ok (.aload_n 0, 1) := by decide +kernel
theorem dX8_calls_33 : decode cX8_calls 33 = .ok (.getfield 13, 3) := by decide +kernel
theorem dX8_calls_36 : decode cX8_calls 36 = .ok (.iload_n 3, 1) := by decide +kernel
theorem dX8_calls_37 : decode cX8_calls 37 = .ok (.iaload, 1) := by decide +kernel
theorem dX8_calls_38 : decode cX8_calls 38 = .ok (.imul, 1) := by decide +kernel
theorem dX8_calls_39 : decode cX8_calls 39 = .ok (.invokestatic 206, 3) := by decide +kernel
theorem dX8_calls_42 : decode cX8_calls 42 = .ok (.iastore, 1) := by decide +kernel
theorem dX8_calls_43 : decode cX8_calls 43 = .ok (.goto 36, 3) := by decide +kernel
theorem dX8_calls_46 : decode cX8_calls 46 = .ok (.iload_n 2, 1) := by decide +kernel
theorem dX8_calls_47 : decode cX8_calls 47 = .ok (.iconst 2, 1) := by decide +kernel
theorem dX8_calls_48 : decode cX8_calls 48 = .ok (.if_icmp .gt 31, 3) := by decide +kernel
theorem dX8_calls_51 : decode cX8_calls 51 = .ok (.aload_n 0, 1) := by decide +kernel
theorem dX8_calls_52 : decode cX8_calls 52 = .ok (.getfield 13, 3) := by decide +kernel
theorem dX8_calls_55 : decode cX8_calls 55 = .ok (.iload_n 3, 1) := by decide +kernel
theorem dX8_calls_56 : decode cX8_calls 56 = .ok (.aload_n 0, 1) := by decide +kernel
theorem dX8_calls_57 : decode cX8_calls 57 = .ok (.getfield 13, 3) := by decide +kernel
theorem dX8_calls_60 : decode cX8_calls 60 = .ok (.iload_n 3, 1) := by decide +kernel
theorem dX8_calls_61 : decode cX8_calls 61 = .ok (.iaload, 1) := by decide +kernel
theorem dX8_calls_62 : decode cX8_calls 62 = .ok (.iconst 1, 1) := by decide +kernel
theorem dX8_calls_63 : decode cX8_calls 63 = .ok (.if_icmp .le 14, 3) := by decide +kernel
theorem dX8_calls_66 : decode cX8_calls 66 = .ok (.aload_n 0, 1) := by decide +kernel
theorem dX8_calls_67 : decode cX8_calls 67 = .ok (.getfield 13, 3) := by decide +kernel
theorem dX8_calls_70 : decode cX8_calls 70 = .ok (.iload_n 3, 1) := by decide +kernel
theorem dX8_calls_71 : decode cX8_calls 71 = .ok (.iaload, 1) := by decide +kernel
theorem dX8_calls_72 : decode cX8_calls 72 = .ok (.iconst 2, 1) := by decide +kernel
theorem dX8_calls_73 : decode cX8_calls 73 = .ok (.idiv, 1) := by decide +kernel
theorem dX8_calls_74 : decode cX8_calls 74 = .ok (.goto 4, 3) := by decide +kernel
theorem dX8_calls_77 : decode cX8_calls 77 = .ok (.iconst 1, 1) := by decide +kernel
theorem dX8_calls_78 : decode cX8_calls 78 = .ok (.iastore, 1) := by decide +kernel
theorem dX8_calls_79 : decode cX8_calls 79 = .ok (.return_, 1) := by decide +kernel
theorem dX8_ticks_0 : decode cX8_ticks 0 = .ok (.aload_n 0, 1) := by decide +kernel
theorem dX8_ticks_1 : decode cX8_ticks 1 = .ok (.getfield 13, 3) := by decide +kernel
theorem dX8_ticks_4 : decode cX8_ticks 4 = .ok (.bipush 6, 2) := by decide +kernel
theorem dX8_ticks_6 : decode cX8_ticks 6 = .ok (.dup2, 1) := by decide +kernel
theorem dX8_ticks_7 : decode cX8_ticks 7 = .ok (.iaload, 1) := by decide +kernel
theorem dX8_ticks_8 : decode cX8_ticks 8 = .ok (.iconst 1, 1) := by decide +kernel
theorem dX8_ticks_9 : decode cX8_ticks 9 = .ok (.iadd, 1) := by decide +kernel
theorem dX8_ticks_10 : decode cX8_ticks 10 = .ok (.iastore, 1) := by decide +kernel
theorem dX8_ticks_11 : decode cX8_ticks 11 = .ok (.aload_n 0, 1) := by decide +kernel
theorem dX8_ticks_12 : decode cX8_ticks 12 = .ok (.getfield 13, 3) := by decide +kernel
theorem dX8_ticks_15 : decode cX8_ticks 15 = .ok (.iconst 5, 1) := by decide +kernel
theorem dX8_ticks_16 : decode cX8_ticks 16 = .ok (.iaload, 1) := by decide +kernel
theorem dX8_ticks_17 : decode cX8_ticks 17 = .ok (.iconst 1, 1) := by decide +kernel
theorem dX8_ticks_18 : decode cX8_ticks 18 = .ok (.isub, 1) := by decide +kernel
theorem dX8_ticks_19 : decode cX8_ticks 19 = .ok (.istore_n 1, 1) := by decide +kernel
theorem dX8_ticks_20 : decode cX8_ticks 20 = .ok (.iload_n 1, 1) := by decide +kernel
theorem dX8_ticks_21 : decode cX8_ticks 21 = .ok (.ifCond .lt 43, 3) := by decide +kernel
theorem dX8_ticks_24 : decode cX8_ticks 24 = .ok (.aload_n 0, 1) := by decide +kernel
theorem dX8_ticks_25 : decode cX8_ticks 25 = .ok (.getfield 13, 3) := by decide +kernel
theorem dX8_ticks_28 : decode cX8_ticks 28 = .ok (.iload_n 1, 1) := by decide +kernel
theorem dX8_ticks_29 : decode cX8_ticks 29 = .ok (.invokestatic 116, 3) := by decide +kernel
theorem dX8_ticks_32 : decode cX8_ticks 32 = .ok (.iconst 2, 1) := by decide +kernel
theorem dX8_ticks_33 : decode cX8_ticks 33 = .ok (.iadd, 1) := by decide +kernel
theorem dX8_ticks_34 : decode cX8_ticks 34 = .ok (.iaload, 1) := by decide +kernel
theorem dX8_ticks_35 : decode cX8_ticks 35 = .ok (.aload_n 0, 1) := by decide +kernel
theorem dX8_ticks_36 : decode cX8_ticks 36 = .ok (.getfield 13, 3) := by decide +kernel
theorem dX8_ticks_39 : decode cX8_ticks 39 = .ok (.bipush 16, 2) := by decide +kernel
theorem dX8_ticks_41 : decode cX8_ticks 41 = .ok (.iaload, 1) := by decide +kernel
theorem dX8_ticks_42 : decode cX8_ticks 42 = .ok (.iadd, 1) := by decide +kernel
theorem dX8_ticks_43 : decode cX8_ticks 43 = .ok (.aload_n 0, 1) := by decide +kernel
theorem dX8_ticks_44 : decode cX8_ticks 44 = .ok (.getfield 13, 3) := by decide +kernel
theorem dX8_ticks_47 : decode cX8_ticks 47 = .ok (.bipush 6, 2) := by decide +kernel
theorem dX8_ticks_49 : decode cX8_ticks 49 = .ok (.iaload, 1) := by decide +kernel
theorem dX8_ticks_50 : decode cX8_ticks 50 = .ok (.if_icmp .ge 8, 3) := by decide +kernel
theorem dX8_ticks_53 : decode cX8_ticks 53 = .ok (.aload_n 0, 1) := by decide +kernel
theorem dX8_ticks_54 : decode cX8_ticks 54 = .ok (.iload_n 1, 1) := by decide +kernel
theorem dX8_ticks_55 : decode cX8_ticks 55 = .ok (.invokevirtual 167, 3) := by decide +kernel
theorem dX8_ticks_58 : decode cX8_ticks 58 = .ok (.iinc 1 (-1), 3) := by decide +kernel
theorem dX8_ticks_61 : decode cX8_ticks 61 = .ok (.goto (-41), 3) := by decide +kernel
theorem dX8_ticks_64 : decode cX8_ticks 64 = .ok (.iconst 0, 1) := by decide +kernel
theorem dX8_ticks_65 : decode cX8_ticks 65 = .ok (.istore_n 1, 1) := by decide +kernel
theorem dX8_ticks_66 : decode cX8_ticks 66 = .ok (.iload_n 1, 1) := by decide +kernel
theorem dX8_ticks_67 : decode cX8_ticks 67 = .ok (.iconst 4, 1) := by decide +kernel
theorem dX8_ticks_68 : decode cX8_ticks 68 = .ok (.if_icmp .ge 137, 3) := by decide +kernel
theorem dX8_ticks_71 : decode cX8_ticks 71 = .ok (.iload_n 1, 1) := by decide +kernel
theorem dX8_ticks_72 : decode cX8_ticks 72 = .ok (.invokestatic 57, 3) := by decide +kernel
theorem dX8_ticks_75 : decode cX8_ticks 75 = .ok (.istore_n 2, 1) := by decide +kernel
theorem dX8_ticks_76 : decode cX8_ticks 76 = .ok (.aload_n 0, 1) := by decide +kernel
theorem dX8_ticks_77 : decode cX8_ticks 77 = .ok (.getfield 13, 3) := by decide +kernel
theorem dX8_ticks_80 : decode cX8_ticks 80 = .ok (.iload_n 2, 1) := by decide +kernel
theorem dX8_ticks_81 : decode cX8_ticks 81 = .ok (.bipush 6, 2) := by decide +kernel
theorem dX8_ticks_83 : decode cX8_ticks 83 = .ok (.iadd, 1) := by decide +kernel
theorem dX8_ticks_84 : decode cX8_ticks 84 = .ok (.dup2, 1) := by decide +kernel
theorem dX8_ticks_85 : decode cX8_ticks 85 = .ok (.iaload, 1) := by decide +kernel
theorem dX8_ticks_86 : decode cX8_ticks 86 = .ok (.bipush 16, 2) := by decide +kernel
theorem dX8_ticks_88 : decode cX8_ticks 88 = .ok (.aload_n 0, 1) := by decide +kernel
theorem dX8_ticks_89 : decode cX8_ticks 89 = .ok (.getfield 13, 3) := by decide +kernel
theorem dX8_ticks_92 : decode cX8_ticks 92 = .ok (.iload_n 2, 1) := by decide +kernel
theorem dX8_ticks_93 : decode cX8_ticks 93 = .ok (.bipush 7, 2) := by decide +kernel
theorem dX8_ticks_95 : decode cX8_ticks 95 = .ok (.iadd, 1) := by decide +kernel
theorem dX8_ticks_96 : decode cX8_ticks 96 = .ok (.iaload, 1) := by decide +kernel
theorem dX8_ticks_97 : decode cX8_ticks 97 = .ok (.imul, 1) := by decide +kernel
theorem dX8_ticks_98 : decode cX8_ticks 98 = .ok (.aload_n 0, 1) := by decide +kernel
theorem dX8_ticks_99 : decode cX8_ticks 99 = .ok (.getfield 13, 3) := by decide +kernel
theorem dX8_ticks_102 : decode cX8_ticks 102 = .ok (.iload_n 2, 1) := by decide +kernel
theorem dX8_ticks_103 : decode cX8_ticks 103 = .ok (.bipush 6, 2) := by decide +kernel
theorem dX8_ticks_105 : decode cX8_ticks 105 = .ok (.iadd, 1) := by decide +kernel
theorem dX8_ticks_106 : decode cX8_ticks 106 = .ok (.iaload, 1) := by decide +kernel
theorem dX8_ticks_107 : decode cX8_ticks 107 = .ok (.isub, 1) := by decide +kernel
theorem dX8_ticks_108 : decode cX8_ticks 108 = .ok (.bipush 8, 2) := by decide +kernel
theorem dX8_ticks_110 : decode cX8_ticks 110 = .ok (.idiv, 1) := by decide +kernel
theorem dX8_ticks_111 : decode cX8_ticks 111 = .ok (.iadd, 1) := by decide +kernel
theorem dX8_ticks_112 : decode cX8_ticks 112 = .ok (.iastore, 1) := by decide +kernel
theorem dX8_ticks_113 : decode cX8_ticks 113 = .ok (.aload_n 0, 1) := by decide +kernel
theorem dX8_ticks_114 : decode cX8_ticks 114 = .ok (.getfield 13, 3) := by decide +kernel
theorem dX8_ticks_117 : decode cX8_ticks 117 = .ok (.iload_n 2, 1) := by decide +kernel
theorem dX8_ticks_118 : decode cX8_ticks 118 = .ok (.bipush 7, 2) := by decide +kernel
theorem dX8_ticks_120 : decode cX8_ticks 120 = .ok (.iadd, 1) := by decide +kernel
theorem dX8_ticks_121 : decode cX8_ticks 121 = .ok (.iconst 0, 1) := by decide +kernel
theorem dX8_ticks_122 : decode cX8_ticks 122 = .ok (.iastore, 1) := by decide +kernel
theorem dX8_ticks_123 : decode cX8_ticks 123 = .ok (.aload_n 0, 1) := by decide +kernel
theorem dX8_ticks_124 : decode cX8_ticks 124 = .ok (.getfield 13, 3) := by decide +kernel
theorem dX8_ticks_127 : decode cX8_ticks 127 = .ok (.iload_n 2, 1) := by decide +kernel
theorem dX8_ticks_128 : decode cX8_ticks 128 = .ok (.iaload, 1) := by decide +kernel
theorem dX8_ticks_129 : decode cX8_ticks 129 = .ok (.ifCond .le 70, 3) := by decide +kernel
theorem dX8_ticks_132 : decode cX8_ticks 132 = .ok (.aload_n 0, 1) := by decide +kernel
theorem dX8_ticks_133 : decode cX8_ticks 133 = .ok (.getfield 13, 3) := by decide +kernel
theorem dX8_ticks_136 : decode cX8_ticks 136 = .ok (.iload_n 2, 1) := by decide +kernel
theorem dX8_ticks_137 : decode cX8_ticks 137 = .ok (.iaload, 1) := by decide +kernel
theorem dX8_ticks_138 : decode cX8_ticks 138 = .ok (.aload_n 0, 1) := by decide +kernel
theorem dX8_ticks_139 : decode cX8_ticks 139 = .ok (.getfield 13, 3) := by decide +kernel
theorem dX8_ticks_142 : decode cX8_ticks 142 = .ok (.bipush 15, 2) := by decide +kernel
theorem dX8_ticks_144 : decode cX8_ticks 144 = .ok (.iaload, 1) := by decide +kernel
theorem dX8_ticks_145 : decode cX8_ticks 145 = .ok (.if_icmp .ge 49, 3) := by decide +kernel
theorem dX8_ticks_148 : decode cX8_ticks 148 = .ok (.aload_n 0, 1) := by decide +kernel
theorem dX8_ticks_149 : decode cX8_ticks 149 = .ok (.getfield 13, 3) := by decide +kernel
theorem dX8_ticks_152 : decode cX8_ticks 152 = .ok (.iload_n 2, 1) := by decide +kernel
theorem dX8_ticks_153 : decode cX8_ticks 153 = .ok (.bipush 6, 2) := by decide +kernel
theorem dX8_ticks_155 : decode cX8_ticks 155 = .ok (.iadd, 1) := by decide +kernel
theorem dX8_ticks_156 : decode cX8_ticks 156 = .ok (.iaload, 1) := by decide +kernel
theorem dX8_ticks_157 : decode cX8_ticks 157 = .ok (.aload_n 0, 1) := by decide +kernel
theorem dX8_ticks_158 : decode cX8_ticks 158 = .ok (.getfield 13, 3) := by decide +kernel
theorem dX8_ticks_161 : decode cX8_ticks 161 = .ok (.bipush 21, 2) := by decide +kernel
theorem dX8_ticks_163 : decode cX8_ticks 163 = .ok (.iaload, 1) := by decide +kernel
theorem dX8_ticks_164 : decode cX8_ticks 164 = .ok (.if_icmp .lt 30, 3) := by decide +kernel
theorem dX8_ticks_167 : decode cX8_ticks 167 = .ok (.aload_n 0, 1) := by decide +kernel
theorem dX8_ticks_168 : decode cX8_ticks 168 = .ok (.getfield 13, 3) := by decide +kernel
theorem dX8_ticks_171 : decode cX8_ticks 171 = .ok (.bipush 6, 2) := by decide +kernel
theorem dX8_ticks_173 : decode cX8_ticks 173 = .ok (.iaload, 1) := by decide +kernel
theorem dX8_ticks_174 : decode cX8_ticks 174 = .ok (.aload_n 0, 1) := by decide +kernel
theorem dX8_ticks_175 : decode cX8_ticks 175 = .ok (.getfield 13, 3) := by decide +kernel
theorem dX8_ticks_178 : decode cX8_ticks 178 = .ok (.iload_n 2, 1) := by decide +kernel
theorem dX8_ticks_179 : decode cX8_ticks 179 = .ok (.iconst 2, 1) := by decide +kernel
theorem dX8_ticks_180 : decode cX8_ticks 180 = .ok (.iadd, 1) := by decide +kernel
theorem dX8_ticks_181 : decode cX8_ticks 181 = .ok (.iaload, 1) := by decide +kernel
theorem dX8_ticks_182 : decode cX8_ticks 182 = .ok (.isub, 1) := by decide +kernel
theorem dX8_ticks_183 : decode cX8_ticks 183 = .ok (.aload_n 0, 1) := by decide +kernel
theorem dX8_ticks_184 : decode cX8_ticks 184 = .ok (.getfield 13, 3) := by decide +kernel
theorem dX8_ticks_187 : decode cX8_ticks 187 = .ok (.iload_n 2, 1) := by decide +kernel
theorem dX8_ticks_188 : decode cX8_ticks 188 = .ok (.iconst 1, 1) := by decide +kernel
theorem dX8_ticks_189 : decode cX8_ticks 189 = .ok (.iadd, 1) := by decide +kernel
theorem dX8_ticks_190 : decode cX8_ticks 190 = .ok (.iaload, 1) := by decide +kernel
theorem dX8_ticks_191 : decode cX8_ticks 191 = .ok (.if_icmp .lt 8, 3) := by decide +kernel
theorem dX8_ticks_194 : decode cX8_ticks 194 = .ok (.aload_n 0, 1) := by decide +kernel
theorem dX8_ticks_195 : decode cX8_ticks 195 = .ok (.iload_n 1, 1) := by decide +kernel
theorem dX8_ticks_196 : decode cX8_ticks 196 = .ok (.invokevirtual 228, 3) := by decide +kernel
theorem dX8_ticks_199 : decode cX8_ticks 199 = .ok (.iinc 1 1, 3) := by decide +kernel
theorem dX8_ticks_202 : decode cX8_ticks 202 = .ok (.goto (-136), 3) := by decide +kernel
theorem dX8_ticks_205 : decode cX8_ticks 205 = .ok (.return_, 1) := by decide +kernel
theorem dX8_ticksBy_0 : decode cX8_ticksBy 0 = .ok (.aload_n 0, 1) := by decide +kernel
theorem dX8_ticksBy_1 : decode cX8_ticksBy 1 = .ok (.iconst 0, 1) := by decide +kernel
theorem dX8_ticksBy_2 : decode cX8_ticksBy 2 = .ok (.putfield 209, 3) := by decide +kernel
theorem dX8_ticksBy_5 : decode cX8_ticksBy 5 = .ok (.aload_n 0, 1) := by decide +kernel
theorem dX8_ticksBy_6 : decode cX8_ticksBy 6 = .ok (.iconst 0, 1) := by decide +kernel
theorem dX8_ticksBy_7 : decode cX8_ticksBy 7 = .ok (.putfield 222, 3) := by decide +kernel
theorem dX8_ticksBy_10 : decode cX8_ticksBy 10 = .ok (.iconst 0, 1) := by decide +kernel
theorem dX8_ticksBy_11 : decode cX8_ticksBy 11 = .ok (.istore_n 2, 1) := by decide +kernel
theorem dX8_ticksBy_12 : decode cX8_ticksBy 12 = .ok (.iload_n 2, 1) := by decide +kernel
theorem dX8_ticksBy_13 : decode cX8_ticksBy 13 = .ok (.iload_n 1, 1) := by decide +kernel
theorem dX8_ticksBy_14 : decode cX8_ticksBy 14 = .ok (.if_icmp .ge 13, 3) := by decide +kernel
theorem dX8_ticksBy_17 : decode cX8_ticksBy 17 = .ok (.aload_n 0, 1) := by decide +kernel
theorem dX8_ticksBy_18 : decode cX8_ticksBy 18 = .ok (.invokevirtual 231, 3) := by decide +kernel
theorem dX8_ticksBy_21 : decode cX8_ticksBy 21 = .ok (.iinc 2 1, 3) := by decide +kernel
theorem dX8_ticksBy_24 : decode cX8_ticksBy 24 = .ok (.goto (-12), 3) := by decide +kernel
theorem dX8_ticksBy_27 : decode cX8_ticksBy 27 = .ok (.return_, 1) := by decide +kernel
theorem dX8_tick_0 : decode cX8_tick 0 = .ok (.aload_n 0, 1) := by decide +kernel
theorem dX8_tick_1 : decode cX8_tick 1 = .ok (.iconst 0, 1) := by decide +kernel
theorem dX8_tick_2 : decode cX8_tick 2 = .ok (.putfield 61, 3) := by decide +kernel
theorem dX8_tick_5 : decode cX8_tick 5 = .ok (.iload_n 1, 1) := by decide +kernel
theorem dX8_tick_6 : decode cX8_tick 6 = .ok (.i2l, 1) := by decide +kernel
theorem dX8_tick_7 : decode cX8_tick 7 = .ok (.lconst 1, 1) := by decide +kernel
theorem dX8_tick_8 : decode cX8_tick 8 = .ok (.ldc2_w 234, 3) := by decide +kernel
theorem dX8_tick_11 : decode cX8_tick 11 = .ok (.invokestatic 84, 3) := by decide +kernel
theorem dX8_tick_14 : decode cX8_tick 14 = .ok (.ifCond .ne 9, 3) := by decide +kernel
theorem dX8_tick_17 : decode cX8_tick 17 = .ok (.aload_n 0, 1) := by decide +kernel
theorem dX8_tick_18 : decode cX8_tick 18 = .ok (.iconst (-1), 1) := by decide +kernel
theorem dX8_tick_19 : decode cX8_tick 19 = .ok (.invokevirtual 75, 3) := by decide +kernel
theorem dX8_tick_22 : decode cX8_tick 22 = .ok (.ireturn, 1) := by decide +kernel
theorem dX8_tick_23 : decode cX8_tick 23 = .ok (.aload_n 0, 1) := by decide +kernel
theorem dX8_tick_24 : decode cX8_tick 24 = .ok (.getfield 13, 3) := by decide +kernel
theorem dX8_tick_27 : decode cX8_tick 27 = .ok (.bipush 6, 2) := by decide +kernel
theorem dX8_tick_29 : decode cX8_tick 29 = .ok (.iaload, 1) := by decide +kernel
theorem dX8_tick_30 : decode cX8_tick 30 = .ok (.iload_n 1, 1) := by decide +kernel
theorem dX8_tick_31 : decode cX8_tick 31 = .ok (.iadd, 1) := by decide +kernel
theorem dX8_tick_32 : decode cX8_tick 32 = .ok (.ldc 236, 2) := by decide +kernel
theorem dX8_tick_34 : decode cX8_tick 34 = .ok (.if_icmp .le 10, 3) := by decide +kernel
theorem dX8_tick_37 : decode cX8_tick 37 = .ok (.aload_n 0, 1) := by decide +kernel
theorem dX8_tick_38 : decode cX8_tick 38 = .ok (.bipush (-4), 2) := by decide +kernel
theorem dX8_tick_40 : decode cX8_tick 40 = .ok (.invokevirtual 75, 3) := by decide +kernel
theorem dX8_tick_43 : decode cX8_tick 43 = .ok (.ireturn, 1) := by decide +kernel
theorem dX8_tick_44 : decode cX8_tick 44 = .ok (.aload_n 0, 1) := by decide +kernel
theorem dX8_tick_45 : decode cX8_tick 45 = .ok (.bipush 11, 2) := by decide +kernel
theorem dX8_tick_47 : decode cX8_tick 47 = .ok (.invokevirtual 129, 3) := by decide +kernel
theorem dX8_tick_50 : decode cX8_tick 50 = .ok (.aload_n 0, 1) := by decide +kernel
theorem dX8_tick_51 : decode cX8_tick 51 = .ok (.iload_n 1, 1) := by decide +kernel
theorem dX8_tick_52 : decode cX8_tick 52 = .ok (.invokevirtual 237, 3) := by decide +kernel
theorem dX8_tick_55 : decode cX8_tick 55 = .ok (.aload_n 0, 1) := by decide +kernel
theorem dX8_tick_56 : decode cX8_tick 56 = .ok (.aload_n 0, 1) := by decide +kernel
theorem dX8_tick_57 : decode cX8_tick 57 = .ok (.getfield 209, 3) := by decide +kernel
theorem dX8_tick_60 : decode cX8_tick 60 = .ok (.invokevirtual 81, 3) := by decide +kernel
theorem dX8_tick_63 : decode cX8_tick 63 = .ok (.ireturn, 1) := by decide +kernel
theorem dX8_poll_0 : decode cX8_poll 0 = .ok (.aload_n 0, 1) := by decide +kernel
theorem dX8_poll_1 : decode cX8_poll 1 = .ok (.iconst 0, 1) := by decide +kernel
theorem dX8_poll_2 : decode cX8_poll 2 = .ok (.putfield 61, 3) := by decide +kernel
theorem dX8_poll_5 : decode cX8_poll 5 = .ok (.iload_n 1, 1) := by decide +kernel
theorem dX8_poll_6 : decode cX8_poll 6 = .ok (.invokestatic 150, 3) := by decide +kernel
theorem dX8_poll_9 : decode cX8_poll 9 = .ok (.ifCond .ne 9, 3) := by decide +kernel
theorem dX8_poll_12 : decode cX8_poll 12 = .ok (.aload_n 0, 1) := by decide +kernel
theorem dX8_poll_13 : decode cX8_poll 13 = .ok (.iconst (-1), 1) := by decide +kernel
theorem dX8_poll_14 : decode cX8_poll 14 = .ok (.invokevirtual 75, 3) := by decide +kernel
theorem dX8_poll_17 : decode cX8_poll 17 = .ok (.ireturn, 1) := by decide +kernel
theorem dX8_poll_18 : decode cX8_poll 18 = .ok (.aload_n 0, 1) := by decide +kernel
theorem dX8_poll_19 : decode cX8_poll 19 = .ok (.getfield 13, 3) := by decide +kernel
theorem dX8_poll_22 : decode cX8_poll 22 = .ok (.iload_n 1, 1) := by decide +kernel
theorem dX8_poll_23 : decode cX8_poll 23 = .ok (.invokestatic 57, 3) := by decide +kernel
theorem dX8_poll_26 : decode cX8_poll 26 = .ok (.iaload, 1) := by decide +kernel
theorem dX8_poll_27 : decode cX8_poll 27 = .ok (.ifCond .ne 10, 3) := by decide +kernel
theorem dX8_poll_30 : decode cX8_poll 30 = .ok (.aload_n 0, 1) := by decide +kernel
theorem dX8_poll_31 : decode cX8_poll 31 = .ok (.bipush (-4), 2) := by decide +kernel
theorem dX8_poll_33 : decode cX8_poll 33 = .ok (.invokevirtual 75, 3) := by decide +kernel
theorem dX8_poll_36 : decode cX8_poll 36 = .ok (.ireturn, 1) := by decide +kernel
theorem dX8_poll_37 : decode cX8_poll 37 = .ok (.aload_n 0, 1) := by decide +kernel
theorem dX8_poll_38 : decode cX8_poll 38 = .ok (.bipush 12, 2) := by decide +kernel
theorem dX8_poll_40 : decode cX8_poll 40 = .ok (.invokevirtual 129, 3) := by decide +kernel
theorem dX8_poll_43 : decode cX8_poll 43 = .ok (.aload_n 0, 1) := by decide +kernel
theorem dX8_poll_44 : decode cX8_poll 44 = .ok (.aload_n 0, 1) := by decide +kernel
theorem dX8_poll_45 : decode cX8_poll 45 = .ok (.iload_n 1, 1) := by decide +kernel
theorem dX8_poll_46 : decode cX8_poll 46 = .ok (.invokevirtual 225, 3) := by decide +kernel
theorem dX8_poll_49 : decode cX8_poll 49 = .ok (.invokevirtual 81, 3) := by decide +kernel
theorem dX8_poll_52 : decode cX8_poll 52 = .ok (.ireturn, 1) := by decide +kernel
theorem dX8_hash_0 : decode cX8_hash 0 = .ok (.aload_n 0, 1) := by decide +kernel
theorem dX8_hash_1 : decode cX8_hash 1 = .ok (.iconst 0, 1) := by decide +kernel
theorem dX8_hash_2 : decode cX8_hash 2 = .ok (.putfield 61, 3) := by decide +kernel
theorem dX8_hash_5 : decode cX8_hash 5 = .ok (.aload_n 0, 1) := by decide +kernel
theorem dX8_hash_6 : decode cX8_hash 6 = .ok (.iload_n 1, 1) := by decide +kernel
theorem dX8_hash_7 : decode cX8_hash 7 = .ok (.iload_n 2, 1) := by decide +kernel
theorem dX8_hash_8 : decode cX8_hash 8 = .ok (.iload_n 3, 1) := by decide +kernel
theorem dX8_hash_9 : decode cX8_hash 9 = .ok (.iload 4, 2) := by decide +kernel
theorem dX8_hash_11 : decode cX8_hash 11 = .ok (.iload 5, 2) := by decide +kernel
theorem dX8_hash_13 : decode cX8_hash 13 = .ok (.invokevirtual 141, 3) := by decide +kernel
theorem dX8_hash_16 : decode cX8_hash 16 = .ok (.ifCond .eq 10, 3) := by decide +kernel
theorem dX8_hash_19 : decode cX8_hash 19 = .ok (.aload_n 0, 1) := by decide +kernel
theorem dX8_hash_20 : decode cX8_hash 20 = .ok (.invokevirtual 109, 3) := by decide +kernel
theorem dX8_hash_23 : decode cX8_hash 23 = .ok (.goto 4, 3) := by decide +kernel
theorem dX8_hash_26 : decode cX8_hash 26 = .ok (.iconst 0, 1) := by decide +kernel
theorem dX8_hash_27 : decode cX8_hash 27 = .ok (.ireturn, 1) := by decide +kernel
theorem dX8_hashOf_0 : decode cX8_hashOf 0 = .ok (.aload_n 0, 1) := by decide +kernel
theorem dX8_hashOf_1 : decode cX8_hashOf 1 = .ok (.iconst 0, 1) := by decide +kernel
theorem dX8_hashOf_2 : decode cX8_hashOf 2 = .ok (.putfield 61, 3) := by decide +kernel
theorem dX8_hashOf_5 : decode cX8_hashOf 5 = .ok (.aload_n 0, 1) := by decide +kernel
theorem dX8_hashOf_6 : decode cX8_hashOf 6 = .ok (.iload_n 1, 1) := by decide +kernel
theorem dX8_hashOf_7 : decode cX8_hashOf 7 = .ok (.invokevirtual 164, 3) := by decide +kernel
theorem dX8_hashOf_10 : decode cX8_hashOf 10 = .ok (.ifCond .eq 18, 3) := by decide +kernel
theorem dX8_hashOf_13 : decode cX8_hashOf 13 = .ok (.aload_n 0, 1) := by decide +kernel
theorem dX8_hashOf_14 : decode cX8_hashOf 14 = .ok (.getfield 13, 3) := by decide +kernel
theorem dX8_hashOf_17 : decode cX8_hashOf 17 = .ok (.iload_n 1, 1) := by decide +kernel
theorem dX8_hashOf_18 : decode cX8_hashOf 18 = .ok (.invokestatic 102, 3) := by decide +kernel
theorem dX8_hashOf_21 : decode cX8_hashOf 21 = .ok (.bipush 14, 2) := by decide +kernel
theorem dX8_hashOf_23 : decode cX8_hashOf 23 = .ok (.iadd, 1) := by decide +kernel
theorem dX8_hashOf_24 : decode cX8_hashOf 24 = .ok (.iaload, 1) := by decide +kernel
theorem dX8_hashOf_25 : decode cX8_hashOf 25 = .ok (.goto 4, 3) := by decide +kernel
theorem dX8_hashOf_28 : decode cX8_hashOf 28 = .ok (.iconst 0, 1) := by decide +kernel
theorem dX8_hashOf_29 : decode cX8_hashOf 29 = .ok (.ireturn, 1) := by decide +kernel
theorem dX8_of_0 : decode cX8_of 0 = .ok (.aload_n 0, 1) := by decide +kernel
theorem dX8_of_1 : decode cX8_of 1 = .ok (.iconst 0, 1) := by decide +kernel
theorem dX8_of_2 : decode cX8_of 2 = .ok (.putfield 61, 3) := by decide +kernel
theorem dX8_of_5 : decode cX8_of 5 = .ok (.aload_n 0, 1) := by decide +kernel
theorem dX8_of_6 : decode cX8_of 6 = .ok (.iload_n 1, 1) := by decide +kernel
theorem dX8_of_7 : decode cX8_of 7 = .ok (.invokevirtual 164, 3) := by decide +kernel
theorem dX8_of_10 : decode cX8_of 10 = .ok (.ifCond .ne 5, 3) := by decide +kernel
theorem dX8_of_13 : decode cX8_of 13 = .ok (.iconst (-1), 1) := by decide +kernel
theorem dX8_of_14 : decode cX8_of 14 = .ok (.ireturn, 1) := by decide +kernel
theorem dX8_of_15 : decode cX8_of 15 = .ok (.iload_n 1, 1) := by decide +kernel
theorem dX8_of_16 : decode cX8_of 16 = .ok (.invokestatic 102, 3) := by decide +kernel
theorem dX8_of_19 : decode cX8_of 19 = .ok (.istore_n 3, 1) := by decide +kernel
theorem dX8_of_20 : decode cX8_of 20 = .ok (.aload_n 0, 1) := by decide +kernel
theorem dX8_of_21 : decode cX8_of 21 = .ok (.iload_n 1, 1) := by decide +kernel
theorem dX8_of_22 : decode cX8_of 22 = .ok (.invokevirtual 119, 3) := by decide +kernel
theorem dX8_of_25 : decode cX8_of 25 = .ok (.istore 4, 2) := by decide +kernel
theorem dX8_of_27 : decode cX8_of 27 = .ok (.iload_n 2, 1) := by decide +kernel
theorem dX8_of_28 : decode cX8_of 28 = .ok (.tableswitch 235 5 19 #[76, 82, 88, 94, 100, 109, 119, 129, 139, 162, 185, 195, 205, 215, 225], 76) := by decide +kernel
theorem dX8_of_104 : decode cX8_of 104 = .ok (.aload_n 0, 1) := by decide +kernel
theorem dX8_of_105 : decode cX8_of 105 = .ok (.iload_n 1, 1) := by decide +kernel
theorem dX8_of_106 : decode cX8_of 106 = .ok (.invokevirtual 122, 3) := by decide +kernel
theorem dX8_of_109 : decode cX8_of 109 = .ok (.ireturn, 1) := by decide +kernel
theorem dX8_of_110 : decode cX8_of 110 = .ok (.aload_n 0, 1) := by decide +kernel
theorem dX8_of_111 : decode cX8_of 111 = .ok (.iload_n 1, 1) := by decide +kernel
theorem dX8_of_112 : decode cX8_of 112 = .ok (.invokevirtual 189, 3) := by decide +kernel
theorem dX8_of_115 : decode cX8_of 115 = .ok (.ireturn, 1) := by decide +kernel
theorem dX8_of_116 : decode cX8_of 116 = .ok (.aload_n 0, 1) := by decide +kernel
theorem dX8_of_117 : decode cX8_of 117 = .ok (.iload_n 1, 1) := by decide +kernel
theorem dX8_of_118 : decode cX8_of 118 = .ok (.invokevirtual 192, 3) := by decide +kernel
theorem dX8_of_121 : decode cX8_of 121 = .ok (.ireturn, 1) := by decide +kernel
theorem dX8_of_122 : decode cX8_of 122 = .ok (.aload_n 0, 1) := by decide +kernel
theorem dX8_of_123 : decode cX8_of 123 = .ok (.iload_n 1, 1) := by decide +kernel
theorem dX8_of_124 : decode cX8_of 124 = .ok (.invokevirtual 240, 3) := by decide +kernel
theorem dX8_of_127 : decode cX8_of 127 = .ok (.ireturn, 1) := by decide +kernel
theorem dX8_of_128 : decode cX8_of 128 = .ok (.aload_n 0, 1) := by decide +kernel
theorem dX8_of_129 : decode cX8_of 129 = .ok (.getfield 13, 3) := by decide +kernel
theorem dX8_of_132 : decode cX8_of 132 = .ok (.iload_n 3, 1) := by decide +kernel
theorem dX8_of_133 : decode cX8_of 133 = .ok (.iconst 5, 1) := by decide +kernel
theorem dX8_of_134 : decode cX8_of 134 = .ok (.iadd, 1) := by decide +kernel
theorem dX8_of_135 : decode cX8_of 135 = .ok (.iaload, 1) := by decide +kernel
theorem dX8_of_136 : decode cX8_of 136 = .ok (.ireturn, 1) := by decide +kernel
theorem dX8_of_137 : decode cX8_of 137 = .ok (.aload_n 0, 1) := by decide +kernel
theorem dX8_of_138 : decode cX8_of 138 = .ok (.getfield 13, 3) := by decide +kernel
theorem dX8_of_141 : decode cX8_of 141 = .ok (.iload_n 3, 1) := by decide +kernel
theorem dX8_of_142 : decode cX8_of 142 = .ok (.bipush 6, 2) := by decide +kernel
theorem dX8_of_144 : decode cX8_of 144 = .ok (.iadd, 1) := by decide +kernel
theorem dX8_of_145 : decode cX8_of 145 = .ok (.iaload, 1) := by decide +kernel
theorem dX8_of_146 : decode cX8_of 146 = .ok (.ireturn, 1) := by decide +kernel
theorem dX8_of_147 : decode cX8_of 147 = .ok (.aload_n 0, 1) := by decide +kernel
theorem dX8_of_148 : decode cX8_of 148 = .ok (.getfield 13, 3) := by decide +kernel
theorem dX8_of_151 : decode cX8_of 151 = .ok (.iload_n 3, 1) := by decide +kernel
theorem dX8_of_152 : decode cX8_of 152 = .ok (.bipush 7, 2) := by decide +kernel
theorem dX8_of_154 : decode cX8_of 154 = .ok (.iadd, 1) := by decide +kernel
theorem dX8_of_155 : decode cX8_of 155 = .ok (.iaload, 1) := by decide +kernel
theorem dX8_of_156 : decode cX8_of 156 = .ok (.ireturn, 1) := by decide +kernel
theorem dX8_of_157 : decode cX8_of 157 = .ok (.aload_n 0, 1) := by decide +kernel
theorem dX8_of_158 : decode cX8_of 158 = .ok (.getfield 13, 3) := by decide +kernel
theorem dX8_of_161 : decode cX8_of 161 = .ok (.iload_n 3, 1) := by decide +kernel
theorem dX8_of_162 : decode cX8_of 162 = .ok (.bipush 8, 2) := by decide +kernel
theorem dX8_of_164 : decode cX8_of 164 = .ok (.iadd, 1) := by decide +kernel
theorem dX8_of_165 : decode cX8_of 165 = .ok (.iaload, 1) := by decide +kernel
theorem dX8_of_166 : decode cX8_of 166 = .ok (.ireturn, 1) := by decide +kernel
theorem dX8_of_167 : decode cX8_of 167 = .ok (.iload 4, 2) := by decide +kernel
theorem dX8_of_169 : decode cX8_of 169 = .ok (.iconst (-1), 1) := by decide +kernel
theorem dX8_of_170 : decode cX8_of 170 = .ok (.if_icmp .ne 7, 3) := by decide +kernel
theorem dX8_of_173 : decode cX8_of 173 = .ok (.iconst (-1), 1) := by decide +kernel
theorem dX8_of_174 : decode cX8_of 174 = .ok (.goto 15, 3) := by decide +kernel
theorem dX8_of_177 : decode cX8_of 177 = .ok (.aload_n 0, 1) := by decide +kernel
theorem dX8_of_178 : decode cX8_of 178 = .ok (.getfield 13, 3) := by decide +kernel
theorem dX8_of_181 : decode cX8_of 181 = .ok (.iload 4, 2) := by decide +kernel
theorem dX8_of_183 : decode cX8_of 183 = .ok (.invokestatic 116, 3) := by decide +kernel
theorem dX8_of_186 : decode cX8_of 186 = .ok (.iconst 1, 1) := by decide +kernel
theorem dX8_of_187 : decode cX8_of 187 = .ok (.iadd, 1) := by decide +kernel
theorem dX8_of_188 : decode cX8_of 188 = .ok (.iaload, 1) := by decide +kernel
theorem dX8_of_189 : decode cX8_of 189 = .ok (.ireturn, 1) := by decide +kernel
theorem dX8_of_190 : decode cX8_of 190 = .ok (.iload 4, 2) := by decide +kernel
theorem dX8_of_192 : decode cX8_of 192 = .ok (.iconst (-1), 1) := by decide +kernel
theorem dX8_of_193 : decode cX8_of 193 = .ok (.if_icmp .ne 7, 3) := by decide +kernel
theorem dX8_of_196 : decode cX8_of 196 = .ok (.iconst (-1), 1) := by decide +kernel
theorem dX8_of_197 : decode cX8_of 197 = .ok (.goto 15, 3) := by decide +kernel
theorem dX8_of_200 : decode cX8_of 200 = .ok (.aload_n 0, 1) := by decide +kernel
theorem dX8_of_201 : decode cX8_of 201 = .ok (.getfield 13, 3) := by decide +kernel
theorem dX8_of_204 : decode cX8_of 204 = .ok (.iload 4, 2) := by decide +kernel
theorem dX8_of_206 : decode cX8_of 206 = .ok (.invokestatic 116, 3) := by decide +kernel
theorem dX8_of_209 : decode cX8_of 209 = .ok (.iconst 2, 1) := by decide +kernel
theorem dX8_of_210 : decode cX8_of 210 = .ok (.iadd, 1) := by decide +kernel
theorem dX8_of_211 : decode cX8_of 211 = .ok (.iaload, 1) := by decide +kernel
theorem dX8_of_212 : decode cX8_of 212 = .ok (.ireturn, 1) := by decide +kernel
theorem dX8_of_213 : decode cX8_of 213 = .ok (.aload_n 0, 1) := by decide +kernel
theorem dX8_of_214 : decode cX8_of 214 = .ok (.getfield 13, 3) := by decide +kernel
theorem dX8_of_217 : decode cX8_of 217 = .ok (.iload_n 3, 1) := by decide +kernel
theorem dX8_of_218 : decode cX8_of 218 = .ok (.bipush 9, 2) := by decide +kernel
theorem dX8_of_220 : decode cX8_of 220 = .ok (.iadd, 1) := by decide +kernel
theorem dX8_of_221 : decode cX8_of 221 = .ok (.iaload, 1) := by decide +kernel
theorem dX8_of_222 : decode cX8_of 222 = .ok (.ireturn, 1) := by decide +kernel
theorem dX8_of_223 : decode cX8_of 223 = .ok (.aload_n 0, 1) := by decide +kernel
theorem dX8_of_224 : decode cX8_of 224 = .ok (.getfield 13, 3) := by decide +kernel
theorem dX8_of_227 : decode cX8_of 227 = .ok (.iload_n 3, 1) := by decide +kernel
theorem dX8_of_228 : decode cX8_of 228 = .ok (.bipush 10, 2) := by decide +kernel
theorem dX8_of_230 : decode cX8_of 230 = .ok (.iadd, 1) := by decide +kernel
theorem dX8_of_231 : decode cX8_of 231 = .ok (.iaload, 1) := by decide +kernel
theorem dX8_of_232 : decode cX8_of 232 = .ok (.ireturn, 1) := by decide +kernel
theorem dX8_of_233 : decode cX8_of 233 = .ok (.aload_n 0, 1) := by decide +kernel
theorem dX8_of_234 : decode cX8_of 234 = .ok (.getfield 13, 3) := by decide +kernel
theorem dX8_of_237 : decode cX8_of 237 = .ok (.iload_n 3, 1) := by decide +kernel
theorem dX8_of_238 : decode cX8_of 238 = .ok (.bipush 11, 2) := by decide +kernel
theorem dX8_of_240 : decode cX8_of 240 = .ok (.iadd, 1) := by decide +kernel
theorem dX8_of_241 : decode cX8_of 241 = .ok (.iaload, 1) := by decide +kernel
theorem dX8_of_242 : decode cX8_of 242 = .ok (.ireturn, 1) := by decide +kernel
theorem dX8_of_243 : decode cX8_of 243 = .ok (.aload_n 0, 1) := by decide +kernel
theorem dX8_of_244 : decode cX8_of 244 = .ok (.getfield 13, 3) := by decide +kernel
theorem dX8_of_247 : decode cX8_of 247 = .ok (.iload_n 3, 1) := by decide +kernel
theorem dX8_of_248 : decode cX8_of 248 = .ok (.bipush 12, 2) := by decide +kernel
theorem dX8_of_250 : decode cX8_of 250 = .ok (.iadd, 1) := by decide +kernel
theorem dX8_of_251 : decode cX8_of 251 = .ok (.iaload, 1) := by decide +kernel
theorem dX8_of_252 : decode cX8_of 252 = .ok (.ireturn, 1) := by decide +kernel
theorem dX8_of_253 : decode cX8_of 253 = .ok (.aload_n 0, 1) := by decide +kernel
theorem dX8_of_254 : decode cX8_of 254 = .ok (.getfield 13, 3) := by decide +kernel
theorem dX8_of_257 : decode cX8_of 257 = .ok (.iload_n 3, 1) := by decide +kernel
theorem dX8_of_258 : decode cX8_of 258 = .ok (.bipush 13, 2) := by decide +kernel
theorem dX8_of_260 : decode cX8_of 260 = .ok (.iadd, 1) := by decide +kernel
theorem dX8_of_261 : decode cX8_of 261 = .ok (.iaload, 1) := by decide +kernel
theorem dX8_of_262 : decode cX8_of 262 = .ok (.ireturn, 1) := by decide +kernel
theorem dX8_of_263 : decode cX8_of 263 = .ok (.iload_n 2, 1) := by decide +kernel
theorem dX8_of_264 : decode cX8_of 264 = .ok (.i2l, 1) := by decide +kernel
theorem dX8_of_265 : decode cX8_of 265 = .ok (.lconst 0, 1) := by decide +kernel
theorem dX8_of_266 : decode cX8_of 266 = .ok (.ldc2_w 243, 3) := by decide +kernel
theorem dX8_of_269 : decode cX8_of 269 = .ok (.invokestatic 84, 3) := by decide +kernel
theorem dX8_of_272 : decode cX8_of 272 = .ok (.ifCond .eq 14, 3) := by decide +kernel
theorem dX8_of_275 : decode cX8_of 275 = .ok (.aload_n 0, 1) := by decide +kernel
theorem dX8_of_276 : decode cX8_of 276 = .ok (.getfield 13, 3) := by decide +kernel
theorem dX8_of_279 : decode cX8_of 279 = .ok (.iload_n 3, 1) := by decide +kernel
theorem dX8_of_280 : decode cX8_of 280 = .ok (.iload_n 2, 1) := by decide +kernel
theorem dX8_of_281 : decode cX8_of 281 = .ok (.iadd, 1) := by decide +kernel
theorem dX8_of_282 : decode cX8_of 282 = .ok (.iaload, 1) := by decide +kernel
theorem dX8_of_283 : decode cX8_of 283 = .ok (.goto 4, 3) := by decide +kernel
theorem dX8_of_286 : decode cX8_of 286 = .ok (.iconst (-1), 1) := by decide +kernel
theorem dX8_of_287 : decode cX8_of 287 = .ok (.ireturn, 1) := by decide +kernel
theorem dX8_missing_0 : decode cX8_missing 0 = .ok (.aload_n 0, 1) := by decide +kernel
theorem dX8_missing_1 : decode cX8_missing 1 = .ok (.iconst 0, 1) := by decide +kernel
theorem dX8_missing_2 : decode cX8_missing 2 = .ok (.putfield 61, 3) := by decide +kernel
theorem dX8_missing_5 : decode cX8_missing 5 = .ok (.aload_n 0, 1) := by decide +kernel
theorem dX8_missing_6 : decode cX8_missing 6 = .ok (.iload_n 1, 1) := by decide +kernel
theorem dX8_missing_7 : decode cX8_missing 7 = .ok (.invokevirtual 164, 3) := by decide +kernel
theorem dX8_missing_10 : decode cX8_missing 10 = .ok (.ifCond .eq 13, 3) := by decide +kernel
theorem dX8_missing_13 : decode cX8_missing 13 = .ok (.iload_n 2, 1) := by decide +kernel
theorem dX8_missing_14 : decode cX8_missing 14 = .ok (.i2l, 1) := by decide +kernel
theorem dX8_missing_15 : decode cX8_missing 15 = .ok (.lconst 0, 1) := by decide +kernel
theorem dX8_missing_16 : decode cX8_missing 16 = .ok (.lconst 1, 1) := by decide +kernel
theorem dX8_missing_17 : decode cX8_missing 17 = .ok (.invokestatic 84, 3) := by decide +kernel
theorem dX8_missing_20 : decode cX8_missing 20 = .ok (.ifCond .ne 5, 3) := by decide +kernel
theorem dX8_missing_23 : decode cX8_missing 23 = .ok (.iconst (-1), 1) := by decide +kernel
theorem dX8_missing_24 : decode cX8_missing 24 = .ok (.ireturn, 1) := by decide +kernel
theorem dX8_missing_25 : decode cX8_missing 25 = .ok (.iload_n 1, 1) := by decide +kernel
theorem dX8_missing_26 : decode cX8_missing 26 = .ok (.invokestatic 102, 3) := by decide +kernel
theorem dX8_missing_29 : decode cX8_missing 29 = .ok (.istore_n 3, 1) := by decide +kernel
theorem dX8_missing_30 : decode cX8_missing 30 = .ok (.iconst 0, 1) := by decide +kernel
theorem dX8_missing_31 : decode cX8_missing 31 = .ok (.istore 4, 2) := by decide +kernel
theorem dX8_missing_33 : decode cX8_missing 33 = .ok (.aload_n 0, 1) := by decide +kernel
theorem dX8_missing_34 : decode cX8_missing 34 = .ok (.getfield 13, 3) := by decide +kernel
theorem dX8_missing_37 : decode cX8_missing 37 = .ok (.iload_n 3, 1) := by decide +kernel
theorem dX8_missing_38 : decode cX8_missing 38 = .ok (.bipush 9, 2) := by decide +kernel
theorem dX8_missing_40 : decode cX8_missing 40 = .ok (.iadd, 1) := by decide +kernel
theorem dX8_missing_41 : decode cX8_missing 41 = .ok (.iaload, 1) := by decide +kernel
theorem dX8_missing_42 : decode cX8_missing 42 = .ok (.istore 5, 2) := by decide +kernel
theorem dX8_missing_44 : decode cX8_missing 44 = .ok (.iconst 0, 1) := by decide +kernel
theorem dX8_missing_45 : decode cX8_missing 45 = .ok (.istore 6, 2) := by decide +kernel
theorem dX8_missing_47 : decode cX8_missing 47 = .ok (.iconst 0, 1) := by decide +kernel
theorem dX8_missing_48 : decode cX8_missing 48 = .ok (.istore 7, 2) := by decide +kernel
theorem dX8_missing_50 : decode cX8_missing 50 = .ok (.iload 7, 2) := by decide +kernel
theorem dX8_missing_52 : decode cX8_missing 52 = .ok (.iconst 4, 1) := by decide +kernel
theorem dX8_missing_53 : decode cX8_missing 53 = .ok (.if_icmp .ge 124, 3) := by decide +kernel
theorem dX8_missing_56 : decode cX8_missing 56 = .ok (.iconst 0, 1) := by decide +kernel
theorem dX8_missing_57 : decode cX8_missing 57 = .ok (.istore 8, 2) := by decide +kernel
theorem dX8_missing_59 : decode cX8_missing 59 = .ok (.iload 8, 2) := by decide +kernel
theorem dX8_missing_61 : decode cX8_missing 61 = .ok (.aload_n 0, 1) := by decide +kernel
theorem dX8_missing_62 : decode cX8_missing 62 = .ok (.getfield 13, 3) := by decide +kernel
theorem dX8_missing_65 : decode cX8_missing 65 = .ok (.iload 7, 2) := by decide +kernel
theorem dX8_missing_67 : decode cX8_missing 67 = .ok (.invokestatic 57, 3) := by decide +kernel
theorem dX8_missing_70 : decode cX8_missing 70 = .ok (.iaload, 1) := by decide +kernel
theorem dX8_missing_71 : decode cX8_missing 71 = .ok (.if_icmp .ge 100, 3) := by decide +kernel
theorem dX8_missing_74 : decode cX8_missing 74 = .ok (.iload 7, 2) := by decide +kernel
theorem dX8_missing_76 : decode cX8_missing 76 = .ok (.iload 8, 2) := by decide +kernel
theorem dX8_missing_78 : decode cX8_missing 78 = .ok (.invokestatic 125, 3) := by decide +kernel
theorem dX8_missing_81 : decode cX8_missing 81 = .ok (.istore 9, 2) := by decide +kernel
theorem dX8_missing_83 : decode cX8_missing 83 = .ok (.aload_n 0, 1) := by decide +kernel
theorem dX8_missing_84 : decode cX8_missing 84 = .ok (.getfield 13, 3) := by decide +kernel
theorem dX8_missing_87 : decode cX8_missing 87 = .ok (.iload 9, 2) := by decide +kernel
theorem dX8_missing_89 : decode cX8_missing 89 = .ok (.iaload, 1) := by decide +kernel
theorem dX8_missing_90 : decode cX8_missing 90 = .ok (.iload_n 1, 1) := by decide +kernel
theorem dX8_missing_91 : decode cX8_missing 91 = .ok (.if_icmp .ne 74, 3) := by decide +kernel
theorem dX8_missing_94 : decode cX8_missing 94 = .ok (.aload_n 0, 1) := by decide +kernel
theorem dX8_missing_95 : decode cX8_missing 95 = .ok (.getfield 13, 3) := by decide +kernel
theorem dX8_missing_98 : decode cX8_missing 98 = .ok (.iload 9, 2) := by decide +kernel
theorem dX8_missing_100 : decode cX8_missing 100 = .ok (.iconst 1, 1) := by decide +kernel
theorem dX8_missing_101 : decode cX8_missing 101 = .ok (.iadd, 1) := by decide +kernel
theorem dX8_missing_102 : decode cX8_missing 102 = .ok (.iaload, 1) := by decide +kernel
theorem dX8_missing_103 : decode cX8_missing 103 = .ok (.iload 5, 2) := by decide +kernel
theorem dX8_missing_105 : decode cX8_missing 105 = .ok (.isub, 1) := by decide +kernel
theorem dX8_missing_106 : decode cX8_missing 106 = .ok (.iload 6, 2) := by decide +kernel
theorem dX8_missing_108 : decode cX8_missing 108 = .ok (.if_icmp .le 18, 3) := by decide +kernel
theorem dX8_missing_111 : decode cX8_missing 111 = .ok (.aload_n 0, 1) := by decide +kernel
theorem dX8_missing_112 : decode cX8_missing 112 = .ok (.getfield 13, 3) := by decide +kernel
theorem dX8_missing_115 : decode cX8_missing 115 = .ok (.iload 9, 2) := by decide +kernel
theorem dX8_missing_117 : decode cX8_missing 117 = .ok (.iconst 1, 1) := by decide +kernel
theorem dX8_missing_118 : decode cX8_missing 118 = .ok (.iadd, 1) := by decide +kernel
theorem dX8_missing_119 : decode cX8_missing 119 = .ok (.iaload, 1) := by decide +kernel
theorem dX8_missing_120 : decode cX8_missing 120 = .ok (.iload 5, 2) := by decide +kernel
theorem dX8_missing_122 : decode cX8_missing 122 = .ok (.isub, 1) := by decide +kernel
theorem dX8_missing_123 : decode cX8_missing 123 = .ok (.goto 5, 3) := by decide +kernel
theorem dX8_missing_126 : decode cX8_missing 126 = .ok (.iload 6, 2) := by decide +kernel
theorem dX8_missing_128 : decode cX8_missing 128 = .ok (.istore 6, 2) := by decide +kernel
theorem dX8_missing_130 : decode cX8_missing 130 = .ok (.aload_n 0, 1) := by decide +kernel
theorem dX8_missing_131 : decode cX8_missing 131 = .ok (.getfield 13, 3) := by decide +kernel
theorem dX8_missing_134 : decode cX8_missing 134 = .ok (.iload 9, 2) := by decide +kernel
theorem dX8_missing_136 : decode cX8_missing 136 = .ok (.iconst 1, 1) := by decide +kernel
theorem dX8_missing_137 : decode cX8_missing 137 = .ok (.iadd, 1) := by decide +kernel
theorem dX8_missing_138 : decode cX8_missing 138 = .ok (.iaload, 1) := by decide +kernel
theorem dX8_missing_139 : decode cX8_missing 139 = .ok (.aload_n 0, 1) := by decide +kernel
theorem dX8_missing_140 : decode cX8_missing 140 = .ok (.getfield 13, 3) := by decide +kernel
theorem dX8_missing_143 : decode cX8_missing 143 = .ok (.iload 9, 2) := by decide +kernel
theorem dX8_missing_145 : decode cX8_missing 145 = .ok (.iconst 2, 1) := by decide +kernel
theorem dX8_missing_146 : decode cX8_missing 146 = .ok (.iadd, 1) := by decide +kernel
theorem dX8_missing_147 : decode cX8_missing 147 = .ok (.iaload, 1) := by decide +kernel
theorem dX8_missing_148 : decode cX8_missing 148 = .ok (.iadd, 1) := by decide +kernel
theorem dX8_missing_149 : decode cX8_missing 149 = .ok (.istore 5, 2) := by decide +kernel
theorem dX8_missing_151 : decode cX8_missing 151 = .ok (.iload 4, 2) := by decide +kernel
theorem dX8_missing_153 : decode cX8_missing 153 = .ok (.aload_n 0, 1) := by decide +kernel
theorem dX8_missing_154 : decode cX8_missing 154 = .ok (.getfield 13, 3) := by decide +kernel
theorem dX8_missing_157 : decode cX8_missing 157 = .ok (.iload 9, 2) := by decide +kernel
theorem dX8_missing_159 : decode cX8_missing 159 = .ok (.iconst 2, 1) := by decide +kernel
theorem dX8_missing_160 : decode cX8_missing 160 = .ok (.iadd, 1) := by decide +kernel
theorem dX8_missing_161 : decode cX8_missing 161 = .ok (.iaload, 1) := by decide +kernel
theorem dX8_missing_162 : decode cX8_missing 162 = .ok (.iadd, 1) := by decide +kernel
theorem dX8_missing_163 : decode cX8_missing 163 = .ok (.istore 4, 2) := by decide +kernel
theorem dX8_missing_165 : decode cX8_missing 165 = .ok (.iinc 8 1, 3) := by decide +kernel
theorem dX8_missing_168 : decode cX8_missing 168 = .ok (.goto (-109), 3) := by decide +kernel
theorem dX8_missing_171 : decode cX8_missing 171 = .ok (.iinc 7 1, 3) := by decide +kernel
theorem dX8_missing_174 : decode cX8_missing 174 = .ok (.goto (-124), 3) := by decide +kernel
theorem dX8_missing_177 : decode cX8_missing 177 = .ok (.aload_n 0, 1) := by decide +kernel
theorem dX8_missing_178 : decode cX8_missing 178 = .ok (.getfield 13, 3) := by decide +kernel
theorem dX8_missing_181 : decode cX8_missing 181 = .ok (.iload_n 3, 1) := by decide +kernel
theorem dX8_missing_182 : decode cX8_missing 182 = .ok (.iconst 5, 1) := by decide +kernel
theorem dX8_missing_183 : decode cX8_missing 183 = .ok (.iadd, 1) := by decide +kernel
theorem dX8_missing_184 : decode cX8_missing 184 = .ok (.iaload, 1) := by decide +kernel
theorem dX8_missing_185 : decode cX8_missing 185 = .ok (.iload 5, 2) := by decide +kernel
theorem dX8_missing_187 : decode cX8_missing 187 = .ok (.isub, 1) := by decide +kernel
theorem dX8_missing_188 : decode cX8_missing 188 = .ok (.iload 6, 2) := by decide +kernel
theorem dX8_missing_190 : decode cX8_missing 190 = .ok (.if_icmp .le 17, 3) := by decide +kernel
theorem dX8_missing_193 : decode cX8_missing 193 = .ok (.aload_n 0, 1) := by decide +kernel
theorem dX8_missing_194 : decode cX8_missing 194 = .ok (.getfield 13, 3) := by decide +kernel
theorem dX8_missing_197 : decode cX8_missing 197 = .ok (.iload_n 3, 1) := by decide +kernel
theorem dX8_missing_198 : decode cX8_missing 198 = .ok (.iconst 5, 1) := by decide +kernel
theorem dX8_missing_199 : decode cX8_missing 199 = .ok (.iadd, 1) := by decide +kernel
theorem dX8_missing_200 : decode cX8_missing 200 = .ok (.iaload, 1) := by decide +kernel
theorem dX8_missing_201 : decode cX8_missing 201 = .ok (.iload 5, 2) := by decide +kernel
theorem dX8_missing_203 : decode cX8_missing 203 = .ok (.isub, 1) := by decide +kernel
theorem dX8_missing_204 : decode cX8_missing 204 = .ok (.goto 5, 3) := by decide +kernel
theorem dX8_missing_207 : decode cX8_missing 207 = .ok (.iload 6, 2) := by decide +kernel
theorem dX8_missing_209 : decode cX8_missing 209 = .ok (.istore 6, 2) := by decide +kernel
theorem dX8_missing_211 : decode cX8_missing 211 = .ok (.iload_n 2, 1) := by decide +kernel
theorem dX8_missing_212 : decode cX8_missing 212 = .ok (.ifCond .ne 27, 3) := by decide +kernel
theorem dX8_missing_215 : decode cX8_missing 215 = .ok (.aload_n 0, 1) := by decide +kernel
theorem dX8_missing_216 : decode cX8_missing 216 = .ok (.getfield 13, 3) := by decide +kernel
theorem dX8_missing_219 : decode cX8_missing 219 = .ok (.iload_n 3, 1) := by decide +kernel
theorem dX8_missing_220 : decode cX8_missing 220 = .ok (.iconst 5, 1) := by decide +kernel
theorem dX8_missing_221 : decode cX8_missing 221 = .ok (.iadd, 1) := by decide +kernel
theorem dX8_missing_222 : decode cX8_missing 222 = .ok (.iaload, 1) := by decide +kernel
theorem dX8_missing_223 : decode cX8_missing 223 = .ok (.aload_n 0, 1) := by decide +kernel
theorem dX8_missing_224 : decode cX8_missing 224 = .ok (.getfield 13, 3) := by decide +kernel
theorem dX8_missing_227 : decode cX8_missing 227 = .ok (.iload_n 3, 1) := by decide +kernel
theorem dX8_missing_228 : decode cX8_missing 228 = .ok (.bipush 13, 2) := by decide +kernel
theorem dX8_missing_230 : decode cX8_missing 230 = .ok (.iadd, 1) := by decide +kernel
theorem dX8_missing_231 : decode cX8_missing 231 = .ok (.iaload, 1) := by decide +kernel
theorem dX8_missing_232 : decode cX8_missing 232 = .ok (.isub, 1) := by decide +kernel
theorem dX8_missing_233 : decode cX8_missing 233 = .ok (.iload 4, 2) := by decide +kernel
theorem dX8_missing_235 : decode cX8_missing 235 = .ok (.isub, 1) := by decide +kernel
theorem dX8_missing_236 : decode cX8_missing 236 = .ok (.goto 5, 3) := by decide +kernel
theorem dX8_missing_239 : decode cX8_missing 239 = .ok (.iload 6, 2) := by decide +kernel
theorem dX8_missing_241 : decode cX8_missing 241 = .ok (.ireturn, 1) := by decide +kernel
theorem dX8_find_0 : decode cX8_find 0 = .ok (.aload_n 0, 1) := by decide +kernel
theorem dX8_find_1 : decode cX8_find 1 = .ok (.iconst 0, 1) := by decide +kernel
theorem dX8_find_2 : decode cX8_find 2 = .ok (.putfield 61, 3) := by decide +kernel
theorem dX8_find_5 : decode cX8_find 5 = .ok (.aload_n 0, 1) := by decide +kernel
theorem dX8_find_6 : decode cX8_find 6 = .ok (.iload_n 1, 1) := by decide +kernel
theorem dX8_find_7 : decode cX8_find 7 = .ok (.iload_n 2, 1) := by decide +kernel
theorem dX8_find_8 : decode cX8_find 8 = .ok (.iload_n 3, 1) := by decide +kernel
theorem dX8_find_9 : decode cX8_find 9 = .ok (.iload 4, 2) := by decide +kernel
theorem dX8_find_11 : decode cX8_find 11 = .ok (.iload 5, 2) := by decide +kernel
theorem dX8_find_13 : decode cX8_find 13 = .ok (.invokevirtual 141, 3) := by decide +kernel
theorem dX8_find_16 : decode cX8_find 16 = .ok (.ifCond .eq 10, 3) := by decide +kernel
theorem dX8_find_19 : decode cX8_find 19 = .ok (.aload_n 0, 1) := by decide +kernel
theorem dX8_find_20 : decode cX8_find 20 = .ok (.invokevirtual 145, 3) := by decide +kernel
theorem dX8_find_23 : decode cX8_find 23 = .ok (.goto 4, 3) := by decide +kernel
theorem dX8_find_26 : decode cX8_find 26 = .ok (.iconst (-1), 1) := by decide +kernel
theorem dX8_find_27 : decode cX8_find 27 = .ok (.ireturn, 1) := by decide +kernel
theorem dX8_entry_0 : decode cX8_entry 0 = .ok (.aload_n 0, 1) := by decide +kernel
theorem dX8_entry_1 : decode cX8_entry 1 = .ok (.iconst 0, 1) := by decide +kernel
theorem dX8_entry_2 : decode cX8_entry 2 = .ok (.putfield 61, 3) := by decide +kernel
theorem dX8_entry_5 : decode cX8_entry 5 = .ok (.iload_n 1, 1) := by decide +kernel
theorem dX8_entry_6 : decode cX8_entry 6 = .ok (.i2l, 1) := by decide +kernel
theorem dX8_entry_7 : decode cX8_entry 7 = .ok (.lconst 0, 1) := by decide +kernel
theorem dX8_entry_8 : decode cX8_entry 8 = .ok (.ldc2_w 148, 3) := by decide +kernel
theorem dX8_entry_11 : decode cX8_entry 11 = .ok (.invokestatic 84, 3) := by decide +kernel
theorem dX8_entry_14 : decode cX8_entry 14 = .ok (.ifCond .eq 15, 3) := by decide +kernel
theorem dX8_entry_17 : decode cX8_entry 17 = .ok (.iload_n 2, 1) := by decide +kernel
theorem dX8_entry_18 : decode cX8_entry 18 = .ok (.i2l, 1) := by decide +kernel
theorem dX8_entry_19 : decode cX8_entry 19 = .ok (.lconst 0, 1) := by decide +kernel
theorem dX8_entry_20 : decode cX8_entry 20 = .ok (.ldc2_w 245, 3) := by decide +kernel
theorem dX8_entry_23 : decode cX8_entry 23 = .ok (.invokestatic 84, 3) := by decide +kernel
theorem dX8_entry_26 : decode cX8_entry 26 = .ok (.ifCond .ne 5, 3) := by decide +kernel
theorem dX8_entry_29 : decode cX8_entry 29 = .ok (.iconst (-1), 1) := by decide +kernel
theorem dX8_entry_30 : decode cX8_entry 30 = .ok (.ireturn, 1) := by decide +kernel
theorem dX8_entry_31 : decode cX8_entry 31 = .ok (.iconst 0, 1) := by decide +kernel
theorem dX8_entry_32 : decode cX8_entry 32 = .ok (.istore_n 3, 1) := by decide +kernel
theorem dX8_entry_33 : decode cX8_entry 33 = .ok (.iconst 0, 1) := by decide +kernel
theorem dX8_entry_34 : decode cX8_entry 34 = .ok (.istore 4, 2) := by decide +kernel
theorem dX8_entry_36 : decode cX8_entry 36 = .ok (.iload 4, 2) := by decide +kernel
theorem dX8_entry_38 : decode cX8_entry 38 = .ok (.aload_n 0, 1) := by decide +kernel
theorem dX8_entry_39 : decode cX8_entry 39 = .ok (.getfield 13, 3) := by decide +kernel
theorem dX8_entry_42 : decode cX8_entry 42 = .ok (.iconst 4, 1) := by decide +kernel
theorem dX8_entry_43 : decode cX8_entry 43 = .ok (.iaload, 1) := by decide +kernel
theorem dX8_entry_44 : decode cX8_entry 44 = .ok (.if_icmp .ge 30, 3) := by decide +kernel
theorem dX8_entry_47 : decode cX8_entry 47 = .ok (.iload_n 3, 1) := by decide +kernel
theorem dX8_entry_48 : decode cX8_entry 48 = .ok (.aload_n 0, 1) := by decide +kernel
theorem dX8_entry_49 : decode cX8_entry 49 = .ok (.iload 4, 2) := by decide +kernel
theorem dX8_entry_51 : decode cX8_entry 51 = .ok (.invokevirtual 122, 3) := by decide +kernel
theorem dX8_entry_54 : decode cX8_entry 54 = .ok (.iload_n 1, 1) := by decide +kernel
theorem dX8_entry_55 : decode cX8_entry 55 = .ok (.if_icmp .ne 10, 3) := by decide +kernel
theorem dX8_entry_58 : decode cX8_entry 58 = .ok (.iconst 1, 1) := by decide +kernel
theorem dX8_entry_59 : decode cX8_entry 59 = .ok (.iload 4, 2) := by decide +kernel
theorem dX8_entry_61 : decode cX8_entry 61 = .ok (.ishl, 1) := by decide +kernel
theorem dX8_entry_62 : decode cX8_entry 62 = .ok (.goto 4, 3) := by decide +kernel
theorem dX8_entry_65 : decode cX8_entry 65 = .ok (.iconst 0, 1) := by decide +kernel
theorem dX8_entry_66 : decode cX8_entry 66 = .ok (.ior, 1) := by decide +kernel
theorem dX8_entry_67 : decode cX8_entry 67 = .ok (.istore_n 3, 1) := by decide +kernel
theorem dX8_entry_68 : decode cX8_entry 68 = .ok (.iinc 4 1, 3) := by decide +kernel
theorem dX8_entry_71 : decode cX8_entry 71 = .ok (.goto (-35), 3) := by decide +kernel
theorem dX8_entry_74 : decode cX8_entry 74 = .ok (.iload_n 2, 1) := by decide +kernel
theorem dX8_entry_75 : decode cX8_entry 75 = .ok (.ifCond .ne 15, 3) := by decide +kernel
theorem dX8_entry_78 : decode cX8_entry 78 = .ok (.aload_n 0, 1) := by decide +kernel
theorem dX8_entry_79 : decode cX8_entry 79 = .ok (.getfield 13, 3) := by decide +kernel
theorem dX8_entry_82 : decode cX8_entry 82 = .ok (.bipush 23, 2) := by decide +kernel
theorem dX8_entry_84 : decode cX8_entry 84 = .ok (.iload_n 1, 1) := by decide +kernel
theorem dX8_entry_85 : decode cX8_entry 85 = .ok (.iadd, 1) := by decide +kernel
theorem dX8_entry_86 : decode cX8_entry 86 = .ok (.iaload, 1) := by decide +kernel
theorem dX8_entry_87 : decode cX8_entry 87 = .ok (.goto 21, 3) := by decide +kernel
theorem dX8_entry_90 : decode cX8_entry 90 = .ok (.iload_n 2, 1) := by decide +kernel
theorem dX8_entry_91 : decode cX8_entry 91 = .ok (.iconst 1, 1) := by decide +kernel
theorem dX8_entry_92 : decode cX8_entry 92 = .ok (.if_icmp .ne 15, 3) := by decide +kernel
theorem dX8_entry_95 : decode cX8_entry 95 = .ok (.aload_n 0, 1) := by decide +kernel
theorem dX8_entry_96 : decode cX8_entry 96 = .ok (.getfield 13, 3) := by decide +kernel
theorem dX8_entry_99 : decode cX8_entry 99 = .ok (.bipush 39, 2) := by decide +kernel
theorem dX8_entry_101 : decode cX8_entry 101 = .ok (.iload_n 1, 1) := by decide +kernel
theorem dX8_entry_102 : decode cX8_entry 102 = .ok (.iadd, 1) := by decide +kernel
theorem dX8_entry_103 : decode cX8_entry 103 = .ok (.iaload, 1) := by decide +kernel
theorem dX8_entry_104 : decode cX8_entry 104 = .ok (.goto 4, 3) := by decide +kernel
theorem dX8_entry_107 : decode cX8_entry 107 = .ok (.iload_n 3, 1) := by decide +kernel
theorem dX8_entry_108 : decode cX8_entry 108 = .ok (.ireturn, 1) := by decide +kernel
theorem dX8_wishers_0 : decode cX8_wishers 0 = .ok (.iconst 0, 1) := by decide +kernel
theorem dX8_wishers_1 : decode cX8_wishers 1 = .ok (.istore_n 2, 1) := by decide +kernel
theorem dX8_wishers_2 : decode cX8_wishers 2 = .ok (.iconst 0, 1) := by decide +kernel
theorem dX8_wishers_3 : decode cX8_wishers 3 = .ok (.istore_n 3, 1) := by decide +kernel
theorem dX8_wishers_4 : decode cX8_wishers 4 = .ok (.iload_n 3, 1) := by decide +kernel
theorem dX8_wishers_5 : decode cX8_wishers 5 = .ok (.aload_n 0, 1) := by decide +kernel
theorem dX8_wishers_6 : decode cX8_wishers 6 = .ok (.getfield 13, 3) := by decide +kernel
theorem dX8_wishers_9 : decode cX8_wishers 9 = .ok (.iconst 4, 1) := by decide +kernel
theorem dX8_wishers_10 : decode cX8_wishers 10 = .ok (.iaload, 1) := by decide +kernel
theorem dX8_wishers_11 : decode cX8_wishers 11 = .ok (.if_icmp .ge 28, 3) := by decide +kernel
theorem dX8_wishers_14 : decode cX8_wishers 14 = .ok (.iload_n 2, 1) := by decide +kernel
theorem dX8_wishers_15 : decode cX8_wishers 15 = .ok (.aload_n 0, 1) := by decide +kernel
theorem dX8_wishers_16 : decode cX8_wishers 16 = .ok (.iload_n 3, 1) := by decide +kernel
theorem dX8_wishers_17 : decode cX8_wishers 17 = .ok (.invokevirtual 189, 3) := by decide +kernel
theorem dX8_wishers_20 : decode cX8_wishers 20 = .ok (.iload_n 1, 1) := by decide +kernel
theorem dX8_wishers_21 : decode cX8_wishers 21 = .ok (.if_icmp .ne 9, 3) := by decide +kernel
theorem dX8_wishers_24 : decode cX8_wishers 24 = .ok (.iconst 1, 1) := by decide +kernel
theorem dX8_wishers_25 : decode cX8_wishers 25 = .ok (.iload_n 3, 1) := by decide +kernel
theorem dX8_wishers_26 : decode cX8_wishers 26 = .ok (.ishl, 1) := by decide +kernel
theorem dX8_wishers_27 : decode cX8_wishers 27 = .ok (.goto 4, 3) := by decide +kernel
theorem dX8_wishers_30 : decode cX8_wishers 30 = .ok (.iconst 0, 1) := by decide +kernel
theorem dX8_wishers_31 : decode cX8_wishers 31 = .ok (.ior, 1) := by decide +kernel
theorem dX8_wishers_32 : decode cX8_wishers 32 = .ok (.istore_n 2, 1) := by decide +kernel
theorem dX8_wishers_33 : decode cX8_wishers 33 = .ok (.iinc 3 1, 3) := by decide +kernel
theorem dX8_wishers_36 : decode cX8_wishers 36 = .ok (.goto (-32), 3) := by decide +kernel
theorem dX8_wishers_39 : decode cX8_wishers 39 = .ok (.iload_n 2, 1) := by decide +kernel
theorem dX8_wishers_40 : decode cX8_wishers 40 = .ok (.ireturn, 1) := by decide +kernel
theorem dX8_entriesOf_0 : decode cX8_entriesOf 0 = .ok (.iconst 0, 1) := by decide +kernel
theorem dX8_entriesOf_1 : decode cX8_entriesOf 1 = .ok (.istore_n 2, 1) := by decide +kernel
theorem dX8_entriesOf_2 : decode cX8_entriesOf 2 = .ok (.iconst 0, 1) := by decide +kernel
theorem dX8_entriesOf_3 : decode cX8_entriesOf 3 = .ok (.istore_n 3, 1) := by decide +kernel
theorem dX8_entriesOf_4 : decode cX8_entriesOf 4 = .ok (.iload_n 3, 1) := by decide +kernel
theorem dX8_entriesOf_5 : decode cX8_entriesOf 5 = .ok (.bipush 16, 2) := by decide +kernel
theorem dX8_entriesOf_7 : decode cX8_entriesOf 7 = .ok (.if_icmp .ge 32, 3) := by decide +kernel
theorem dX8_entriesOf_10 : decode cX8_entriesOf 10 = .ok (.iload_n 2, 1) := by decide +kernel
theorem dX8_entriesOf_11 : decode cX8_entriesOf 11 = .ok (.aload_n 0, 1) := by decide +kernel
theorem dX8_entriesOf_12 : decode cX8_entriesOf 12 = .ok (.getfield 13, 3) := by decide +kernel
theorem dX8_entriesOf_15 : decode cX8_entriesOf 15 = .ok (.bipush 23, 2) := by decide +kernel
theorem dX8_entriesOf_17 : decode cX8_entriesOf 17 = .ok (.iload_n 3, 1) := by decide +kernel
theorem dX8_entriesOf_18 : decode cX8_entriesOf 18 = .ok (.iadd, 1) := by decide +kernel
theorem dX8_entriesOf_19 : decode cX8_entriesOf 19 = .ok (.iaload, 1) := by decide +kernel
theorem dX8_entriesOf_20 : decode cX8_entriesOf 20 = .ok (.iload_n 1, 1) := by decide +kernel
theorem dX8_entriesOf_21 : decode cX8_entriesOf 21 = .ok (.if_icmp .ne 9, 3) := by decide +kernel
theorem dX8_entriesOf_24 : decode cX8_entriesOf 24 = .ok (.iconst 1, 1) := by decide +kernel
theorem dX8_entriesOf_25 : decode cX8_entriesOf 25 = .ok (.iload_n 3, 1) := by decide +kernel
theorem dX8_entriesOf_26 : decode cX8_entriesOf 26 = .ok (.ishl, 1) := by decide +kernel
theorem dX8_entriesOf_27 : decode cX8_entriesOf 27 = .ok (.goto 4, 3) := by decide +kernel
theorem dX8_entriesOf_30 : decode cX8_entriesOf 30 = .ok (.iconst 0, 1) := by decide +kernel
theorem dX8_entriesOf_31 : decode cX8_entriesOf 31 = .ok (.ior, 1) := by decide +kernel
theorem dX8_entriesOf_32 : decode cX8_entriesOf 32 = .ok (.istore_n 2, 1) := by decide +kernel
theorem dX8_entriesOf_33 : decode cX8_entriesOf 33 = .ok (.iinc 3 1, 3) := by decide +kernel
theorem dX8_entriesOf_36 : decode cX8_entriesOf 36 = .ok (.goto (-32), 3) := by decide +kernel
theorem dX8_entriesOf_39 : decode cX8_entriesOf 39 = .ok (.iload_n 2, 1) := by decide +kernel
theorem dX8_entriesOf_40 : decode cX8_entriesOf 40 = .ok (.ireturn, 1) := by decide +kernel
theorem dX8_queue_0 : decode cX8_queue 0 = .ok (.aload_n 0, 1) := by decide +kernel
theorem dX8_queue_1 : decode cX8_queue 1 = .ok (.iconst 0, 1) := by decide +kernel
theorem dX8_queue_2 : decode cX8_queue 2 = .ok (.putfield 61, 3) := by decide +kernel
theorem dX8_queue_5 : decode cX8_queue 5 = .ok (.iload_n 1, 1) := by decide +kernel
theorem dX8_queue_6 : decode cX8_queue 6 = .ok (.invokestatic 150, 3) := by decide +kernel
theorem dX8_queue_9 : decode cX8_queue 9 = .ok (.ifCond .ne 5, 3) := by decide +kernel
theorem dX8_queue_12 : decode cX8_queue 12 = .ok (.iconst (-1), 1) := by decide +kernel
theorem dX8_queue_13 : decode cX8_queue 13 = .ok (.ireturn, 1) := by decide +kernel
theorem dX8_queue_14 : decode cX8_queue 14 = .ok (.iload_n 1, 1) := by decide +kernel
theorem dX8_queue_15 : decode cX8_queue 15 = .ok (.invokestatic 57, 3) := by decide +kernel
theorem dX8_queue_18 : decode cX8_queue 18 = .ok (.istore_n 3, 1) := by decide +kernel
theorem dX8_queue_19 : decode cX8_queue 19 = .ok (.iload_n 2, 1) := by decide +kernel
theorem dX8_queue_20 : decode cX8_queue 20 = .ok (.tableswitch 64 6 9 #[32, 38, 48, 58], 32) := by decide +kernel
theorem dX8_queue_52 : decode cX8_queue 52 = .ok (.aload_n 0, 1) := by decide +kernel
theorem dX8_queue_53 : decode cX8_queue 53 = .ok (.iload_n 1, 1) := by decide +kernel
theorem dX8_queue_54 : decode cX8_queue 54 = .ok (.invokevirtual 247, 3) := by decide +kernel
theorem dX8_queue_57 : decode cX8_queue 57 = .ok (.ireturn, 1) := by decide +kernel
theorem dX8_queue_58 : decode cX8_queue 58 = .ok (.aload_n 0, 1) := by decide +kernel
theorem dX8_queue_59 : decode cX8_queue 59 = .ok (.getfield 13, 3) := by decide +kernel
theorem dX8_queue_62 : decode cX8_queue 62 = .ok (.iload_n 3, 1) := by decide +kernel
theorem dX8_queue_63 : decode cX8_queue 63 = .ok (.bipush 6, 2) := by decide +kernel
theorem dX8_queue_65 : decode cX8_queue 65 = .ok (.iadd, 1) := by decide +kernel
theorem dX8_queue_66 : decode cX8_queue 66 = .ok (.iaload, 1) := by decide +kernel
theorem dX8_queue_67 : decode cX8_queue 67 = .ok (.ireturn, 1) := by decide +kernel
theorem dX8_queue_68 : decode cX8_queue 68 = .ok (.aload_n 0, 1) := by decide +kernel
theorem dX8_queue_69 : decode cX8_queue 69 = .ok (.getfield 13, 3) := by decide +kernel
theorem dX8_queue_72 : decode cX8_queue 72 = .ok (.iload_n 3, 1) := by decide +kernel
theorem dX8_queue_73 : decode cX8_queue 73 = .ok (.bipush 7, 2) := by decide +kernel
theorem dX8_queue_75 : decode cX8_queue 75 = .ok (.iadd, 1) := by decide +kernel
theorem dX8_queue_76 : decode cX8_queue 76 = .ok (.iaload, 1) := by decide +kernel
theorem dX8_queue_77 : decode cX8_queue 77 = .ok (.ireturn, 1) := by decide +kernel
theorem dX8_queue_78 : decode cX8_queue 78 = .ok (.aload_n 0, 1) := by decide +kernel
theorem dX8_queue_79 : decode cX8_queue 79 = .ok (.iload_n 1, 1) := by decide +kernel
theorem dX8_queue_80 : decode cX8_queue 80 = .ok (.invokevirtual 250, 3) := by decide +kernel
theorem dX8_queue_83 : decode cX8_queue 83 = .ok (.ireturn, 1) := by decide +kernel
theorem dX8_queue_84 : decode cX8_queue 84 = .ok (.iload_n 2, 1) := by decide +kernel
theorem dX8_queue_85 : decode cX8_queue 85 = .ok (.i2l, 1) := by decide +kernel
theorem dX8_queue_86 : decode cX8_queue 86 = .ok (.lconst 0, 1) := by decide +kernel
theorem dX8_queue_87 : decode cX8_queue 87 = .ok (.ldc2_w 253, 3) := by decide +kernel
theorem dX8_queue_90 : decode cX8_queue 90 = .ok (.invokestatic 84, 3) := by decide +kernel
theorem dX8_queue_93 : decode cX8_queue 93 = .ok (.ifCond .eq 14, 3) := by decide +kernel
theorem dX8_queue_96 : decode cX8_queue 96 = .ok (.aload_n 0, 1) := by decide +kernel
theorem dX8_queue_97 : decode cX8_queue 97 = .ok (.getfield 13, 3) := by decide +kernel
theorem dX8_queue_100 : decode cX8_queue 100 = .ok (.iload_n 3, 1) := by decide +kernel
theorem dX8_queue_101 : decode cX8_queue 101 = .ok (.iload_n 2, 1) := by decide +kernel
theorem dX8_queue_102 : decode cX8_queue 102 = .ok (.iadd, 1) := by decide +kernel
theorem dX8_queue_103 : decode cX8_queue 103 = .ok (.iaload, 1) := by decide +kernel
theorem dX8_queue_104 : decode cX8_queue 104 = .ok (.goto 4, 3) := by decide +kernel
theorem dX8_queue_107 : decode cX8_queue 107 = .ok (.iconst (-1), 1) := by decide +kernel
theorem dX8_queue_108 : decode cX8_queue 108 = .ok (.ireturn, 1) := by decide +kernel
theorem dX8_waits_0 : decode cX8_waits 0 = .ok (.aload_n 0, 1) := by decide +kernel
theorem dX8_waits_1 : decode cX8_waits 1 = .ok (.iconst 0, 1) := by decide +kernel
theorem dX8_waits_2 : decode cX8_waits 2 = .ok (.putfield 61, 3) := by decide +kernel
theorem dX8_waits_5 : decode cX8_waits 5 = .ok (.iload_n 1, 1) := by decide +kernel
theorem dX8_waits_6 : decode cX8_waits 6 = .ok (.invokestatic 150, 3) := by decide +kernel
theorem dX8_waits_9 : decode cX8_waits 9 = .ok (.ifCond .eq 51, 3) := by decide +kernel
theorem dX8_waits_12 : decode cX8_waits 12 = .ok (.iload_n 2, 1) := by decide +kernel
theorem dX8_waits_13 : decode cX8_waits 13 = .ok (.i2l, 1) := by decide +kernel
theorem dX8_waits_14 : decode cX8_waits 14 = .ok (.lconst 0, 1) := by decide +kernel
theorem dX8_waits_15 : decode cX8_waits 15 = .ok (.aload_n 0, 1) := by decide +kernel
theorem dX8_waits_16 : decode cX8_waits 16 = .ok (.getfield 13, 3) := by decide +kernel
theorem dX8_waits_19 : decode cX8_waits 19 = .ok (.iload_n 1, 1) := by decide +kernel
theorem dX8_waits_20 : decode cX8_waits 20 = .ok (.invokestatic 57, 3) := by decide +kernel
theorem dX8_waits_23 : decode cX8_waits 23 = .ok (.iaload, 1) := by decide +kernel
theorem dX8_waits_24 : decode cX8_waits 24 = .ok (.i2l, 1) := by decide +kernel
theorem dX8_waits_25 : decode cX8_waits 25 = .ok (.lconst 1, 1) := by decide +kernel
theorem dX8_waits_26 : decode cX8_waits 26 = .ok (.lsub, 1) := by decide +kernel
theorem dX8_waits_27 : decode cX8_waits 27 = .ok (.invokestatic 84, 3) := by decide +kernel
theorem dX8_waits_30 : decode cX8_waits 30 = .ok (.ifCond .eq 30, 3) := by decide +kernel
theorem dX8_waits_33 : decode cX8_waits 33 = .ok (.iload_n 3, 1) := by decide +kernel
theorem dX8_waits_34 : decode cX8_waits 34 = .ok (.i2l, 1) := by decide +kernel
theorem dX8_waits_35 : decode cX8_waits 35 = .ok (.lconst 0, 1) := by decide +kernel
theorem dX8_waits_36 : decode cX8_waits 36 = .ok (.ldc2_w 88, 3) := by decide +kernel
theorem dX8_waits_39 : decode cX8_waits 39 = .ok (.invokestatic 84, 3) := by decide +kernel
theorem dX8_waits_42 : decode cX8_waits 42 = .ok (.ifCond .eq 18, 3) := by decide +kernel
theorem dX8_waits_45 : decode cX8_waits 45 = .ok (.aload_n 0, 1) := by decide +kernel
theorem dX8_waits_46 : decode cX8_waits 46 = .ok (.getfield 13, 3) := by decide +kernel
theorem dX8_waits_49 : decode cX8_waits 49 = .ok (.iload_n 1, 1) := by decide +kernel
theorem dX8_waits_50 : decode cX8_waits 50 = .ok (.iload_n 2, 1) := by decide +kernel
theorem dX8_waits_51 : decode cX8_waits 51 = .ok (.invokestatic 125, 3) := by decide +kernel
theorem dX8_waits_54 : decode cX8_waits 54 = .ok (.iload_n 3, 1) := by decide +kernel
theorem dX8_waits_55 : decode cX8_waits 55 = .ok (.iadd, 1) := by decide +kernel
theorem dX8_waits_56 : decode cX8_waits 56 = .ok (.iaload, 1) := by decide +kernel
theorem dX8_waits_57 : decode cX8_waits 57 = .ok (.goto 4, 3) := by decide +kernel
theorem dX8_waits_60 : decode cX8_waits 60 = .ok (.iconst (-1), 1) := by decide +kernel
theorem dX8_waits_61 : decode cX8_waits 61 = .ok (.ireturn, 1) := by decide +kernel
theorem dX8_segment_0 : decode cX8_segment 0 = .ok (.aload_n 0, 1) := by decide +kernel
theorem dX8_segment_1 : decode cX8_segment 1 = .ok (.iconst 0, 1) := by decide +kernel
theorem dX8_segment_2 : decode cX8_segment 2 = .ok (.putfield 61, 3) := by decide +kernel
theorem dX8_segment_5 : decode cX8_segment 5 = .ok (.iload_n 1, 1) := by decide +kernel
theorem dX8_segment_6 : decode cX8_segment 6 = .ok (.i2l, 1) := by decide +kernel
theorem dX8_segment_7 : decode cX8_segment 7 = .ok (.lconst 0, 1) := by decide +kernel
theorem dX8_segment_8 : decode cX8_segment 8 = .ok (.aload_n 0, 1) := by decide +kernel
theorem dX8_segment_9 : decode cX8_segment 9 = .ok (.getfield 13, 3) := by decide +kernel
theorem dX8_segment_12 : decode cX8_segment 12 = .ok (.bipush 13, 2) := by decide +kernel
theorem dX8_segment_14 : decode cX8_segment 14 = .ok (.iaload, 1) := by decide +kernel
theorem dX8_segment_15 : decode cX8_segment 15 = .ok (.i2l, 1) := by decide +kernel
theorem dX8_segment_16 : decode cX8_segment 16 = .ok (.lconst 1, 1) := by decide +kernel
theorem dX8_segment_17 : decode cX8_segment 17 = .ok (.lsub, 1) := by decide +kernel
theorem dX8_segment_18 : decode cX8_segment 18 = .ok (.invokestatic 84, 3) := by decide +kernel
theorem dX8_segment_21 : decode cX8_segment 21 = .ok (.ifCond .eq 43, 3) := by decide +kernel
theorem dX8_segment_24 : decode cX8_segment 24 = .ok (.iload_n 2, 1) := by decide +kernel
theorem dX8_segment_25 : decode cX8_segment 25 = .ok (.i2l, 1) := by decide +kernel
theorem dX8_segment_26 : decode cX8_segment 26 = .ok (.lconst 0, 1) := by decide +kernel
theorem dX8_segment_27 : decode cX8_segment 27 = .ok (.ldc2_w 253, 3) := by decide +kernel
theorem dX8_segment_30 : decode cX8_segment 30 = .ok (.invokestatic 84, 3) := by decide +kernel
theorem dX8_segment_33 : decode cX8_segment 33 = .ok (.ifCond .eq 31, 3) := by decide +kernel
theorem dX8_segment_36 : decode cX8_segment 36 = .ok (.aload_n 0, 1) := by decide +kernel
theorem dX8_segment_37 : decode cX8_segment 37 = .ok (.getfield 13, 3) := by decide +kernel
theorem dX8_segment_40 : decode cX8_segment 40 = .ok (.sipush 993, 3) := by decide +kernel
theorem dX8_segment_43 : decode cX8_segment 43 = .ok (.bipush 6, 2) := by decide +kernel
theorem dX8_segment_45 : decode cX8_segment 45 = .ok (.aload_n 0, 1) := by decide +kernel
theorem dX8_segment_46 : decode cX8_segment 46 = .ok (.getfield 13, 3) := by decide +kernel
theorem dX8_segment_49 : decode cX8_segment 49 = .ok (.bipush 13, 2) := by decide +kernel
theorem dX8_segment_51 : decode cX8_segment 51 = .ok (.iaload, 1) := by decide +kernel
theorem dX8_segment_52 : decode cX8_segment 52 = .ok (.iconst 1, 1) := by decide +kernel
theorem dX8_segment_53 : decode cX8_segment 53 = .ok (.isub, 1) := by decide +kernel
theorem dX8_segment_54 : decode cX8_segment 54 = .ok (.iload_n 1, 1) := by decide +kernel
theorem dX8_segment_55 : decode cX8_segment 55 = .ok (.isub, 1) := by decide +kernel
theorem dX8_segment_56 : decode cX8_segment 56 = .ok (.imul, 1) := by decide +kernel
theorem dX8_segment_57 : decode cX8_segment 57 = .ok (.iadd, 1) := by decide +kernel
theorem dX8_segment_58 : decode cX8_segment 58 = .ok (.iload_n 2, 1) := by decide +kernel
theorem dX8_segment_59 : decode cX8_segment 59 = .ok (.iadd, 1) := by decide +kernel
theorem dX8_segment_60 : decode cX8_segment 60 = .ok (.iaload, 1) := by decide +kernel
theorem dX8_segment_61 : decode cX8_segment 61 = .ok (.goto 4, 3) := by decide +kernel
theorem dX8_segment_64 : decode cX8_segment 64 = .ok (.iconst (-1), 1) := by decide +kernel
theorem dX8_segment_65 : decode cX8_segment 65 = .ok (.ireturn, 1) := by decide +kernel
theorem dX8_given_0 : decode cX8_given 0 = .ok (.aload_n 0, 1) := by decide +kernel
theorem dX8_given_1 : decode cX8_given 1 = .ok (.iconst 0, 1) := by decide +kernel
theorem dX8_given_2 : decode cX8_given 2 = .ok (.putfield 61, 3) := by decide +kernel
theorem dX8_given_5 : decode cX8_given 5 = .ok (.iload_n 1, 1) := by decide +kernel
theorem dX8_given_6 : decode cX8_given 6 = .ok (.i2l, 1) := by decide +kernel
theorem dX8_given_7 : decode cX8_given 7 = .ok (.lconst 0, 1) := by decide +kernel
theorem dX8_given_8 : decode cX8_given 8 = .ok (.ldc2_w 255, 3) := by decide +kernel
theorem dX8_given_11 : decode cX8_given 11 = .ok (.invokestatic 84, 3) := by decide +kernel
theorem dX8_given_14 : decode cX8_given 14 = .ok (.ifCond .eq 12, 3) := by decide +kernel
theorem dX8_given_17 : decode cX8_given 17 = .ok (.aload_n 0, 1) := by decide +kernel
theorem dX8_given_18 : decode cX8_given 18 = .ok (.getfield 16, 3) := by decide +kernel
theorem dX8_given_21 : decode cX8_given 21 = .ok (.iload_n 1, 1) := by decide +kernel
theorem dX8_given_22 : decode cX8_given 22 = .ok (.laload, 1) := by decide +kernel
theorem dX8_given_23 : decode cX8_given 23 = .ok (.goto 6, 3) := by decide +kernel
theorem dX8_given_26 : decode cX8_given 26 = .ok (.ldc2_w 162, 3) := by decide +kernel
theorem dX8_given_29 : decode cX8_given 29 = .ok (.lreturn, 1) := by decide +kernel
theorem dX8_window_0 : decode cX8_window 0 = .ok (.aload_n 0, 1) := by decide +kernel
theorem dX8_window_1 : decode cX8_window 1 = .ok (.iconst 0, 1) := by decide +kernel
theorem dX8_window_2 : decode cX8_window 2 = .ok (.putfield 61, 3) := by decide +kernel
theorem dX8_window_5 : decode cX8_window 5 = .ok (.iload_n 1, 1) := by decide +kernel
theorem dX8_window_6 : decode cX8_window 6 = .ok (.i2l, 1) := by decide +kernel
theorem dX8_window_7 : decode cX8_window 7 = .ok (.lconst 0, 1) := by decide +kernel
theorem dX8_window_8 : decode cX8_window 8 = .ok (.ldc2_w 257, 3) := by decide +kernel
theorem dX8_window_11 : decode cX8_window 11 = .ok (.invokestatic 84, 3) := by decide +kernel
theorem dX8_window_14 : decode cX8_window 14 = .ok (.ifCond .eq 11, 3) := by decide +kernel
theorem dX8_window_17 : decode cX8_window 17 = .ok (.aload_n 0, 1) := by decide +kernel
theorem dX8_window_18 : decode cX8_window 18 = .ok (.iload_n 1, 1) := by decide +kernel
theorem dX8_window_19 : decode cX8_window 19 = .ok (.invokevirtual 93, 3) := by decide +kernel
theorem dX8_window_22 : decode cX8_window 22 = .ok (.goto 4, 3) := by decide +kernel
theorem dX8_window_25 : decode cX8_window 25 = .ok (.iconst 0, 1) := by decide +kernel
theorem dX8_window_26 : decode cX8_window 26 = .ok (.ireturn, 1) := by decide +kernel
theorem dX8_part_0 : decode cX8_part 0 = .ok (.aload_n 0, 1) := by decide +kernel
theorem dX8_part_1 : decode cX8_part 1 = .ok (.getfield 13, 3) := by decide +kernel
theorem dX8_part_4 : decode cX8_part 4 = .ok (.iconst 3, 1) := by decide +kernel
theorem dX8_part_5 : decode cX8_part 5 = .ok (.iaload, 1) := by decide +kernel
theorem dX8_part_6 : decode cX8_part 6 = .ok (.iload_n 1, 1) := by decide +kernel
theorem dX8_part_7 : decode cX8_part 7 = .ok (.bipush 8, 2) := by decide +kernel
theorem dX8_part_9 : decode cX8_part 9 = .ok (.idiv, 1) := by decide +kernel
theorem dX8_part_10 : decode cX8_part 10 = .ok (.ishr, 1) := by decide +kernel
theorem dX8_part_11 : decode cX8_part 11 = .ok (.iconst 1, 1) := by decide +kernel
theorem dX8_part_12 : decode cX8_part 12 = .ok (.iand, 1) := by decide +kernel
theorem dX8_part_13 : decode cX8_part 13 = .ok (.iconst 1, 1) := by decide +kernel
theorem dX8_part_14 : decode cX8_part 14 = .ok (.if_icmp .ne 11, 3) := by decide +kernel
theorem dX8_part_17 : decode cX8_part 17 = .ok (.aload_n 0, 1) := by decide +kernel
theorem dX8_part_18 : decode cX8_part 18 = .ok (.iload_n 1, 1) := by decide +kernel
theorem dX8_part_19 : decode cX8_part 19 = .ok (.invokevirtual 93, 3) := by decide +kernel
theorem dX8_part_22 : decode cX8_part 22 = .ok (.goto 4, 3) := by decide +kernel
theorem dX8_part_25 : decode cX8_part 25 = .ok (.iconst 0, 1) := by decide +kernel
theorem dX8_part_26 : decode cX8_part 26 = .ok (.ireturn, 1) := by decide +kernel
theorem dX8_isBothWays_0 : decode cX8_isBothWays 0 = .ok (.aload_n 0, 1) := by decide +kernel
theorem dX8_isBothWays_1 : decode cX8_isBothWays 1 = .ok (.iconst 0, 1) := by decide +kernel
theorem dX8_isBothWays_2 : decode cX8_isBothWays 2 = .ok (.putfield 61, 3) := by decide +kernel
theorem dX8_isBothWays_5 : decode cX8_isBothWays 5 = .ok (.iconst 1, 1) := by decide +kernel
theorem dX8_isBothWays_6 : decode cX8_isBothWays 6 = .ok (.istore_n 1, 1) := by decide +kernel
theorem dX8_isBothWays_7 : decode cX8_isBothWays 7 = .ok (.iconst 0, 1) := by decide +kernel
theorem dX8_isBothWays_8 : decode cX8_isBothWays 8 = .ok (.istore_n 2, 1) := by decide +kernel
theorem dX8_isBothWays_9 : decode cX8_isBothWays 9 = .ok (.iload_n 2, 1) := by decide +kernel
theorem dX8_isBothWays_10 : decode cX8_isBothWays 10 = .ok (.bipush 8, 2) := by decide +kernel
theorem dX8_isBothWays_12 : decode cX8_isBothWays 12 = .ok (.if_icmp .ge 54, 3) := by decide +kernel
theorem dX8_isBothWays_15 : decode cX8_isBothWays 15 = .ok (.iload_n 1, 1) := by decide +kernel
theorem dX8_isBothWays_16 : decode cX8_isBothWays 16 = .ok (.ifCond .eq 42, 3) := by decide +kernel
theorem dX8_isBothWays_19 : decode cX8_isBothWays 19 = .ok (.aload_n 0, 1) := by decide +kernel
theorem dX8_isBothWays_20 : decode cX8_isBothWays 20 = .ok (.iload_n 2, 1) := by decide +kernel
theorem dX8_isBothWays_21 : decode cX8_isBothWays 21 = .ok (.invokevirtual 259, 3) := by decide +kernel
theorem dX8_isBothWays_24 : decode cX8_isBothWays 24 = .ok (.aload_n 0, 1) := by decide +kernel
theorem dX8_isBothWays_25 : decode cX8_isBothWays 25 = .ok (.bipush 8, 2) := by decide +kernel
theorem dX8_isBothWays_27 : decode cX8_isBothWays 27 = .ok (.iload_n 2, 1) := by decide +kernel
theorem dX8_isBothWays_28 : decode cX8_isBothWays 28 = .ok (.iadd, 1) := by decide +kernel
theorem dX8_isBothWays_29 : decode cX8_isBothWays 29 = .ok (.invokevirtual 259, 3) := by decide +kernel
theorem dX8_isBothWays_32 : decode cX8_isBothWays 32 = .ok (.if_icmp .ne 26, 3) := by decide +kernel
theorem dX8_isBothWays_35 : decode cX8_isBothWays 35 = .ok (.aload_n 0, 1) := by decide +kernel
theorem dX8_isBothWays_36 : decode cX8_isBothWays 36 = .ok (.bipush 16, 2) := by decide +kernel
theorem dX8_isBothWays_38 : decode cX8_isBothWays 38 = .ok (.iload_n 2, 1) := by decide +kernel
theorem dX8_isBothWays_39 : decode cX8_isBothWays 39 = .ok (.iadd, 1) := by decide +kernel
theorem dX8_isBothWays_40 : decode cX8_isBothWays 40 = .ok (.invokevirtual 259, 3) := by decide +kernel
theorem dX8_isBothWays_43 : decode cX8_isBothWays 43 = .ok (.aload_n 0, 1) := by decide +kernel
theorem dX8_isBothWays_44 : decode cX8_isBothWays 44 = .ok (.bipush 24, 2) := by decide +kernel
theorem dX8_isBothWays_46 : decode cX8_isBothWays 46 = .ok (.iload_n 2, 1) := by decide +kernel
theorem dX8_isBothWays_47 : decode cX8_isBothWays 47 = .ok (.iadd, 1) := by decide +kernel
theorem dX8_isBothWays_48 : decode cX8_isBothWays 48 = .ok (.invokevirtual 259, 3) := by decide +kernel
theorem dX8_isBothWays_51 : decode cX8_isBothWays 51 = .ok (.if_icmp .ne 7, 3) := by decide +kernel
theorem dX8_isBothWays_54 : decode cX8_isBothWays 54 = .ok (.iconst 1, 1) := by decide +kernel
theorem dX8_isBothWays_55 : decode cX8_isBothWays 55 = .ok (.goto 4, 3) := by decide +kernel
theorem dX8_isBothWays_58 : decode cX8_isBothWays 58 = .ok (.iconst 0, 1) := by decide +kernel
theorem dX8_isBothWays_59 : decode cX8_isBothWays 59 = .ok (.istore_n 1, 1) := by decide +kernel
theorem dX8_isBothWays_60 : decode cX8_isBothWays 60 = .ok (.iinc 2 1, 3) := by decide +kernel
theorem dX8_isBothWays_63 : decode cX8_isBothWays 63 = .ok (.goto (-54), 3) := by decide +kernel
theorem dX8_isBothWays_66 : decode cX8_isBothWays 66 = .ok (.iload_n 1, 1) := by decide +kernel
theorem dX8_isBothWays_67 : decode cX8_isBothWays 67 = .ok (.ireturn, 1) := by decide +kernel
theorem dX8_reach_0 : decode cX8_reach 0 = .ok (.aload_n 0, 1) := by decide +kernel
theorem dX8_reach_1 : decode cX8_reach 1 = .ok (.iconst 0, 1) := by decide +kernel
theorem dX8_reach_2 : decode cX8_reach 2 = .ok (.putfield 61, 3) := by decide +kernel
theorem dX8_reach_5 : decode cX8_reach 5 = .ok (.iconst 1, 1) := by decide +kernel
theorem dX8_reach_6 : decode cX8_reach 6 = .ok (.istore_n 1, 1) := by decide +kernel
theorem dX8_reach_7 : decode cX8_reach 7 = .ok (.iconst 0, 1) := by decide +kernel
theorem dX8_reach_8 : decode cX8_reach 8 = .ok (.istore_n 2, 1) := by decide +kernel
theorem dX8_reach_9 : decode cX8_reach 9 = .ok (.iload_n 2, 1) := by decide +kernel
theorem dX8_reach_10 : decode cX8_reach 10 = .ok (.bipush 40, 2) := by decide +kernel
theorem dX8_reach_12 : decode cX8_reach 12 = .ok (.if_icmp .ge 83, 3) := by decide +kernel
theorem dX8_reach_15 : decode cX8_reach 15 = .ok (.aload_n 0, 1) := by decide +kernel
theorem dX8_reach_16 : decode cX8_reach 16 = .ok (.iload_n 2, 1) := by decide +kernel
theorem dX8_reach_17 : decode cX8_reach 17 = .ok (.invokevirtual 259, 3) := by decide +kernel
theorem dX8_reach_20 : decode cX8_reach 20 = .ok (.bipush 15, 2) := by decide +kernel
theorem dX8_reach_22 : decode cX8_reach 22 = .ok (.iand, 1) := by decide +kernel
theorem dX8_reach_23 : decode cX8_reach 23 = .ok (.istore_n 3, 1) := by decide +kernel
theorem dX8_reach_24 : decode cX8_reach 24 = .ok (.iconst 0, 1) := by decide +kernel
theorem dX8_reach_25 : decode cX8_reach 25 = .ok (.istore 4, 2) := by decide +kernel
theorem dX8_reach_27 : decode cX8_reach 27 = .ok (.iconst 0, 1) := by decide +kernel
theorem dX8_reach_28 : decode cX8_reach 28 = .ok (.istore 5, 2) := by decide +kernel
theorem dX8_reach_30 : decode cX8_reach 30 = .ok (.iload 5, 2) := by decide +kernel
theorem dX8_reach_32 : decode cX8_reach 32 = .ok (.bipush 16, 2) := by decide +kernel
theorem dX8_reach_34 : decode cX8_reach 34 = .ok (.if_icmp .ge 34, 3) := by decide +kernel
theorem dX8_reach_37 : decode cX8_reach 37 = .ok (.iload 4, 2) := by decide +kernel
theorem dX8_reach_39 : decode cX8_reach 39 = .ok (.iload_n 1, 1) := by decide +kernel
theorem dX8_reach_40 : decode cX8_reach 40 = .ok (.iload 5, 2) := by decide +kernel
theorem dX8_reach_42 : decode cX8_reach 42 = .ok (.ishr, 1) := by decide +kernel
theorem dX8_reach_43 : decode cX8_reach 43 = .ok (.iconst 1, 1) := by decide +kernel
theorem dX8_reach_44 : decode cX8_reach 44 = .ok (.iand, 1) := by decide +kernel
theorem dX8_reach_45 : decode cX8_reach 45 = .ok (.iconst 1, 1) := by decide +kernel
theorem dX8_reach_46 : decode cX8_reach 46 = .ok (.if_icmp .ne 12, 3) := by decide +kernel
theorem dX8_reach_49 : decode cX8_reach 49 = .ok (.iconst 1, 1) := by decide +kernel
theorem dX8_reach_50 : decode cX8_reach 50 = .ok (.iload 5, 2) := by decide +kernel
theorem dX8_reach_52 : decode cX8_reach 52 = .ok (.iload_n 3, 1) := by decide +kernel
theorem dX8_reach_53 : decode cX8_reach 53 = .ok (.ixor, 1) := by decide +kernel
theorem dX8_reach_54 : decode cX8_reach 54 = .ok (.ishl, 1) := by decide +kernel
theorem dX8_reach_55 : decode cX8_reach 55 = .ok (.goto 4, 3) := by decide +kernel
theorem dX8_reach_58 : decode cX8_reach 58 = .ok (.iconst 0, 1) := by decide +kernel
theorem dX8_reach_59 : decode cX8_reach 59 = .ok (.ior, 1) := by decide +kernel
theorem dX8_reach_60 : decode cX8_reach 60 = .ok (.istore 4, 2) := by decide +kernel
theorem dX8_reach_62 : decode cX8_reach 62 = .ok (.iinc 5 1, 3) := by decide +kernel
theorem dX8_reach_65 : decode cX8_reach 65 = .ok (.goto (-35), 3) := by decide +kernel
theorem dX8_reach_68 : decode cX8_reach 68 = .ok (.iload_n 1, 1) := by decide +kernel
theorem dX8_reach_69 : decode cX8_reach 69 = .ok (.iload_n 2, 1) := by decide +kernel
theorem dX8_reach_70 : decode cX8_reach 70 = .ok (.bipush 32, 2) := by decide +kernel
theorem dX8_reach_72 : decode cX8_reach 72 = .ok (.if_icmp .lt 9, 3) := by decide +kernel
theorem dX8_reach_75 : decode cX8_reach 75 = .ok (.iload_n 2, 1) := by decide +kernel
theorem dX8_reach_76 : decode cX8_reach 76 = .ok (.bipush 39, 2) := by decide +kernel
theorem dX8_reach_78 : decode cX8_reach 78 = .ok (.if_icmp .ne 8, 3) := by decide +kernel
theorem dX8_reach_81 : decode cX8_reach 81 = .ok (.iload 4, 2) := by decide +kernel
theorem dX8_reach_83 : decode cX8_reach 83 = .ok (.goto 4, 3) := by decide +kernel
theorem dX8_reach_86 : decode cX8_reach 86 = .ok (.iconst 0, 1) := by decide +kernel
theorem dX8_reach_87 : decode cX8_reach 87 = .ok (.ior, 1) := by decide +kernel
theorem dX8_reach_88 : decode cX8_reach 88 = .ok (.istore_n 1, 1) := by decide +kernel
theorem dX8_reach_89 : decode cX8_reach 89 = .ok (.iinc 2 1, 3) := by decide +kernel
theorem dX8_reach_92 : decode cX8_reach 92 = .ok (.goto (-83), 3) := by decide +kernel
theorem dX8_reach_95 : decode cX8_reach 95 = .ok (.iconst 0, 1) := by decide +kernel
theorem dX8_reach_96 : decode cX8_reach 96 = .ok (.istore_n 2, 1) := by decide +kernel
theorem dX8_reach_97 : decode cX8_reach 97 = .ok (.iconst 0, 1) := by decide +kernel
theorem dX8_reach_98 : decode cX8_reach 98 = .ok (.istore_n 3, 1) := by decide +kernel
theorem dX8_reach_99 : decode cX8_reach 99 = .ok (.iload_n 3, 1) := by decide +kernel
theorem dX8_reach_100 : decode cX8_reach 100 = .ok (.bipush 16, 2) := by decide +kernel
theorem dX8_reach_102 : decode cX8_reach 102 = .ok (.if_icmp .ge 17, 3) := by decide +kernel
theorem dX8_reach_105 : decode cX8_reach 105 = .ok (.iload_n 2, 1) := by decide +kernel
theorem dX8_reach_106 : decode cX8_reach 106 = .ok (.iload_n 1, 1) := by decide +kernel
theorem dX8_reach_107 : decode cX8_reach 107 = .ok (.iload_n 3, 1) := by decide +kernel
theorem dX8_reach_108 : decode cX8_reach 108 = .ok (.ishr, 1) := by decide +kernel
theorem dX8_reach_109 : decode cX8_reach 109 = .ok (.iconst 1, 1) := by decide +kernel
theorem dX8_reach_110 : decode cX8_reach 110 = .ok (.iand, 1) := by decide +kernel
theorem dX8_reach_111 : decode cX8_reach 111 = .ok (.iadd, 1) := by decide +kernel
theorem dX8_reach_112 : decode cX8_reach 112 = .ok (.istore_n 2, 1) := by decide +kernel
theorem dX8_reach_113 : decode cX8_reach 113 = .ok (.iinc 3 1, 3) := by decide +kernel
theorem dX8_reach_116 : decode cX8_reach 116 = .ok (.goto (-17), 3) := by decide +kernel
theorem dX8_reach_119 : decode cX8_reach 119 = .ok (.iload_n 2, 1) := by decide +kernel
theorem dX8_reach_120 : decode cX8_reach 120 = .ok (.ireturn, 1) := by decide +kernel
theorem dX8_aim_0 : decode cX8_aim 0 = .ok (.aload_n 0, 1) := by decide +kernel
theorem dX8_aim_1 : decode cX8_aim 1 = .ok (.iconst 0, 1) := by decide +kernel
theorem dX8_aim_2 : decode cX8_aim 2 = .ok (.putfield 61, 3) := by decide +kernel
theorem dX8_aim_5 : decode cX8_aim 5 = .ok (.aload_n 0, 1) := by decide +kernel
theorem dX8_aim_6 : decode cX8_aim 6 = .ok (.iload_n 1, 1) := by decide +kernel
theorem dX8_aim_7 : decode cX8_aim 7 = .ok (.invokevirtual 164, 3) := by decide +kernel
theorem dX8_aim_10 : decode cX8_aim 10 = .ok (.ifCond .eq 15, 3) := by decide +kernel
theorem dX8_aim_13 : decode cX8_aim 13 = .ok (.iload_n 2, 1) := by decide +kernel
theorem dX8_aim_14 : decode cX8_aim 14 = .ok (.i2l, 1) := by decide +kernel
theorem dX8_aim_15 : decode cX8_aim 15 = .ok (.lconst 0, 1) := by decide +kernel
theorem dX8_aim_16 : decode cX8_aim 16 = .ok (.ldc2_w 148, 3) := by decide +kernel
theorem dX8_aim_19 : decode cX8_aim 19 = .ok (.invokestatic 84, 3) := by decide +kernel
theorem dX8_aim_22 : decode cX8_aim 22 = .ok (.ifCond .ne 5, 3) := by decide +kernel
theorem dX8_aim_25 : decode cX8_aim 25 = .ok (.iconst (-1), 1) := by decide +kernel
theorem dX8_aim_26 : decode cX8_aim 26 = .ok (.ireturn, 1) := by decide +kernel
theorem dX8_aim_27 : decode cX8_aim 27 = .ok (.aload_n 0, 1) := by decide +kernel
theorem dX8_aim_28 : decode cX8_aim 28 = .ok (.iload_n 1, 1) := by decide +kernel
theorem dX8_aim_29 : decode cX8_aim 29 = .ok (.invokevirtual 105, 3) := by decide +kernel
theorem dX8_aim_32 : decode cX8_aim 32 = .ok (.iconst (-1), 1) := by decide +kernel
theorem dX8_aim_33 : decode cX8_aim 33 = .ok (.istore_n 3, 1) := by decide +kernel
theorem dX8_aim_34 : decode cX8_aim 34 = .ok (.sipush 255, 3) := by decide +kernel
theorem dX8_aim_37 : decode cX8_aim 37 = .ok (.istore 4, 2) := by decide +kernel
theorem dX8_aim_39 : decode cX8_aim 39 = .ok (.iload 4, 2) := by decide +kernel
theorem dX8_aim_41 : decode cX8_aim 41 = .ok (.ifCond .lt 35, 3) := by decide +kernel
theorem dX8_aim_44 : decode cX8_aim 44 = .ok (.aload_n 0, 1) := by decide +kernel
theorem dX8_aim_45 : decode cX8_aim 45 = .ok (.getfield 45, 3) := by decide +kernel
theorem dX8_aim_48 : decode cX8_aim 48 = .ok (.iconst 2, 1) := by decide +kernel
theorem dX8_aim_49 : decode cX8_aim 49 = .ok (.iload 4, 2) := by decide +kernel
theorem dX8_aim_51 : decode cX8_aim 51 = .ok (.iastore, 1) := by decide +kernel
theorem dX8_aim_52 : decode cX8_aim 52 = .ok (.aload_n 0, 1) := by decide +kernel
theorem dX8_aim_53 : decode cX8_aim 53 = .ok (.invokevirtual 109, 3) := by decide +kernel
theorem dX8_aim_56 : decode cX8_aim 56 = .ok (.bipush 15, 2) := by decide +kernel
theorem dX8_aim_58 : decode cX8_aim 58 = .ok (.iand, 1) := by decide +kernel
theorem dX8_aim_59 : decode cX8_aim 59 = .ok (.iload_n 2, 1) := by decide +kernel
theorem dX8_aim_60 : decode cX8_aim 60 = .ok (.if_icmp .ne 8, 3) := by decide +kernel
theorem dX8_aim_63 : decode cX8_aim 63 = .ok (.iload 4, 2) := by decide +kernel
theorem dX8_aim_65 : decode cX8_aim 65 = .ok (.goto 4, 3) := by decide +kernel
theorem dX8_aim_68 : decode cX8_aim 68 = .ok (.iload_n 3, 1) := by decide +kernel
theorem dX8_aim_69 : decode cX8_aim 69 = .ok (.istore_n 3, 1) := by decide +kernel
theorem dX8_aim_70 : decode cX8_aim 70 = .ok (.iinc 4 (-1), 3) := by decide +kernel
theorem dX8_aim_73 : decode cX8_aim 73 = .ok (.goto (-34), 3) := by decide +kernel
theorem dX8_aim_76 : decode cX8_aim 76 = .ok (.iload_n 3, 1) := by decide +kernel
theorem dX8_aim_77 : decode cX8_aim 77 = .ok (.ireturn, 1) := by decide +kernel
theorem dX8_unlikeEntries_0 : decode cX8_unlikeEntries 0 = .ok (.iconst 0, 1) := by decide +kernel
theorem dX8_unlikeEntries_1 : decode cX8_unlikeEntries 1 = .ok (.istore_n 1, 1) := by decide +kernel
theorem dX8_unlikeEntries_2 : decode cX8_unlikeEntries 2 = .ok (.iconst 0, 1) := by decide +kernel
theorem dX8_unlikeEntries_3 : decode cX8_unlikeEntries 3 = .ok (.istore_n 2, 1) := by decide +kernel
theorem dX8_unlikeEntries_4 : decode cX8_unlikeEntries 4 = .ok (.iload_n 2, 1) := by decide +kernel
theorem dX8_unlikeEntries_5 : decode cX8_unlikeEntries 5 = .ok (.aload_n 0, 1) := by decide +kernel
theorem dX8_unlikeEntries_6 : decode cX8_unlikeEntries 6 = .ok (.getfield 13, 3) := by decide +kernel
theorem dX8_unlikeEntries_9 : decode cX8_unlikeEntries 9 = .ok (.iconst 4, 1) := by decide +kernel
theorem dX8_unlikeEntries_10 : decode cX8_unlikeEntries 10 = .ok (.iaload, 1) := by decide +kernel
theorem dX8_unlikeEntries_11 : decode cX8_unlikeEntries 11 = .ok (.if_icmp .ge 26, 3) := by decide +kernel
theorem dX8_unlikeEntries_14 : decode cX8_unlikeEntries 14 = .ok (.aload_n 0, 1) := by decide +kernel
theorem dX8_unlikeEntries_15 : decode cX8_unlikeEntries 15 = .ok (.iload_n 2, 1) := by decide +kernel
theorem dX8_unlikeEntries_16 : decode cX8_unlikeEntries 16 = .ok (.invokevirtual 105, 3) := by decide +kernel
theorem dX8_unlikeEntries_19 : decode cX8_unlikeEntries 19 = .ok (.iload_n 1, 1) := by decide +kernel
theorem dX8_unlikeEntries_20 : decode cX8_unlikeEntries 20 = .ok (.iconst 1, 1) := by decide +kernel
theorem dX8_unlikeEntries_21 : decode cX8_unlikeEntries 21 = .ok (.aload_n 0, 1) := by decide +kernel
theorem dX8_unlikeEntries_22 : decode cX8_unlikeEntries 22 = .ok (.invokevirtual 109, 3) := by decide +kernel
theorem dX8_unlikeEntries_25 : decode cX8_unlikeEntries 25 = .ok (.bipush 15, 2) := by decide +kernel
theorem dX8_unlikeEntries_27 : decode cX8_unlikeEntries 27 = .ok (.iand, 1) := by decide +kernel
theorem dX8_unlikeEntries_28 : decode cX8_unlikeEntries 28 = .ok (.ishl, 1) := by decide +kernel
theorem dX8_unlikeEntries_29 : decode cX8_unlikeEntries 29 = .ok (.ior, 1) := by decide +kernel
theorem dX8_unlikeEntries_30 : decode cX8_unlikeEntries 30 = .ok (.istore_n 1, 1) := by decide +kernel
theorem dX8_unlikeEntries_31 : decode cX8_unlikeEntries 31 = .ok (.iinc 2 1, 3) := by decide +kernel
theorem dX8_unlikeEntries_34 : decode cX8_unlikeEntries 34 = .ok (.goto (-30), 3) := by decide +kernel
theorem dX8_unlikeEntries_37 : decode cX8_unlikeEntries 37 = .ok (.iconst 0, 1) := by decide +kernel
theorem dX8_unlikeEntries_38 : decode cX8_unlikeEntries 38 = .ok (.istore_n 2, 1) := by decide +kernel
theorem dX8_unlikeEntries_39 : decode cX8_unlikeEntries 39 = .ok (.iconst 0, 1) := by decide +kernel
theorem dX8_unlikeEntries_40 : decode cX8_unlikeEntries 40 = .ok (.istore_n 3, 1) := by decide +kernel
theorem dX8_unlikeEntries_41 : decode cX8_unlikeEntries 41 = .ok (.iload_n 3, 1) := by decide +kernel
theorem dX8_unlikeEntries_42 : decode cX8_unlikeEntries 42 = .ok (.bipush 16, 2) := by decide +kernel
theorem dX8_unlikeEntries_44 : decode cX8_unlikeEntries 44 = .ok (.if_icmp .ge 17, 3) := by decide +kernel
theorem dX8_unlikeEntries_47 : decode cX8_unlikeEntries 47 = .ok (.iload_n 2, 1) := by decide +kernel
theorem dX8_unlikeEntries_48 : decode cX8_unlikeEntries 48 = .ok (.iload_n 1, 1) := by decide +kernel
theorem dX8_unlikeEntries_49 : decode cX8_unlikeEntries 49 = .ok (.iload_n 3, 1) := by decide +kernel
theorem dX8_unlikeEntries_50 : decode cX8_unlikeEntries 50 = .ok (.ishr, 1) := by decide +kernel
theorem dX8_unlikeEntries_51 : decode cX8_unlikeEntries 51 = .ok (.iconst 1, 1) := by decide +kernel
theorem dX8_unlikeEntries_52 : decode cX8_unlikeEntries 52 = .ok (.iand, 1) := by decide +kernel
theorem dX8_unlikeEntries_53 : decode cX8_unlikeEntries 53 = .ok (.iadd, 1) := by decide +kernel
theorem dX8_unlikeEntries_54 : decode cX8_unlikeEntries 54 = .ok (.istore_n 2, 1) := by decide +kernel
theorem dX8_unlikeEntries_55 : decode cX8_unlikeEntries 55 = .ok (.iinc 3 1, 3) := by decide +kernel
theorem dX8_unlikeEntries_58 : decode cX8_unlikeEntries 58 = .ok (.goto (-17), 3) := by decide +kernel
theorem dX8_unlikeEntries_61 : decode cX8_unlikeEntries 61 = .ok (.iload_n 2, 1) := by decide +kernel
theorem dX8_unlikeEntries_62 : decode cX8_unlikeEntries 62 = .ok (.ireturn, 1) := by decide +kernel
theorem dX8_spread_0 : decode cX8_spread 0 = .ok (.aload_n 0, 1) := by decide +kernel
theorem dX8_spread_1 : decode cX8_spread 1 = .ok (.iconst 0, 1) := by decide +kernel
theorem dX8_spread_2 : decode cX8_spread 2 = .ok (.putfield 61, 3) := by decide +kernel
theorem dX8_spread_5 : decode cX8_spread 5 = .ok (.aload_n 0, 1) := by decide +kernel
theorem dX8_spread_6 : decode cX8_spread 6 = .ok (.getfield 13, 3) := by decide +kernel
theorem dX8_spread_9 : decode cX8_spread 9 = .ok (.iconst 4, 1) := by decide +kernel
theorem dX8_spread_10 : decode cX8_spread 10 = .ok (.iaload, 1) := by decide +kernel
theorem dX8_spread_11 : decode cX8_spread 11 = .ok (.ifCond .eq 13, 3) := by decide +kernel
theorem dX8_spread_14 : decode cX8_spread 14 = .ok (.iload_n 1, 1) := by decide +kernel
theorem dX8_spread_15 : decode cX8_spread 15 = .ok (.i2l, 1) := by decide +kernel
theorem dX8_spread_16 : decode cX8_spread 16 = .ok (.lconst 0, 1) := by decide +kernel
theorem dX8_spread_17 : decode cX8_spread 17 = .ok (.lconst 1, 1) := by decide +kernel
theorem dX8_spread_18 : decode cX8_spread 18 = .ok (.invokestatic 84, 3) := by decide +kernel
theorem dX8_spread_21 : decode cX8_spread 21 = .ok (.ifCond .ne 5, 3) := by decide +kernel
theorem dX8_spread_24 : decode cX8_spread 24 = .ok (.iconst (-1), 1) := by decide +kernel
theorem dX8_spread_25 : decode cX8_spread 25 = .ok (.ireturn, 1) := by decide +kernel
theorem dX8_spread_26 : decode cX8_spread 26 = .ok (.aload_n 0, 1) := by decide +kernel
theorem dX8_spread_27 : decode cX8_spread 27 = .ok (.getfield 13, 3) := by decide +kernel
theorem dX8_spread_30 : decode cX8_spread 30 = .ok (.iconst 0, 1) := by decide +kernel
theorem dX8_spread_31 : decode cX8_spread 31 = .ok (.iaload, 1) := by decide +kernel
theorem dX8_spread_32 : decode cX8_spread 32 = .ok (.istore_n 2, 1) := by decide +kernel
theorem dX8_spread_33 : decode cX8_spread 33 = .ok (.aload_n 0, 1) := by decide +kernel
theorem dX8_spread_34 : decode cX8_spread 34 = .ok (.getfield 13, 3) := by decide +kernel
theorem dX8_spread_37 : decode cX8_spread 37 = .ok (.iconst 1, 1) := by decide +kernel
theorem dX8_spread_38 : decode cX8_spread 38 = .ok (.iaload, 1) := by decide +kernel
theorem dX8_spread_39 : decode cX8_spread 39 = .ok (.istore_n 3, 1) := by decide +kernel
theorem dX8_spread_40 : decode cX8_spread 40 = .ok (.aload_n 0, 1) := by decide +kernel
theorem dX8_spread_41 : decode cX8_spread 41 = .ok (.getfield 13, 3) := by decide +kernel
theorem dX8_spread_44 : decode cX8_spread 44 = .ok (.iconst 2, 1) := by decide +kernel
theorem dX8_spread_45 : decode cX8_spread 45 = .ok (.iaload, 1) := by decide +kernel
theorem dX8_spread_46 : decode cX8_spread 46 = .ok (.istore 4, 2) := by decide +kernel
theorem dX8_spread_48 : decode cX8_spread 48 = .ok (.iconst (-1), 1) := by decide +kernel
theorem dX8_spread_49 : decode cX8_spread 49 = .ok (.istore 5, 2) := by decide +kernel
theorem dX8_spread_51 : decode cX8_spread 51 = .ok (.iconst 0, 1) := by decide +kernel
theorem dX8_spread_52 : decode cX8_spread 52 = .ok (.istore 6, 2) := by decide +kernel
theorem dX8_spread_54 : decode cX8_spread 54 = .ok (.iconst 0, 1) := by decide +kernel
theorem dX8_spread_55 : decode cX8_spread 55 = .ok (.istore 7, 2) := by decide +kernel
theorem dX8_spread_57 : decode cX8_spread 57 = .ok (.iload 7, 2) := by decide +kernel
theorem dX8_spread_59 : decode cX8_spread 59 = .ok (.sipush 256, 3) := by decide +kernel
theorem dX8_spread_62 : decode cX8_spread 62 = .ok (.if_icmp .ge 93, 3) := by decide +kernel
theorem dX8_spread_65 : decode cX8_spread 65 = .ok (.iload 7, 2) := by decide +kernel
theorem dX8_spread_67 : decode cX8_spread 67 = .ok (.bipush 24, 2) := by decide +kernel
theorem dX8_spread_69 : decode cX8_spread 69 = .ok (.ishl, 1) := by decide +kernel
theorem dX8_spread_70 : decode cX8_spread 70 = .ok (.iload 7, 2) := by decide +kernel
theorem dX8_spread_72 : decode cX8_spread 72 = .ok (.bipush 16, 2) := by decide +kernel
theorem dX8_spread_74 : decode cX8_spread 74 = .ok (.ishl, 1) := by decide +kernel
theorem dX8_spread_75 : decode cX8_spread 75 = .ok (.ior, 1) := by decide +kernel
theorem dX8_spread_76 : decode cX8_spread 76 = .ok (.iload 7, 2) := by decide +kernel
theorem dX8_spread_78 : decode cX8_spread 78 = .ok (.bipush 8, 2) := by decide +kernel
theorem dX8_spread_80 : decode cX8_spread 80 = .ok (.ishl, 1) := by decide +kernel
theorem dX8_spread_81 : decode cX8_spread 81 = .ok (.ior, 1) := by decide +kernel
theorem dX8_spread_82 : decode cX8_spread 82 = .ok (.iload 7, 2) := by decide +kernel
theorem dX8_spread_84 : decode cX8_spread 84 = .ok (.ior, 1) := by decide +kernel
theorem dX8_spread_85 : decode cX8_spread 85 = .ok (.istore 8, 2) := by decide +kernel
theorem dX8_spread_87 : decode cX8_spread 87 = .ok (.aload_n 0, 1) := by decide +kernel
theorem dX8_spread_88 : decode cX8_spread 88 = .ok (.getfield 13, 3) := by decide +kernel
theorem dX8_spread_91 : decode cX8_spread 91 = .ok (.iconst 0, 1) := by decide +kernel
theorem dX8_spread_92 : decode cX8_spread 92 = .ok (.iload 8, 2) := by decide +kernel
theorem dX8_spread_94 : decode cX8_spread 94 = .ok (.iastore, 1) := by decide +kernel
theorem dX8_spread_95 : decode cX8_spread 95 = .ok (.aload_n 0, 1) := by decide +kernel
theorem dX8_spread_96 : decode cX8_spread 96 = .ok (.getfield 13, 3) := by decide +kernel
theorem dX8_spread_99 : decode cX8_spread 99 = .ok (.iconst 1, 1) := by decide +kernel
theorem dX8_spread_100 : decode cX8_spread 100 = .ok (.iload 8, 2) := by decide +kernel
theorem dX8_spread_102 : decode cX8_spread 102 = .ok (.iastore, 1) := by decide +kernel
theorem dX8_spread_103 : decode cX8_spread 103 = .ok (.aload_n 0, 1) := by decide +kernel
theorem dX8_spread_104 : decode cX8_spread 104 = .ok (.getfield 13, 3) := by decide +kernel
theorem dX8_spread_107 : decode cX8_spread 107 = .ok (.iconst 2, 1) := by decide +kernel
theorem dX8_spread_108 : decode cX8_spread 108 = .ok (.iload 7, 2) := by decide +kernel
theorem dX8_spread_110 : decode cX8_spread 110 = .ok (.iastore, 1) := by decide +kernel
theorem dX8_spread_111 : decode cX8_spread 111 = .ok (.aload_n 0, 1) := by decide +kernel
theorem dX8_spread_112 : decode cX8_spread 112 = .ok (.invokevirtual 262, 3) := by decide +kernel
theorem dX8_spread_115 : decode cX8_spread 115 = .ok (.istore 9, 2) := by decide +kernel
theorem dX8_spread_117 : decode cX8_spread 117 = .ok (.iload 9, 2) := by decide +kernel
theorem dX8_spread_119 : decode cX8_spread 119 = .ok (.iload 6, 2) := by decide +kernel
theorem dX8_spread_121 : decode cX8_spread 121 = .ok (.if_icmp .le 8, 3) := by decide +kernel
theorem dX8_spread_124 : decode cX8_spread 124 = .ok (.iload 7, 2) := by decide +kernel
theorem dX8_spread_126 : decode cX8_spread 126 = .ok (.goto 5, 3) := by decide +kernel
theorem dX8_spread_129 : decode cX8_spread 129 = .ok (.iload 5, 2) := by decide +kernel
theorem dX8_spread_131 : decode cX8_spread 131 = .ok (.istore 5, 2) := by decide +kernel
theorem dX8_spread_133 : decode cX8_spread 133 = .ok (.iload 9, 2) := by decide +kernel
theorem dX8_spread_135 : decode cX8_spread 135 = .ok (.iload 6, 2) := by decide +kernel
theorem dX8_spread_137 : decode cX8_spread 137 = .ok (.if_icmp .le 8, 3) := by decide +kernel
theorem dX8_spread_140 : decode cX8_spread 140 = .ok (.iload 9, 2) := by decide +kernel
theorem dX8_spread_142 : decode cX8_spread 142 = .ok (.goto 5, 3) := by decide +kernel
theorem dX8_spread_145 : decode cX8_spread 145 = .ok (.iload 6, 2) := by decide +kernel
theorem dX8_spread_147 : decode cX8_spread 147 = .ok (.istore 6, 2) := by decide +kernel
theorem dX8_spread_149 : decode cX8_spread 149 = .ok (.iinc 7 1, 3) := by decide +kernel
theorem dX8_spread_152 : decode cX8_spread 152 = .ok (.goto (-95), 3) := by decide +kernel
theorem dX8_spread_155 : decode cX8_spread 155 = .ok (.aload_n 0, 1) := by decide +kernel
theorem dX8_spread_156 : decode cX8_spread 156 = .ok (.getfield 13, 3) := by decide +kernel
theorem dX8_spread_159 : decode cX8_spread 159 = .ok (.iconst 0, 1) := by decide +kernel
theorem dX8_spread_160 : decode cX8_spread 160 = .ok (.iload_n 2, 1) := by decide +kernel
theorem dX8_spread_161 : decode cX8_spread 161 = .ok (.iastore, 1) := by decide +kernel
theorem dX8_spread_162 : decode cX8_spread 162 = .ok (.aload_n 0, 1) := by decide +kernel
theorem dX8_spread_163 : decode cX8_spread 163 = .ok (.getfield 13, 3) := by decide +kernel
theorem dX8_spread_166 : decode cX8_spread 166 = .ok (.iconst 1, 1) := by decide +kernel
theorem dX8_spread_167 : decode cX8_spread 167 = .ok (.iload_n 3, 1) := by decide +kernel
theorem dX8_spread_168 : decode cX8_spread 168 = .ok (.iastore, 1) := by decide +kernel
theorem dX8_spread_169 : decode cX8_spread 169 = .ok (.aload_n 0, 1) := by decide +kernel
theorem dX8_spread_170 : decode cX8_spread 170 = .ok (.getfield 13, 3) := by decide +kernel
theorem dX8_spread_173 : decode cX8_spread 173 = .ok (.iconst 2, 1) := by decide +kernel
theorem dX8_spread_174 : decode cX8_spread 174 = .ok (.iload 4, 2) := by decide +kernel
theorem dX8_spread_176 : decode cX8_spread 176 = .ok (.iastore, 1) := by decide +kernel
theorem dX8_spread_177 : decode cX8_spread 177 = .ok (.iload_n 1, 1) := by decide +kernel
theorem dX8_spread_178 : decode cX8_spread 178 = .ok (.ifCond .ne 8, 3) := by decide +kernel
theorem dX8_spread_181 : decode cX8_spread 181 = .ok (.iload 5, 2) := by decide +kernel
theorem dX8_spread_183 : decode cX8_spread 183 = .ok (.goto 5, 3) := by decide +kernel
theorem dX8_spread_186 : decode cX8_spread 186 = .ok (.iload 6, 2) := by decide +kernel
theorem dX8_spread_188 : decode cX8_spread 188 = .ok (.ireturn, 1) := by decide +kernel
theorem dX8_common_0 : decode cX8_common 0 = .ok (.lload_n 0, 1) := by decide +kernel
theorem dX8_common_1 : decode cX8_common 1 = .ok (.lstore 4, 2) := by decide +kernel
theorem dX8_common_3 : decode cX8_common 3 = .ok (.lload_n 2, 1) := by decide +kernel
theorem dX8_common_4 : decode cX8_common 4 = .ok (.lstore 6, 2) := by decide +kernel
theorem dX8_common_6 : decode cX8_common 6 = .ok (.lload 6, 2) := by decide +kernel
theorem dX8_common_8 : decode cX8_common 8 = .ok (.lconst 0, 1) := by decide +kernel
theorem dX8_common_9 : decode cX8_common 9 = .ok (.lcmp, 1) := by decide +kernel
theorem dX8_common_10 : decode cX8_common 10 = .ok (.ifCond .eq 21, 3) := by decide +kernel
theorem dX8_common_13 : decode cX8_common 13 = .ok (.lload 4, 2) := by decide +kernel
theorem dX8_common_15 : decode cX8_common 15 = .ok (.lload 6, 2) := by decide +kernel
theorem dX8_common_17 : decode cX8_common 17 = .ok (.lrem, 1) := by decide +kernel
theorem dX8_common_18 : decode cX8_common 18 = .ok (.lstore 8, 2) := by decide +kernel
theorem dX8_common_20 : decode cX8_common 20 = .ok (.lload 6, 2) := by decide +kernel
theorem dX8_common_22 : decode cX8_common 22 = .ok (.lstore 4, 2) := by decide +kernel
theorem dX8_common_24 : decode cX8_common 24 = .ok (.lload 8, 2) := by decide +kernel
theorem dX8_common_26 : decode cX8_common 26 = .ok (.lstore 6, 2) := by decide +kernel
theorem dX8_common_28 : decode cX8_common 28 = .ok (.goto (-22), 3) := by decide +kernel
theorem dX8_common_31 : decode cX8_common 31 = .ok (.lload 4, 2) := by decide +kernel
theorem dX8_common_33 : decode cX8_common 33 = .ok (.lreturn, 1) := by decide +kernel
theorem dX8_ratio_0 : decode cX8_ratio 0 = .ok (.aload_n 0, 1) := by decide +kernel
theorem dX8_ratio_1 : decode cX8_ratio 1 = .ok (.iconst 0, 1) := by decide +kernel
theorem dX8_ratio_2 : decode cX8_ratio 2 = .ok (.putfield 61, 3) := by decide +kernel
theorem dX8_ratio_5 : decode cX8_ratio 5 = .ok (.aload_n 0, 1) := by decide +kernel
theorem dX8_ratio_6 : decode cX8_ratio 6 = .ok (.getfield 16, 3) := by decide +kernel
theorem dX8_ratio_9 : decode cX8_ratio 9 = .ok (.iconst 0, 1) := by decide +kernel
theorem dX8_ratio_10 : decode cX8_ratio 10 = .ok (.laload, 1) := by decide +kernel
theorem dX8_ratio_11 : decode cX8_ratio 11 = .ok (.lconst 0, 1) := by decide +kernel
theorem dX8_ratio_12 : decode cX8_ratio 12 = .ok (.lcmp, 1) := by decide +kernel
theorem dX8_ratio_13 : decode cX8_ratio 13 = .ok (.ifCond .eq 15, 3) := by decide +kernel
theorem dX8_ratio_16 : decode cX8_ratio 16 = .ok (.iload_n 1, 1) := by decide +kernel
theorem dX8_ratio_17 : decode cX8_ratio 17 = .ok (.i2l, 1) := by decide +kernel
theorem dX8_ratio_18 : decode cX8_ratio 18 = .ok (.lconst 0, 1) := by decide +kernel
theorem dX8_ratio_19 : decode cX8_ratio 19 = .ok (.ldc2_w 88, 3) := by decide +kernel
theorem dX8_ratio_22 : decode cX8_ratio 22 = .ok (.invokestatic 84, 3) := by decide +kernel
theorem dX8_ratio_25 : decode cX8_ratio 25 = .ok (.ifCond .ne 7, 3) := by decide +kernel
theorem dX8_ratio_28 : decode cX8_ratio 28 = .ok (.ldc2_w 162, 3) := by decide +kernel
theorem dX8_ratio_31 : decode cX8_ratio 31 = .ok (.lreturn, 1) := by decide +kernel
theorem dX8_ratio_32 : decode cX8_ratio 32 = .ok (.iload_n 1, 1) := by decide +kernel
theorem dX8_ratio_33 : decode cX8_ratio 33 = .ok (.iconst 2, 1) := by decide +kernel
theorem dX8_ratio_34 : decode cX8_ratio 34 = .ok (.if_icmp .ge 12, 3) := by decide +kernel
theorem dX8_ratio_37 : decode cX8_ratio 37 = .ok (.aload_n 0, 1) := by decide +kernel
theorem dX8_ratio_38 : decode cX8_ratio 38 = .ok (.getfield 16, 3) := by decide +kernel
theorem dX8_ratio_41 : decode cX8_ratio 41 = .ok (.iconst 2, 1) := by decide +kernel
theorem dX8_ratio_42 : decode cX8_ratio 42 = .ok (.laload, 1) := by decide +kernel
theorem dX8_ratio_43 : decode cX8_ratio 43 = .ok (.goto 9, 3) := by decide +kernel
theorem dX8_ratio_46 : decode cX8_ratio 46 = .ok (.aload_n 0, 1) := by decide +kernel
theorem dX8_ratio_47 : decode cX8_ratio 47 = .ok (.getfield 16, 3) := by decide +kernel
theorem dX8_ratio_50 : decode cX8_ratio 50 = .ok (.iconst 1, 1) := by decide +kernel
theorem dX8_ratio_51 : decode cX8_ratio 51 = .ok (.laload, 1) := by decide +kernel
theorem dX8_ratio_52 : decode cX8_ratio 52 = .ok (.lstore_n 2, 1) := by decide +kernel
theorem dX8_ratio_53 : decode cX8_ratio 53 = .ok (.iload_n 1, 1) := by decide +kernel
theorem dX8_ratio_54 : decode cX8_ratio 54 = .ok (.iconst 2, 1) := by decide +kernel
theorem dX8_ratio_55 : decode cX8_ratio 55 = .ok (.if_icmp .ge 12, 3) := by decide +kernel
theorem dX8_ratio_58 : decode cX8_ratio 58 = .ok (.aload_n 0, 1) := by decide +kernel
theorem dX8_ratio_59 : decode cX8_ratio 59 = .ok (.getfield 16, 3) := by decide +kernel
theorem dX8_ratio_62 : decode cX8_ratio 62 = .ok (.iconst 1, 1) := by decide +kernel
theorem dX8_ratio_63 : decode cX8_ratio 63 = .ok (.laload, 1) := by decide +kernel
theorem dX8_ratio_64 : decode cX8_ratio 64 = .ok (.goto 9, 3) := by decide +kernel
theorem dX8_ratio_67 : decode cX8_ratio 67 = .ok (.aload_n 0, 1) := by decide +kernel
theorem dX8_ratio_68 : decode cX8_ratio 68 = .ok (.getfield 16, 3) := by decide +kernel
theorem dX8_ratio_71 : decode cX8_ratio 71 = .ok (.iconst 0, 1) := by decide +kernel
theorem dX8_ratio_72 : decode cX8_ratio 72 = .ok (.laload, 1) := by decide +kernel
theorem dX8_ratio_73 : decode cX8_ratio 73 = .ok (.lstore 4, 2) := by decide +kernel
theorem dX8_ratio_75 : decode cX8_ratio 75 = .ok (.iload_n 1, 1) := by decide +kernel
theorem dX8_ratio_76 : decode cX8_ratio 76 = .ok (.iconst 2, 1) := by decide +kernel
theorem dX8_ratio_77 : decode cX8_ratio 77 = .ok (.irem, 1) := by decide +kernel
theorem dX8_ratio_78 : decode cX8_ratio 78 = .ok (.ifCond .ne 7, 3) := by decide +kernel
theorem dX8_ratio_81 : decode cX8_ratio 81 = .ok (.lload_n 2, 1) := by decide +kernel
theorem dX8_ratio_82 : decode cX8_ratio 82 = .ok (.goto 5, 3) := by decide +kernel
theorem dX8_ratio_85 : decode cX8_ratio 85 = .ok (.lload 4, 2) := by decide +kernel
theorem dX8_ratio_87 : decode cX8_ratio 87 = .ok (.lload_n 2, 1) := by decide +kernel
theorem dX8_ratio_88 : decode cX8_ratio 88 = .ok (.lload 4, 2) := by decide +kernel
theorem dX8_ratio_90 : decode cX8_ratio 90 = .ok (.invokestatic 265, 3) := by decide +kernel
theorem dX8_ratio_93 : decode cX8_ratio 93 = .ok (.ldiv, 1) := by decide +kernel
theorem dX8_ratio_94 : decode cX8_ratio 94 = .ok (.lreturn, 1) := by decide +kernel
theorem dX8_alike_0 : decode cX8_alike 0 = .ok (.aload_n 0, 1) := by decide +kernel
theorem dX8_alike_1 : decode cX8_alike 1 = .ok (.iconst 0, 1) := by decide +kernel
theorem dX8_alike_2 : decode cX8_alike 2 = .ok (.putfield 61, 3) := by decide +kernel
theorem dX8_alike_5 : decode cX8_alike 5 = .ok (.iconst 0, 1) := by decide +kernel
theorem dX8_alike_6 : decode cX8_alike 6 = .ok (.istore_n 1, 1) := by decide +kernel
theorem dX8_alike_7 : decode cX8_alike 7 = .ok (.iload_n 1, 1) := by decide +kernel
theorem dX8_alike_8 : decode cX8_alike 8 = .ok (.aload_n 0, 1) := by decide +kernel
theorem dX8_alike_9 : decode cX8_alike 9 = .ok (.getfield 13, 3) := by decide +kernel
theorem dX8_alike_12 : decode cX8_alike 12 = .ok (.iconst 4, 1) := by decide +kernel
theorem dX8_alike_13 : decode cX8_alike 13 = .ok (.iaload, 1) := by decide +kernel
theorem dX8_alike_14 : decode cX8_alike 14 = .ok (.if_icmp .ge 63, 3) := by decide +kernel
theorem dX8_alike_17 : decode cX8_alike 17 = .ok (.iload_n 1, 1) := by decide +kernel
theorem dX8_alike_18 : decode cX8_alike 18 = .ok (.iconst 1, 1) := by decide +kernel
theorem dX8_alike_19 : decode cX8_alike 19 = .ok (.iadd, 1) := by decide +kernel
theorem dX8_alike_20 : decode cX8_alike 20 = .ok (.istore_n 2, 1) := by decide +kernel
theorem dX8_alike_21 : decode cX8_alike 21 = .ok (.iload_n 2, 1) := by decide +kernel
theorem dX8_alike_22 : decode cX8_alike 22 = .ok (.aload_n 0, 1) := by decide +kernel
theorem dX8_alike_23 : decode cX8_alike 23 = .ok (.getfield 13, 3) := by decide +kernel
theorem dX8_alike_26 : decode cX8_alike 26 = .ok (.iconst 4, 1) := by decide +kernel
theorem dX8_alike_27 : decode cX8_alike 27 = .ok (.iaload, 1) := by decide +kernel
theorem dX8_alike_28 : decode cX8_alike 28 = .ok (.if_icmp .ge 43, 3) := by decide +kernel
theorem dX8_alike_31 : decode cX8_alike 31 = .ok (.aload_n 0, 1) := by decide +kernel
theorem dX8_alike_32 : decode cX8_alike 32 = .ok (.getfield 13, 3) := by decide +kernel
theorem dX8_alike_35 : decode cX8_alike 35 = .ok (.iload_n 1, 1) := by decide +kernel
theorem dX8_alike_36 : decode cX8_alike 36 = .ok (.invokestatic 102, 3) := by decide +kernel
theorem dX8_alike_39 : decode cX8_alike 39 = .ok (.bipush 14, 2) := by decide +kernel
theorem dX8_alike_41 : decode cX8_alike 41 = .ok (.iadd, 1) := by decide +kernel
theorem dX8_alike_42 : decode cX8_alike 42 = .ok (.iaload, 1) := by decide +kernel
theorem dX8_alike_43 : decode cX8_alike 43 = .ok (.aload_n 0, 1) := by decide +kernel
theorem dX8_alike_44 : decode cX8_alike 44 = .ok (.getfield 13, 3) := by decide +kernel
theorem dX8_alike_47 : decode cX8_alike 47 = .ok (.iload_n 2, 1) := by decide +kernel
theorem dX8_alike_48 : decode cX8_alike 48 = .ok (.invokestatic 102, 3) := by decide +kernel
theorem dX8_alike_51 : decode cX8_alike 51 = .ok (.bipush 14, 2) := by decide +kernel
theorem dX8_alike_53 : decode cX8_alike 53 = .ok (.iadd, 1) := by decide +kernel
theorem dX8_alike_54 : decode cX8_alike 54 = .ok (.iaload, 1) := by decide +kernel
theorem dX8_alike_55 : decode cX8_alike 55 = .ok (.if_icmp .ne 10, 3) := by decide +kernel
theorem dX8_alike_58 : decode cX8_alike 58 = .ok (.bipush 100, 2) := by decide +kernel
theorem dX8_alike_60 : decode cX8_alike 60 = .ok (.iload_n 1, 1) := by decide +kernel
theorem dX8_alike_61 : decode cX8_alike 61 = .ok (.imul, 1) := by decide +kernel
theorem dX8_alike_62 : decode cX8_alike 62 = .ok (.iload_n 2, 1) := by decide +kernel
theorem dX8_alike_63 : decode cX8_alike 63 = .ok (.iadd, 1) := by decide +kernel
theorem dX8_alike_64 : decode cX8_alike 64 = .ok (.ireturn, 1) := by decide +kernel
theorem dX8_alike_65 : decode cX8_alike 65 = .ok (.iinc 2 1, 3) := by decide +kernel
theorem dX8_alike_68 : decode cX8_alike 68 = .ok (.goto (-47), 3) := by decide +kernel
theorem dX8_alike_71 : decode cX8_alike 71 = .ok (.iinc 1 1, 3) := by decide +kernel
theorem dX8_alike_74 : decode cX8_alike 74 = .ok (.goto (-67), 3) := by decide +kernel
theorem dX8_alike_77 : decode cX8_alike 77 = .ok (.iconst (-1), 1) := by decide +kernel
theorem dX8_alike_78 : decode cX8_alike 78 = .ok (.ireturn, 1) := by decide +kernel
theorem dX8_hitsOf_0 : decode cX8_hitsOf 0 = .ok (.iconst 0, 1) := by decide +kernel
theorem dX8_hitsOf_1 : decode cX8_hitsOf 1 = .ok (.istore_n 2, 1) := by decide +kernel
theorem dX8_hitsOf_2 : decode cX8_hitsOf 2 = .ok (.iconst 0, 1) := by decide +kernel
theorem dX8_hitsOf_3 : decode cX8_hitsOf 3 = .ok (.istore_n 3, 1) := by decide +kernel
theorem dX8_hitsOf_4 : decode cX8_hitsOf 4 = .ok (.iload_n 3, 1) := by decide +kernel
theorem dX8_hitsOf_5 : decode cX8_hitsOf 5 = .ok (.bipush 16, 2) := by decide +kernel
theorem dX8_hitsOf_7 : decode cX8_hitsOf 7 = .ok (.if_icmp .ge 38, 3) := by decide +kernel
theorem dX8_hitsOf_10 : decode cX8_hitsOf 10 = .ok (.iload_n 2, 1) := by decide +kernel
theorem dX8_hitsOf_11 : decode cX8_hitsOf 11 = .ok (.aload_n 0, 1) := by decide +kernel
theorem dX8_hitsOf_12 : decode cX8_hitsOf 12 = .ok (.getfield 13, 3) := by decide +kernel
theorem dX8_hitsOf_15 : decode cX8_hitsOf 15 = .ok (.bipush 23, 2) := by decide +kernel
theorem dX8_hitsOf_17 : decode cX8_hitsOf 17 = .ok (.iload_n 3, 1) := by decide +kernel
theorem dX8_hitsOf_18 : decode cX8_hitsOf 18 = .ok (.iadd, 1) := by decide +kernel
theorem dX8_hitsOf_19 : decode cX8_hitsOf 19 = .ok (.iaload, 1) := by decide +kernel
theorem dX8_hitsOf_20 : decode cX8_hitsOf 20 = .ok (.iload_n 1, 1) := by decide +kernel
theorem dX8_hitsOf_21 : decode cX8_hitsOf 21 = .ok (.if_icmp .ne 15, 3) := by decide +kernel
theorem dX8_hitsOf_24 : decode cX8_hitsOf 24 = .ok (.aload_n 0, 1) := by decide +kernel
theorem dX8_hitsOf_25 : decode cX8_hitsOf 25 = .ok (.getfield 13, 3) := by decide +kernel
theorem dX8_hitsOf_28 : decode cX8_hitsOf 28 = .ok (.bipush 39, 2) := by decide +kernel
theorem dX8_hitsOf_30 : decode cX8_hitsOf 30 = .ok (.iload_n 3, 1) := by decide +kernel
theorem dX8_hitsOf_31 : decode cX8_hitsOf 31 = .ok (.iadd, 1) := by decide +kernel
theorem dX8_hitsOf_32 : decode cX8_hitsOf 32 = .ok (.iaload, 1) := by decide +kernel
theorem dX8_hitsOf_33 : decode cX8_hitsOf 33 = .ok (.goto 4, 3) := by decide +kernel
theorem dX8_hitsOf_36 : decode cX8_hitsOf 36 = .ok (.iconst 0, 1) := by decide +kernel
theorem dX8_hitsOf_37 : decode cX8_hitsOf 37 = .ok (.iadd, 1) := by decide +kernel
theorem dX8_hitsOf_38 : decode cX8_hitsOf 38 = .ok (.istore_n 2, 1) := by decide +kernel
theorem dX8_hitsOf_39 : decode cX8_hitsOf 39 = .ok (.iinc 3 1, 3) := by decide +kernel
theorem dX8_hitsOf_42 : decode cX8_hitsOf 42 = .ok (.goto (-38), 3) := by decide +kernel
theorem dX8_hitsOf_45 : decode cX8_hitsOf 45 = .ok (.iload_n 2, 1) := by decide +kernel
theorem dX8_hitsOf_46 : decode cX8_hitsOf 46 = .ok (.ireturn, 1) := by decide +kernel
theorem dX8_greatestHits_0 : decode cX8_greatestHits 0 = .ok (.iconst 0, 1) := by decide +kernel
theorem dX8_greatestHits_1 : decode cX8_greatestHits 1 = .ok (.istore_n 1, 1) := by decide +kernel
theorem dX8_greatestHits_2 : decode cX8_greatestHits 2 = .ok (.iconst 0, 1) := by decide +kernel
theorem dX8_greatestHits_3 : decode cX8_greatestHits 3 = .ok (.istore_n 2, 1) := by decide +kernel
theorem dX8_greatestHits_4 : decode cX8_greatestHits 4 = .ok (.iload_n 2, 1) := by decide +kernel
theorem dX8_greatestHits_5 : decode cX8_greatestHits 5 = .ok (.iconst 4, 1) := by decide +kernel
theorem dX8_greatestHits_6 : decode cX8_greatestHits 6 = .ok (.if_icmp .ge 28, 3) := by decide +kernel
theorem dX8_greatestHits_9 : decode cX8_greatestHits 9 = .ok (.aload_n 0, 1) := by decide +kernel
theorem dX8_greatestHits_10 : decode cX8_greatestHits 10 = .ok (.iload_n 2, 1) := by decide +kernel
theorem dX8_greatestHits_11 : decode cX8_greatestHits 11 = .ok (.invokevirtual 269, 3) := by decide +kernel
theorem dX8_greatestHits_14 : decode cX8_greatestHits 14 = .ok (.iload_n 1, 1) := by decide +kernel
theorem dX8_greatestHits_15 : decode cX8_greatestHits 15 = .ok (.if_icmp .le 11, 3) := by decide +kernel
theorem dX8_greatestHits_18 : decode cX8_greatestHits 18 = .ok (.aload_n 0, 1) := by decide +kernel
theorem dX8_greatestHits_19 : decode cX8_greatestHits 19 = .ok (.iload_n 2, 1) := by decide +kernel
theorem dX8_greatestHits_20 : decode cX8_greatestHits 20 = .ok (.invokevirtual 269, 3) := by decide +kernel
theorem dX8_greatestHits_23 : decode cX8_greatestHits 23 = .ok (.goto 4, 3) := by decide +kernel
theorem dX8_greatestHits_26 : decode cX8_greatestHits 26 = .ok (.iload_n 1, 1) := by decide +kernel
theorem dX8_greatestHits_27 : decode cX8_greatestHits 27 = .ok (.istore_n 1, 1) := by decide +kernel
theorem dX8_greatestHits_28 : decode cX8_greatestHits 28 = .ok (.iinc 2 1, 3) := by decide +kernel
theorem dX8_greatestHits_31 : decode cX8_greatestHits 31 = .ok (.goto (-27), 3) := by decide +kernel
theorem dX8_greatestHits_34 : decode cX8_greatestHits 34 = .ok (.iload_n 1, 1) := by decide +kernel
theorem dX8_greatestHits_35 : decode cX8_greatestHits 35 = .ok (.ireturn, 1) := by decide +kernel
theorem dX8_load_0 : decode cX8_load 0 = .ok (.aload_n 0, 1) := by decide +kernel
theorem dX8_load_1 : decode cX8_load 1 = .ok (.iconst 0, 1) := by decide +kernel
theorem dX8_load_2 : decode cX8_load 2 = .ok (.putfield 61, 3) := by decide +kernel
theorem dX8_load_5 : decode cX8_load 5 = .ok (.iload_n 1, 1) := by decide +kernel
theorem dX8_load_6 : decode cX8_load 6 = .ok (.ifCond .ne 8, 3) := by decide +kernel
theorem dX8_load_9 : decode cX8_load 9 = .ok (.aload_n 0, 1) := by decide +kernel
theorem dX8_load_10 : decode cX8_load 10 = .ok (.invokevirtual 272, 3) := by decide +kernel
theorem dX8_load_13 : decode cX8_load 13 = .ok (.ireturn, 1) := by decide +kernel
theorem dX8_load_14 : decode cX8_load 14 = .ok (.iload_n 1, 1) := by decide +kernel
theorem dX8_load_15 : decode cX8_load 15 = .ok (.iconst 1, 1) := by decide +kernel
theorem dX8_load_16 : decode cX8_load 16 = .ok (.if_icmp .ne 34, 3) := by decide +kernel
theorem dX8_load_19 : decode cX8_load 19 = .ok (.aload_n 0, 1) := by decide +kernel
theorem dX8_load_20 : decode cX8_load 20 = .ok (.iconst 0, 1) := by decide +kernel
theorem dX8_load_21 : decode cX8_load 21 = .ok (.invokevirtual 269, 3) := by decide +kernel
theorem dX8_load_24 : decode cX8_load 24 = .ok (.istore_n 2, 1) := by decide +kernel
theorem dX8_load_25 : decode cX8_load 25 = .ok (.iconst 1, 1) := by decide +kernel
theorem dX8_load_26 : decode cX8_load 26 = .ok (.istore_n 3, 1) := by decide +kernel
theorem dX8_load_27 : decode cX8_load 27 = .ok (.iload_n 3, 1) := by decide +kernel
theorem dX8_load_28 : decode cX8_load 28 = .ok (.iconst 4, 1) := by decide +kernel
theorem dX8_load_29 : decode cX8_load 29 = .ok (.if_icmp .ge 19, 3) := by decide +kernel
theorem dX8_load_32 : decode cX8_load 32 = .ok (.iload_n 2, 1) := by decide +kernel
theorem dX8_load_33 : decode cX8_load 33 = .ok (.aload_n 0, 1) := by decide +kernel
theorem dX8_load_34 : decode cX8_load 34 = .ok (.iload_n 3, 1) := by decide +kernel
theorem dX8_load_35 : decode cX8_load 35 = .ok (.invokevirtual 269, 3) := by decide +kernel
theorem dX8_load_38 : decode cX8_load 38 = .ok (.invokestatic 206, 3) := by decide +kernel
theorem dX8_load_41 : decode cX8_load 41 = .ok (.istore_n 2, 1) := by decide +kernel
theorem dX8_load_42 : decode cX8_load 42 = .ok (.iinc 3 1, 3) := by decide +kernel
theorem dX8_load_45 : decode cX8_load 45 = .ok (.goto (-18), 3) := by decide +kernel
theorem dX8_load_48 : decode cX8_load 48 = .ok (.iload_n 2, 1) := by decide +kernel
theorem dX8_load_49 : decode cX8_load 49 = .ok (.ireturn, 1) := by decide +kernel
theorem dX8_load_50 : decode cX8_load 50 = .ok (.iload_n 1, 1) := by decide +kernel
theorem dX8_load_51 : decode cX8_load 51 = .ok (.iconst 2, 1) := by decide +kernel
theorem dX8_load_52 : decode cX8_load 52 = .ok (.if_icmp .eq 5, 3) := by decide +kernel
theorem dX8_load_55 : decode cX8_load 55 = .ok (.iconst (-1), 1) := by decide +kernel
theorem dX8_load_56 : decode cX8_load 56 = .ok (.ireturn, 1) := by decide +kernel
theorem dX8_load_57 : decode cX8_load 57 = .ok (.aload_n 0, 1) := by decide +kernel
theorem dX8_load_58 : decode cX8_load 58 = .ok (.aload_n 0, 1) := by decide +kernel
theorem dX8_load_59 : decode cX8_load 59 = .ok (.getfield 39, 3) := by decide +kernel
theorem dX8_load_62 : decode cX8_load 62 = .ok (.aload_n 0, 1) := by decide +kernel
theorem dX8_load_63 : decode cX8_load 63 = .ok (.getfield 42, 3) := by decide +kernel
theorem dX8_load_66 : decode cX8_load 66 = .ok (.iconst 0, 1) := by decide +kernel
theorem dX8_load_67 : decode cX8_load 67 = .ok (.invokevirtual 71, 3) := by decide +kernel
theorem dX8_load_70 : decode cX8_load 70 = .ok (.aload_n 0, 1) := by decide +kernel
theorem dX8_load_71 : decode cX8_load 71 = .ok (.invokevirtual 159, 3) := by decide +kernel
theorem dX8_load_74 : decode cX8_load 74 = .ok (.pop, 1) := by decide +kernel
theorem dX8_load_75 : decode cX8_load 75 = .ok (.aload_n 0, 1) := by decide +kernel
theorem dX8_load_76 : decode cX8_load 76 = .ok (.invokevirtual 272, 3) := by decide +kernel
theorem dX8_load_79 : decode cX8_load 79 = .ok (.istore_n 2, 1) := by decide +kernel
theorem dX8_load_80 : decode cX8_load 80 = .ok (.aload_n 0, 1) := by decide +kernel
theorem dX8_load_81 : decode cX8_load 81 = .ok (.aload_n 0, 1) := by decide +kernel
theorem dX8_load_82 : decode cX8_load 82 = .ok (.getfield 39, 3) := by decide +kernel
theorem dX8_load_85 : decode cX8_load 85 = .ok (.aload_n 0, 1) := by decide +kernel
theorem dX8_load_86 : decode cX8_load 86 = .ok (.getfield 42, 3) := by decide +kernel
theorem dX8_load_89 : decode cX8_load 89 = .ok (.iconst 0, 1) := by decide +kernel
theorem dX8_load_90 : decode cX8_load 90 = .ok (.invokevirtual 78, 3) := by decide +kernel
theorem dX8_load_93 : decode cX8_load 93 = .ok (.iload_n 2, 1) := by decide +kernel
theorem dX8_load_94 : decode cX8_load 94 = .ok (.ireturn, 1) := by decide +kernel
theorem dX8_packets_0 : decode cX8_packets 0 = .ok (.iconst 0, 1) := by decide +kernel
theorem dX8_packets_1 : decode cX8_packets 1 = .ok (.istore_n 1, 1) := by decide +kernel
theorem dX8_packets_2 : decode cX8_packets 2 = .ok (.iconst 0, 1) := by decide +kernel
theorem dX8_packets_3 : decode cX8_packets 3 = .ok (.istore_n 2, 1) := by decide +kernel
theorem dX8_packets_4 : decode cX8_packets 4 = .ok (.iload_n 2, 1) := by decide +kernel
theorem dX8_packets_5 : decode cX8_packets 5 = .ok (.iconst 4, 1) := by decide +kernel
theorem dX8_packets_6 : decode cX8_packets 6 = .ok (.if_icmp .ge 21, 3) := by decide +kernel
theorem dX8_packets_9 : decode cX8_packets 9 = .ok (.iload_n 1, 1) := by decide +kernel
theorem dX8_packets_10 : decode cX8_packets 10 = .ok (.aload_n 0, 1) := by decide +kernel
theorem dX8_packets_11 : decode cX8_packets 11 = .ok (.getfield 13, 3) := by decide +kernel
theorem dX8_packets_14 : decode cX8_packets 14 = .ok (.iload_n 2, 1) := by decide +kernel
theorem dX8_packets_15 : decode cX8_packets 15 = .ok (.invokestatic 57, 3) := by decide +kernel
theorem dX8_packets_18 : decode cX8_packets 18 = .ok (.iaload, 1) := by decide +kernel
theorem dX8_packets_19 : decode cX8_packets 19 = .ok (.iadd, 1) := by decide +kernel
theorem dX8_packets_20 : decode cX8_packets 20 = .ok (.istore_n 1, 1) := by decide +kernel
theorem dX8_packets_21 : decode cX8_packets 21 = .ok (.iinc 2 1, 3) := by decide +kernel
theorem dX8_packets_24 : decode cX8_packets 24 = .ok (.goto (-20), 3) := by decide +kernel
theorem dX8_packets_27 : decode cX8_packets 27 = .ok (.iload_n 1, 1) := by decide +kernel
theorem dX8_packets_28 : decode cX8_packets 28 = .ok (.ireturn, 1) := by decide +kernel
theorem dX8_would_0 : decode cX8_would 0 = .ok (.aload_n 0, 1) := by decide +kernel
theorem dX8_would_1 : decode cX8_would 1 = .ok (.iconst 0, 1) := by decide +kernel
theorem dX8_would_2 : decode cX8_would 2 = .ok (.putfield 61, 3) := by decide +kernel
theorem dX8_would_5 : decode cX8_would 5 = .ok (.iload_n 1, 1) := by decide +kernel
theorem dX8_would_6 : decode cX8_would 6 = .ok (.i2l, 1) := by decide +kernel
theorem dX8_would_7 : decode cX8_would 7 = .ok (.lconst 1, 1) := by decide +kernel
theorem dX8_would_8 : decode cX8_would 8 = .ok (.ldc2_w 234, 3) := by decide +kernel
theorem dX8_would_11 : decode cX8_would 11 = .ok (.invokestatic 84, 3) := by decide +kernel
theorem dX8_would_14 : decode cX8_would 14 = .ok (.ifCond .eq 29, 3) := by decide +kernel
theorem dX8_would_17 : decode cX8_would 17 = .ok (.aload_n 0, 1) := by decide +kernel
theorem dX8_would_18 : decode cX8_would 18 = .ok (.getfield 13, 3) := by decide +kernel
theorem dX8_would_21 : decode cX8_would 21 = .ok (.bipush 6, 2) := by decide +kernel
theorem dX8_would_23 : decode cX8_would 23 = .ok (.iaload, 1) := by decide +kernel
theorem dX8_would_24 : decode cX8_would 24 = .ok (.iload_n 1, 1) := by decide +kernel
theorem dX8_would_25 : decode cX8_would 25 = .ok (.iadd, 1) := by decide +kernel
theorem dX8_would_26 : decode cX8_would 26 = .ok (.ldc 236, 2) := by decide +kernel
theorem dX8_would_28 : decode cX8_would 28 = .ok (.if_icmp .gt 15, 3) := by decide +kernel
theorem dX8_would_31 : decode cX8_would 31 = .ok (.iload_n 2, 1) := by decide +kernel
theorem dX8_would_32 : decode cX8_would 32 = .ok (.i2l, 1) := by decide +kernel
theorem dX8_would_33 : decode cX8_would 33 = .ok (.lconst 0, 1) := by decide +kernel
theorem dX8_would_34 : decode cX8_would 34 = .ok (.ldc2_w 88, 3) := by decide +kernel
theorem dX8_would_37 : decode cX8_would 37 = .ok (.invokestatic 84, 3) := by decide +kernel
theorem dX8_would_40 : decode cX8_would 40 = .ok (.ifCond .ne 5, 3) := by decide +kernel
theorem dX8_would_43 : decode cX8_would 43 = .ok (.iconst (-1), 1) := by decide +kernel
theorem dX8_would_44 : decode cX8_would 44 = .ok (.ireturn, 1) := by decide +kernel
theorem dX8_would_45 : decode cX8_would 45 = .ok (.aload_n 0, 1) := by decide +kernel
theorem dX8_would_46 : decode cX8_would 46 = .ok (.aload_n 0, 1) := by decide +kernel
theorem dX8_would_47 : decode cX8_would 47 = .ok (.getfield 39, 3) := by decide +kernel
theorem dX8_would_50 : decode cX8_would 50 = .ok (.aload_n 0, 1) := by decide +kernel
theorem dX8_would_51 : decode cX8_would 51 = .ok (.getfield 42, 3) := by decide +kernel
theorem dX8_would_54 : decode cX8_would 54 = .ok (.iconst 0, 1) := by decide +kernel
theorem dX8_would_55 : decode cX8_would 55 = .ok (.invokevirtual 71, 3) := by decide +kernel
theorem dX8_would_58 : decode cX8_would 58 = .ok (.aload_n 0, 1) := by decide +kernel
theorem dX8_would_59 : decode cX8_would 59 = .ok (.iload_n 1, 1) := by decide +kernel
theorem dX8_would_60 : decode cX8_would 60 = .ok (.invokevirtual 237, 3) := by decide +kernel
theorem dX8_would_63 : decode cX8_would 63 = .ok (.iload_n 2, 1) := by decide +kernel
theorem dX8_would_64 : decode cX8_would 64 = .ok (.ifCond .ne 10, 3) := by decide +kernel
theorem dX8_would_67 : decode cX8_would 67 = .ok (.aload_n 0, 1) := by decide +kernel
theorem dX8_would_68 : decode cX8_would 68 = .ok (.invokevirtual 275, 3) := by decide +kernel
theorem dX8_would_71 : decode cX8_would 71 = .ok (.goto 33, 3) := by decide +kernel
theorem dX8_would_74 : decode cX8_would 74 = .ok (.iload_n 2, 1) := by decide +kernel
theorem dX8_would_75 : decode cX8_would 75 = .ok (.iconst 1, 1) := by decide +kernel
theorem dX8_would_76 : decode cX8_would 76 = .ok (.if_icmp .ne 10, 3) := by decide +kernel
theorem dX8_would_79 : decode cX8_would 79 = .ok (.aload_n 0, 1) := by decide +kernel
theorem dX8_would_80 : decode cX8_would 80 = .ok (.getfield 209, 3) := by decide +kernel
theorem dX8_would_83 : decode cX8_would 83 = .ok (.goto 21, 3) := by decide +kernel
theorem dX8_would_86 : decode cX8_would 86 = .ok (.iload_n 2, 1) := by decide +kernel
theorem dX8_would_87 : decode cX8_would 87 = .ok (.iconst 2, 1) := by decide +kernel
theorem dX8_would_88 : decode cX8_would 88 = .ok (.if_icmp .ne 10, 3) := by decide +kernel
theorem dX8_would_91 : decode cX8_would 91 = .ok (.aload_n 0, 1) := by decide +kernel
theorem dX8_would_92 : decode cX8_would 92 = .ok (.getfield 222, 3) := by decide +kernel
theorem dX8_would_95 : decode cX8_would 95 = .ok (.goto 9, 3) := by decide +kernel
theorem dX8_would_98 : decode cX8_would 98 = .ok (.aload_n 0, 1) := by decide +kernel
theorem dX8_would_99 : decode cX8_would 99 = .ok (.getfield 13, 3) := by decide +kernel
theorem dX8_would_102 : decode cX8_would 102 = .ok (.iconst 5, 1) := by decide +kernel
theorem dX8_would_103 : decode cX8_would 103 = .ok (.iaload, 1) := by decide +kernel
theorem dX8_would_104 : decode cX8_would 104 = .ok (.istore_n 3, 1) := by decide +kernel
theorem dX8_would_105 : decode cX8_would 105 = .ok (.aload_n 0, 1) := by decide +kernel
theorem dX8_would_106 : decode cX8_would 106 = .ok (.aload_n 0, 1) := by decide +kernel
theorem dX8_would_107 : decode cX8_would 107 = .ok (.getfield 39, 3) := by decide +kernel
theorem dX8_would_110 : decode cX8_would 110 = .ok (.aload_n 0, 1) := by decide +kernel
theorem dX8_would_111 : decode cX8_would 111 = .ok (.getfield 42, 3) := by decide +kernel
theorem dX8_would_114 : decode cX8_would 114 = .ok (.iconst 0, 1) := by decide +kernel
theorem dX8_would_115 : decode cX8_would 115 = .ok (.invokevirtual 78, 3) := by decide +kernel
theorem dX8_would_118 : decode cX8_would 118 = .ok (.iload_n 3, 1) := by decide +kernel
theorem dX8_would_119 : decode cX8_would 119 = .ok (.ireturn, 1) := by decide +kernel
theorem dX8_drain_0 : decode cX8_drain 0 = .ok (.aload_n 0, 1) := by decide +kernel
theorem dX8_drain_1 : decode cX8_drain 1 = .ok (.iconst 0, 1) := by decide +kernel
theorem dX8_drain_2 : decode cX8_drain 2 = .ok (.putfield 61, 3) := by decide +kernel
theorem dX8_drain_5 : decode cX8_drain 5 = .ok (.aload_n 0, 1) := by decide +kernel
theorem dX8_drain_6 : decode cX8_drain 6 = .ok (.aload_n 0, 1) := by decide +kernel
theorem dX8_drain_7 : decode cX8_drain 7 = .ok (.getfield 39, 3) := by decide +kernel
theorem dX8_drain_10 : decode cX8_drain 10 = .ok (.aload_n 0, 1) := by decide +kernel
theorem dX8_drain_11 : decode cX8_drain 11 = .ok (.getfield 42, 3) := by decide +kernel
theorem dX8_drain_14 : decode cX8_drain 14 = .ok (.iconst 0, 1) := by decide +kernel
theorem dX8_drain_15 : decode cX8_drain 15 = .ok (.invokevirtual 71, 3) := by decide +kernel
theorem dX8_drain_18 : decode cX8_drain 18 = .ok (.iconst 0, 1) := by decide +kernel
theorem dX8_drain_19 : decode cX8_drain 19 = .ok (.istore_n 1, 1) := by decide +kernel
theorem dX8_drain_20 : decode cX8_drain 20 = .ok (.aload_n 0, 1) := by decide +kernel
theorem dX8_drain_21 : decode cX8_drain 21 = .ok (.invokevirtual 275, 3) := by decide +kernel
theorem dX8_drain_24 : decode cX8_drain 24 = .ok (.ifCond .le 32, 3) := by decide +kernel
theorem dX8_drain_27 : decode cX8_drain 27 = .ok (.iload_n 1, 1) := by decide +kernel
theorem dX8_drain_28 : decode cX8_drain 28 = .ok (.sipush 200, 3) := by decide +kernel
theorem dX8_drain_31 : decode cX8_drain 31 = .ok (.if_icmp .ge 25, 3) := by decide +kernel
theorem dX8_drain_34 : decode cX8_drain 34 = .ok (.aload_n 0, 1) := by decide +kernel
theorem dX8_drain_35 : decode cX8_drain 35 = .ok (.getfield 13, 3) := by decide +kernel
theorem dX8_drain_38 : decode cX8_drain 38 = .ok (.bipush 6, 2) := by decide +kernel
theorem dX8_drain_40 : decode cX8_drain 40 = .ok (.iaload, 1) := by decide +kernel
theorem dX8_drain_41 : decode cX8_drain 41 = .ok (.ldc 236, 2) := by decide +kernel
theorem dX8_drain_43 : decode cX8_drain 43 = .ok (.if_icmp .ge 13, 3) := by decide +kernel
theorem dX8_drain_46 : decode cX8_drain 46 = .ok (.aload_n 0, 1) := by decide +kernel
theorem dX8_drain_47 : decode cX8_drain 47 = .ok (.invokevirtual 231, 3) := by decide +kernel
theorem dX8_drain_50 : decode cX8_drain 50 = .ok (.iinc 1 1, 3) := by decide +kernel
theorem dX8_drain_53 : decode cX8_drain 53 = .ok (.goto (-33), 3) := by decide +kernel
theorem dX8_drain_56 : decode cX8_drain 56 = .ok (.aload_n 0, 1) := by decide +kernel
theorem dX8_drain_57 : decode cX8_drain 57 = .ok (.invokevirtual 275, 3) := by decide +kernel
theorem dX8_drain_60 : decode cX8_drain 60 = .ok (.ifCond .le 7, 3) := by decide +kernel
theorem dX8_drain_63 : decode cX8_drain 63 = .ok (.iconst (-1), 1) := by decide +kernel
theorem dX8_drain_64 : decode cX8_drain 64 = .ok (.goto 4, 3) := by decide +kernel
theorem dX8_drain_67 : decode cX8_drain 67 = .ok (.iload_n 1, 1) := by decide +kernel
theorem dX8_drain_68 : decode cX8_drain 68 = .ok (.istore_n 2, 1) := by decide +kernel
theorem dX8_drain_69 : decode cX8_drain 69 = .ok (.aload_n 0, 1) := by decide +kernel
theorem dX8_drain_70 : decode cX8_drain 70 = .ok (.aload_n 0, 1) := by decide +kernel
theorem dX8_drain_71 : decode cX8_drain 71 = .ok (.getfield 39, 3) := by decide +kernel
theorem dX8_drain_74 : decode cX8_drain 74 = .ok (.aload_n 0, 1) := by decide +kernel
theorem dX8_drain_75 : decode cX8_drain 75 = .ok (.getfield 42, 3) := by decide +kernel
theorem dX8_drain_78 : decode cX8_drain 78 = .ok (.iconst 0, 1) := by decide +kernel
theorem dX8_drain_79 : decode cX8_drain 79 = .ok (.invokevirtual 78, 3) := by decide +kernel
theorem dX8_drain_82 : decode cX8_drain 82 = .ok (.iload_n 2, 1) := by decide +kernel
theorem dX8_drain_83 : decode cX8_drain 83 = .ok (.ireturn, 1) := by decide +kernel
theorem dX8_nextCall_0 : decode cX8_nextCall 0 = .ok (.aload_n 0, 1) := by decide +kernel
theorem dX8_nextCall_1 : decode cX8_nextCall 1 = .ok (.iconst 0, 1) := by decide +kernel
theorem dX8_nextCall_2 : decode cX8_nextCall 2 = .ok (.putfield 61, 3) := by decide +kernel
theorem dX8_nextCall_5 : decode cX8_nextCall 5 = .ok (.iload_n 1, 1) := by decide +kernel
theorem dX8_nextCall_6 : decode cX8_nextCall 6 = .ok (.invokestatic 150, 3) := by decide +kernel
theorem dX8_nextCall_9 : decode cX8_nextCall 9 = .ok (.ifCond .eq 15, 3) := by decide +kernel
theorem dX8_nextCall_12 : decode cX8_nextCall 12 = .ok (.aload_n 0, 1) := by decide +kernel
theorem dX8_nextCall_13 : decode cX8_nextCall 13 = .ok (.getfield 13, 3) := by decide +kernel
theorem dX8_nextCall_16 : decode cX8_nextCall 16 = .ok (.iload_n 1, 1) := by decide +kernel
theorem dX8_nextCall_17 : decode cX8_nextCall 17 = .ok (.invokestatic 57, 3) := by decide +kernel
theorem dX8_nextCall_20 : decode cX8_nextCall 20 = .ok (.iaload, 1) := by decide +kernel
theorem dX8_nextCall_21 : decode cX8_nextCall 21 = .ok (.ifCond .ne 5, 3) := by decide +kernel
theorem dX8_nextCall_24 : decode cX8_nextCall 24 = .ok (.iconst (-1), 1) := by decide +kernel
theorem dX8_nextCall_25 : decode cX8_nextCall 25 = .ok (.ireturn, 1) := by decide +kernel
theorem dX8_nextCall_26 : decode cX8_nextCall 26 = .ok (.aload_n 0, 1) := by decide +kernel
theorem dX8_nextCall_27 : decode cX8_nextCall 27 = .ok (.aload_n 0, 1) := by decide +kernel
theorem dX8_nextCall_28 : decode cX8_nextCall 28 = .ok (.getfield 39, 3) := by decide +kernel
theorem dX8_nextCall_31 : decode cX8_nextCall 31 = .ok (.aload_n 0, 1) := by decide +kernel
theorem dX8_nextCall_32 : decode cX8_nextCall 32 = .ok (.getfield 42, 3) := by decide +kernel
theorem dX8_nextCall_35 : decode cX8_nextCall 35 = .ok (.iconst 0, 1) := by decide +kernel
theorem dX8_nextCall_36 : decode cX8_nextCall 36 = .ok (.invokevirtual 71, 3) := by decide +kernel
theorem dX8_nextCall_39 : decode cX8_nextCall 39 = .ok (.aload_n 0, 1) := by decide +kernel
theorem dX8_nextCall_40 : decode cX8_nextCall 40 = .ok (.getfield 13, 3) := by decide +kernel
theorem dX8_nextCall_43 : decode cX8_nextCall 43 = .ok (.iload_n 1, 1) := by decide +kernel
theorem dX8_nextCall_44 : decode cX8_nextCall 44 = .ok (.invokestatic 57, 3) := by decide +kernel
theorem dX8_nextCall_47 : decode cX8_nextCall 47 = .ok (.iconst 3, 1) := by decide +kernel
theorem dX8_nextCall_48 : decode cX8_nextCall 48 = .ok (.iadd, 1) := by decide +kernel
theorem dX8_nextCall_49 : decode cX8_nextCall 49 = .ok (.iaload, 1) := by decide +kernel
theorem dX8_nextCall_50 : decode cX8_nextCall 50 = .ok (.istore_n 2, 1) := by decide +kernel
theorem dX8_nextCall_51 : decode cX8_nextCall 51 = .ok (.iconst 0, 1) := by decide +kernel
theorem dX8_nextCall_52 : decode cX8_nextCall 52 = .ok (.istore_n 3, 1) := by decide +kernel
theorem dX8_nextCall_53 : decode cX8_nextCall 53 = .ok (.aload_n 0, 1) := by decide +kernel
theorem dX8_nextCall_54 : decode cX8_nextCall 54 = .ok (.getfield 13, 3) := by decide +kernel
theorem dX8_nextCall_57 : decode cX8_nextCall 57 = .ok (.iload_n 1, 1) := by decide +kernel
theorem dX8_nextCall_58 : decode cX8_nextCall 58 = .ok (.invokestatic 57, 3) := by decide +kernel
theorem dX8_nextCall_61 : decode cX8_nextCall 61 = .ok (.iconst 3, 1) := by decide +kernel
theorem dX8_nextCall_62 : decode cX8_nextCall 62 = .ok (.iadd, 1) := by decide +kernel
theorem dX8_nextCall_63 : decode cX8_nextCall 63 = .ok (.iaload, 1) := by decide +kernel
theorem dX8_nextCall_64 : decode cX8_nextCall 64 = .ok (.iload_n 2, 1) := by decide +kernel
theorem dX8_nextCall_65 : decode cX8_nextCall 65 = .ok (.if_icmp .ne 25, 3) := by decide +kernel
theorem dX8_nextCall_68 : decode cX8_nextCall 68 = .ok (.aload_n 0, 1) := by decide +kernel
theorem dX8_nextCall_69 : decode cX8_nextCall 69 = .ok (.getfield 13, 3) := by decide +kernel
theorem dX8_nextCall_72 : decode cX8_nextCall 72 = .ok (.bipush 6, 2) := by decide +kernel
theorem dX8_nextCall_74 : decode cX8_nextCall 74 = .ok (.iaload, 1) := by decide +kernel
theorem dX8_nextCall_75 : decode cX8_nextCall 75 = .ok (.ldc 236, 2) := by decide +kernel
theorem dX8_nextCall_77 : decode cX8_nextCall 77 = .ok (.if_icmp .ge 13, 3) := by decide +kernel
theorem dX8_nextCall_80 : decode cX8_nextCall 80 = .ok (.aload_n 0, 1) := by decide +kernel
theorem dX8_nextCall_81 : decode cX8_nextCall 81 = .ok (.invokevirtual 231, 3) := by decide +kernel
theorem dX8_nextCall_84 : decode cX8_nextCall 84 = .ok (.iinc 3 1, 3) := by decide +kernel
theorem dX8_nextCall_87 : decode cX8_nextCall 87 = .ok (.goto (-34), 3) := by decide +kernel
theorem dX8_nextCall_90 : decode cX8_nextCall 90 = .ok (.aload_n 0, 1) := by decide +kernel
theorem dX8_nextCall_91 : decode cX8_nextCall 91 = .ok (.getfield 13, 3) := by decide +kernel
theorem dX8_nextCall_94 : decode cX8_nextCall 94 = .ok (.iload_n 1, 1) := by decide +kernel
theorem dX8_nextCall_95 : decode cX8_nextCall 95 = .ok (.invokestatic 57, 3) := by decide +kernel
theorem dX8_nextCall_98 : decode cX8_nextCall 98 = .ok (.iconst 3, 1) := by decide +kernel
theorem dX8_nextCall_99 : decode cX8_nextCall 99 = .ok (.iadd, 1) := by decide +kernel
theorem dX8_nextCall_100 : decode cX8_nextCall 100 = .ok (.iaload, 1) := by decide +kernel
theorem dX8_nextCall_101 : decode cX8_nextCall 101 = .ok (.iload_n 2, 1) := by decide +kernel
theorem dX8_nextCall_102 : decode cX8_nextCall 102 = .ok (.if_icmp .ne 7, 3) := by decide +kernel
theorem dX8_nextCall_105 : decode cX8_nextCall 105 = .ok (.iconst (-1), 1) := by decide +kernel
theorem dX8_nextCall_106 : decode cX8_nextCall 106 = .ok (.goto 4, 3) := by decide +kernel
theorem dX8_nextCall_109 : decode cX8_nextCall 109 = .ok (.iload_n 3, 1) := by decide +kernel
theorem dX8_nextCall_110 : decode cX8_nextCall 110 = .ok (.istore 4, 2) := by decide +kernel
theorem dX8_nextCall_112 : decode cX8_nextCall 112 = .ok (.aload_n 0, 1) := by decide +kernel
theorem dX8_nextCall_113 : decode cX8_nextCall 113 = .ok (.aload_n 0, 1) := by decide +kernel
theorem dX8_nextCall_114 : decode cX8_nextCall 114 = .ok (.getfield 39, 3) := by decide +kernel
theorem dX8_nextCall_117 : decode cX8_nextCall 117 = .ok (.aload_n 0, 1) := by decide +kernel
theorem dX8_nextCall_118 : decode cX8_nextCall 118 = .ok (.getfield 42, 3) := by decide +kernel
theorem dX8_nextCall_121 : decode cX8_nextCall 121 = .ok (.iconst 0, 1) := by decide +kernel
theorem dX8_nextCall_122 : decode cX8_nextCall 122 = .ok (.invokevirtual 78, 3) := by decide +kernel
theorem dX8_nextCall_125 : decode cX8_nextCall 125 = .ok (.iload 4, 2) := by decide +kernel
theorem dX8_nextCall_127 : decode cX8_nextCall 127 = .ok (.ireturn, 1) := by decide +kernel
theorem dX8_joined_0 : decode cX8_joined 0 = .ok (.aload_n 0, 1) := by decide +kernel
theorem dX8_joined_1 : decode cX8_joined 1 = .ok (.iconst 0, 1) := by decide +kernel
theorem dX8_joined_2 : decode cX8_joined 2 = .ok (.putfield 61, 3) := by decide +kernel
theorem dX8_joined_5 : decode cX8_joined 5 = .ok (.iload_n 1, 1) := by decide +kernel
theorem dX8_joined_6 : decode cX8_joined 6 = .ok (.invokestatic 150, 3) := by decide +kernel
theorem dX8_joined_9 : decode cX8_joined 9 = .ok (.ifCond .eq 15, 3) := by decide +kernel
theorem dX8_joined_12 : decode cX8_joined 12 = .ok (.iload_n 2, 1) := by decide +kernel
theorem dX8_joined_13 : decode cX8_joined 13 = .ok (.i2l, 1) := by decide +kernel
theorem dX8_joined_14 : decode cX8_joined 14 = .ok (.lconst 0, 1) := by decide +kernel
theorem dX8_joined_15 : decode cX8_joined 15 = .ok (.ldc2_w 245, 3) := by decide +kernel
theorem dX8_joined_18 : decode cX8_joined 18 = .ok (.invokestatic 84, 3) := by decide +kernel
theorem dX8_joined_21 : decode cX8_joined 21 = .ok (.ifCond .ne 5, 3) := by decide +kernel
theorem dX8_joined_24 : decode cX8_joined 24 = .ok (.iconst (-1), 1) := by decide +kernel
theorem dX8_joined_25 : decode cX8_joined 25 = .ok (.ireturn, 1) := by decide +kernel
theorem dX8_joined_26 : decode cX8_joined 26 = .ok (.aload_n 0, 1) := by decide +kernel
theorem dX8_joined_27 : decode cX8_joined 27 = .ok (.aload_n 0, 1) := by decide +kernel
theorem dX8_joined_28 : decode cX8_joined 28 = .ok (.getfield 39, 3) := by decide +kernel
theorem dX8_joined_31 : decode cX8_joined 31 = .ok (.aload_n 0, 1) := by decide +kernel
theorem dX8_joined_32 : decode cX8_joined 32 = .ok (.getfield 42, 3) := by decide +kernel
theorem dX8_joined_35 : decode cX8_joined 35 = .ok (.iconst 0, 1) := by decide +kernel
theorem dX8_joined_36 : decode cX8_joined 36 = .ok (.invokevirtual 71, 3) := by decide +kernel
theorem dX8_joined_39 : decode cX8_joined 39 = .ok (.aload_n 0, 1) := by decide +kernel
theorem dX8_joined_40 : decode cX8_joined 40 = .ok (.getfield 13, 3) := by decide +kernel
theorem dX8_joined_43 : decode cX8_joined 43 = .ok (.bipush 17, 2) := by decide +kernel
theorem dX8_joined_45 : decode cX8_joined 45 = .ok (.iload_n 2, 1) := by decide +kernel
theorem dX8_joined_46 : decode cX8_joined 46 = .ok (.ifCond .ne 13, 3) := by decide +kernel
theorem dX8_joined_49 : decode cX8_joined 49 = .ok (.aload_n 0, 1) := by decide +kernel
theorem dX8_joined_50 : decode cX8_joined 50 = .ok (.getfield 13, 3) := by decide +kernel
theorem dX8_joined_53 : decode cX8_joined 53 = .ok (.bipush 17, 2) := by decide +kernel
theorem dX8_joined_55 : decode cX8_joined 55 = .ok (.iaload, 1) := by decide +kernel
theorem dX8_joined_56 : decode cX8_joined 56 = .ok (.goto 15, 3) := by decide +kernel
theorem dX8_joined_59 : decode cX8_joined 59 = .ok (.iload_n 2, 1) := by decide +kernel
theorem dX8_joined_60 : decode cX8_joined 60 = .ok (.iconst 1, 1) := by decide +kernel
theorem dX8_joined_61 : decode cX8_joined 61 = .ok (.if_icmp .ne 9, 3) := by decide +kernel
theorem dX8_joined_64 : decode cX8_joined 64 = .ok (.sipush 9999, 3) := by decide +kernel
theorem dX8_joined_67 : decode cX8_joined 67 = .ok (.goto 4, 3) := by decide +kernel
theorem dX8_joined_70 : decode cX8_joined 70 = .ok (.iconst 1, 1) := by decide +kernel
theorem dX8_joined_71 : decode cX8_joined 71 = .ok (.iastore, 1) := by decide +kernel
theorem dX8_joined_72 : decode cX8_joined 72 = .ok (.aload_n 0, 1) := by decide +kernel
theorem dX8_joined_73 : decode cX8_joined 73 = .ok (.iconst 0, 1) := by decide +kernel
theorem dX8_joined_74 : decode cX8_joined 74 = .ok (.putfield 209, 3) := by decide +kernel
theorem dX8_joined_77 : decode cX8_joined 77 = .ok (.aload_n 0, 1) := by decide +kernel
theorem dX8_joined_78 : decode cX8_joined 78 = .ok (.getfield 13, 3) := by decide +kernel
theorem dX8_joined_81 : decode cX8_joined 81 = .ok (.iload_n 1, 1) := by decide +kernel
theorem dX8_joined_82 : decode cX8_joined 82 = .ok (.invokestatic 57, 3) := by decide +kernel
theorem dX8_joined_85 : decode cX8_joined 85 = .ok (.iaload, 1) := by decide +kernel
theorem dX8_joined_86 : decode cX8_joined 86 = .ok (.ifCond .le 12, 3) := by decide +kernel
theorem dX8_joined_89 : decode cX8_joined 89 = .ok (.aload_n 0, 1) := by decide +kernel
theorem dX8_joined_90 : decode cX8_joined 90 = .ok (.iload_n 1, 1) := by decide +kernel
theorem dX8_joined_91 : decode cX8_joined 91 = .ok (.invokevirtual 225, 3) := by decide +kernel
theorem dX8_joined_94 : decode cX8_joined 94 = .ok (.pop, 1) := by decide +kernel
theorem dX8_joined_95 : decode cX8_joined 95 = .ok (.goto (-18), 3) := by decide +kernel
theorem dX8_joined_98 : decode cX8_joined 98 = .ok (.aload_n 0, 1) := by decide +kernel
theorem dX8_joined_99 : decode cX8_joined 99 = .ok (.aload_n 0, 1) := by decide +kernel
theorem dX8_joined_100 : decode cX8_joined 100 = .ok (.getfield 39, 3) := by decide +kernel
theorem dX8_joined_103 : decode cX8_joined 103 = .ok (.aload_n 0, 1) := by decide +kernel
theorem dX8_joined_104 : decode cX8_joined 104 = .ok (.getfield 42, 3) := by decide +kernel
theorem dX8_joined_107 : decode cX8_joined 107 = .ok (.iconst 0, 1) := by decide +kernel
theorem dX8_joined_108 : decode cX8_joined 108 = .ok (.invokevirtual 78, 3) := by decide +kernel
theorem dX8_joined_111 : decode cX8_joined 111 = .ok (.aload_n 0, 1) := by decide +kernel
theorem dX8_joined_112 : decode cX8_joined 112 = .ok (.getfield 209, 3) := by decide +kernel
theorem dX8_joined_115 : decode cX8_joined 115 = .ok (.ireturn, 1) := by decide +kernel
theorem dX8_count_0 : decode cX8_count 0 = .ok (.aload_n 0, 1) := by decide +kernel
theorem dX8_count_1 : decode cX8_count 1 = .ok (.iconst 0, 1) := by decide +kernel
theorem dX8_count_2 : decode cX8_count 2 = .ok (.putfield 61, 3) := by decide +kernel
theorem dX8_count_5 : decode cX8_count 5 = .ok (.iload_n 1, 1) := by decide +kernel
theorem dX8_count_6 : decode cX8_count 6 = .ok (.tableswitch 229 0 24 #[114, 122, 129, 136, 143, 148, 156, 164, 172, 180, 185, 192, 199, 206, 229, 229, 229, 229, 229, 229, 229, 229, 229, 213, 221], 114) := by decide +kernel
theorem dX8_count_120 : decode cX8_count 120 = .ok (.aload_n 0, 1) := by decide +kernel
theorem dX8_count_121 : decode cX8_count 121 = .ok (.getfield 13, 3) := by decide +kernel
theorem dX8_count_124 : decode cX8_count 124 = .ok (.bipush 6, 2) := by decide +kernel
theorem dX8_count_126 : decode cX8_count 126 = .ok (.iaload, 1) := by decide +kernel
theorem dX8_count_127 : decode cX8_count 127 = .ok (.ireturn, 1) := by decide +kernel
theorem dX8_count_128 : decode cX8_count 128 = .ok (.aload_n 0, 1) := by decide +kernel
theorem dX8_count_129 : decode cX8_count 129 = .ok (.getfield 13, 3) := by decide +kernel
theorem dX8_count_132 : decode cX8_count 132 = .ok (.iconst 4, 1) := by decide +kernel
theorem dX8_count_133 : decode cX8_count 133 = .ok (.iaload, 1) := by decide +kernel
theorem dX8_count_134 : decode cX8_count 134 = .ok (.ireturn, 1) := by decide +kernel
theorem dX8_count_135 : decode cX8_count 135 = .ok (.aload_n 0, 1) := by decide +kernel
theorem dX8_count_136 : decode cX8_count 136 = .ok (.getfield 13, 3) := by decide +kernel
theorem dX8_count_139 : decode cX8_count 139 = .ok (.iconst 5, 1) := by decide +kernel
theorem dX8_count_140 : decode cX8_count 140 = .ok (.iaload, 1) := by decide +kernel
theorem dX8_count_141 : decode cX8_count 141 = .ok (.ireturn, 1) := by decide +kernel
theorem dX8_count_142 : decode cX8_count 142 = .ok (.aload_n 0, 1) := by decide +kernel
theorem dX8_count_143 : decode cX8_count 143 = .ok (.getfield 13, 3) := by decide +kernel
theorem dX8_count_146 : decode cX8_count 146 = .ok (.iconst 3, 1) := by decide +kernel
theorem dX8_count_147 : decode cX8_count 147 = .ok (.iaload, 1) := by decide +kernel
theorem dX8_count_148 : decode cX8_count 148 = .ok (.ireturn, 1) := by decide +kernel
theorem dX8_count_149 : decode cX8_count 149 = .ok (.aload_n 0, 1) := by decide +kernel
theorem dX8_count_150 : decode cX8_count 150 = .ok (.invokevirtual 275, 3) := by decide +kernel
theorem dX8_count_153 : decode cX8_count 153 = .ok (.ireturn, 1) := by decide +kernel
theorem dX8_count_154 : decode cX8_count 154 = .ok (.aload_n 0, 1) := by decide +kernel
theorem dX8_count_155 : decode cX8_count 155 = .ok (.getfield 13, 3) := by decide +kernel
theorem dX8_count_158 : decode cX8_count 158 = .ok (.bipush 7, 2) := by decide +kernel
theorem dX8_count_160 : decode cX8_count 160 = .ok (.iaload, 1) := by decide +kernel
theorem dX8_count_161 : decode cX8_count 161 = .ok (.ireturn, 1) := by decide +kernel
theorem dX8_count_162 : decode cX8_count 162 = .ok (.aload_n 0, 1) := by decide +kernel
theorem dX8_count_163 : decode cX8_count 163 = .ok (.getfield 13, 3) := by decide +kernel
theorem dX8_count_166 : decode cX8_count 166 = .ok (.bipush 8, 2) := by decide +kernel
theorem dX8_count_168 : decode cX8_count 168 = .ok (.iaload, 1) := by decide +kernel
theorem dX8_count_169 : decode cX8_count 169 = .ok (.ireturn, 1) := by decide +kernel
theorem dX8_count_170 : decode cX8_count 170 = .ok (.aload_n 0, 1) := by decide +kernel
theorem dX8_count_171 : decode cX8_count 171 = .ok (.getfield 13, 3) := by decide +kernel
theorem dX8_count_174 : decode cX8_count 174 = .ok (.bipush 9, 2) := by decide +kernel
theorem dX8_count_176 : decode cX8_count 176 = .ok (.iaload, 1) := by decide +kernel
theorem dX8_count_177 : decode cX8_count 177 = .ok (.ireturn, 1) := by decide +kernel
theorem dX8_count_178 : decode cX8_count 178 = .ok (.aload_n 0, 1) := by decide +kernel
theorem dX8_count_179 : decode cX8_count 179 = .ok (.getfield 13, 3) := by decide +kernel
theorem dX8_count_182 : decode cX8_count 182 = .ok (.bipush 10, 2) := by decide +kernel
theorem dX8_count_184 : decode cX8_count 184 = .ok (.iaload, 1) := by decide +kernel
theorem dX8_count_185 : decode cX8_count 185 = .ok (.ireturn, 1) := by decide +kernel
theorem dX8_count_186 : decode cX8_count 186 = .ok (.aload_n 0, 1) := by decide +kernel
theorem dX8_count_187 : decode cX8_count 187 = .ok (.getfield 68, 3) := by decide +kernel
theorem dX8_count_190 : decode cX8_count 190 = .ok (.ireturn, 1) := by decide +kernel
theorem dX8_count_191 : decode cX8_count 191 = .ok (.aload_n 0, 1) := by decide +kernel
theorem dX8_count_192 : decode cX8_count 192 = .ok (.getfield 7, 3) := by decide +kernel
theorem dX8_count_195 : decode cX8_count 195 = .ok (.iconst 1, 1) := by decide +kernel
theorem dX8_count_196 : decode cX8_count 196 = .ok (.iaload, 1) := by decide +kernel
theorem dX8_count_197 : decode cX8_count 197 = .ok (.ireturn, 1) := by decide +kernel
theorem dX8_count_198 : decode cX8_count 198 = .ok (.aload_n 0, 1) := by decide +kernel
theorem dX8_count_199 : decode cX8_count 199 = .ok (.getfield 7, 3) := by decide +kernel
theorem dX8_count_202 : decode cX8_count 202 = .ok (.iconst 2, 1) := by decide +kernel
theorem dX8_count_203 : decode cX8_count 203 = .ok (.iaload, 1) := by decide +kernel
theorem dX8_count_204 : decode cX8_count 204 = .ok (.ireturn, 1) := by decide +kernel
theorem dX8_count_205 : decode cX8_count 205 = .ok (.aload_n 0, 1) := by decide +kernel
theorem dX8_count_206 : decode cX8_count 206 = .ok (.getfield 7, 3) := by decide +kernel
theorem dX8_count_209 : decode cX8_count 209 = .ok (.iconst 4, 1) := by decide +kernel
theorem dX8_count_210 : decode cX8_count 210 = .ok (.iaload, 1) := by decide +kernel
theorem dX8_count_211 : decode cX8_count 211 = .ok (.ireturn, 1) := by decide +kernel
theorem dX8_count_212 : decode cX8_count 212 = .ok (.aload_n 0, 1) := by decide +kernel
theorem dX8_count_213 : decode cX8_count 213 = .ok (.getfield 7, 3) := by decide +kernel
theorem dX8_count_216 : decode cX8_count 216 = .ok (.iconst 5, 1) := by decide +kernel
theorem dX8_count_217 : decode cX8_count 217 = .ok (.iaload, 1) := by decide +kernel
theorem dX8_count_218 : decode cX8_count 218 = .ok (.ireturn, 1) := by decide +kernel
theorem dX8_count_219 : decode cX8_count 219 = .ok (.aload_n 0, 1) := by decide +kernel
theorem dX8_count_220 : decode cX8_count 220 = .ok (.getfield 13, 3) := by decide +kernel
theorem dX8_count_223 : decode cX8_count 223 = .ok (.bipush 11, 2) := by decide +kernel
theorem dX8_count_225 : decode cX8_count 225 = .ok (.iaload, 1) := by decide +kernel
theorem dX8_count_226 : decode cX8_count 226 = .ok (.ireturn, 1) := by decide +kernel
theorem dX8_count_227 : decode cX8_count 227 = .ok (.aload_n 0, 1) := by decide +kernel
theorem dX8_count_228 : decode cX8_count 228 = .ok (.getfield 13, 3) := by decide +kernel
theorem dX8_count_231 : decode cX8_count 231 = .ok (.bipush 12, 2) := by decide +kernel
theorem dX8_count_233 : decode cX8_count 233 = .ok (.iaload, 1) := by decide +kernel
theorem dX8_count_234 : decode cX8_count 234 = .ok (.ireturn, 1) := by decide +kernel
theorem dX8_count_235 : decode cX8_count 235 = .ok (.iload_n 1, 1) := by decide +kernel
theorem dX8_count_236 : decode cX8_count 236 = .ok (.i2l, 1) := by decide +kernel
theorem dX8_count_237 : decode cX8_count 237 = .ok (.ldc2_w 278, 3) := by decide +kernel
theorem dX8_count_240 : decode cX8_count 240 = .ok (.ldc2_w 280, 3) := by decide +kernel
theorem dX8_count_243 : decode cX8_count 243 = .ok (.invokestatic 84, 3) := by decide +kernel
theorem dX8_count_246 : decode cX8_count 246 = .ok (.ifCond .eq 18, 3) := by decide +kernel
theorem dX8_count_249 : decode cX8_count 249 = .ok (.aload_n 0, 1) := by decide +kernel
theorem dX8_count_250 : decode cX8_count 250 = .ok (.getfield 13, 3) := by decide +kernel
theorem dX8_count_253 : decode cX8_count 253 = .ok (.bipush 14, 2) := by decide +kernel
theorem dX8_count_255 : decode cX8_count 255 = .ok (.iload_n 1, 1) := by decide +kernel
theorem dX8_count_256 : decode cX8_count 256 = .ok (.iadd, 1) := by decide +kernel
theorem dX8_count_257 : decode cX8_count 257 = .ok (.bipush 14, 2) := by decide +kernel
theorem dX8_count_259 : decode cX8_count 259 = .ok (.isub, 1) := by decide +kernel
theorem dX8_count_260 : decode cX8_count 260 = .ok (.iaload, 1) := by decide +kernel
theorem dX8_count_261 : decode cX8_count 261 = .ok (.goto 4, 3) := by decide +kernel
theorem dX8_count_264 : decode cX8_count 264 = .ok (.iconst (-1), 1) := by decide +kernel
theorem dX8_count_265 : decode cX8_count 265 = .ok (.ireturn, 1) := by decide +kernel
theorem dX8_status_0 : decode cX8_status 0 = .ok (.aload_n 0, 1) := by decide +kernel
theorem dX8_status_1 : decode cX8_status 1 = .ok (.iconst 0, 1) := by decide +kernel
theorem dX8_status_2 : decode cX8_status 2 = .ok (.putfield 61, 3) := by decide +kernel
theorem dX8_status_5 : decode cX8_status 5 = .ok (.aload_n 0, 1) := by decide +kernel
theorem dX8_status_6 : decode cX8_status 6 = .ok (.getfield 65, 3) := by decide +kernel
theorem dX8_status_9 : decode cX8_status 9 = .ok (.ireturn, 1) := by decide +kernel
end
section
-- base: the tables' words for every method, the judgement zJ over worlds, a row an instruction, a row a call
def zW : List Cond := lw_tbl.filter goodWord
theorem zW_in {w : Cond} (h : w ∈ lw_tbl) (hg : goodWord w = true) : w ∈ zW := List.mem_filter.mpr ⟨h, hg⟩
theorem zW_at (i : Nat) {w : Cond} (h : lw_tbl[i]? = some w) (hg : goodWord w = true) : w ∈ zW := zW_in (List.mem_of_getElem? h) hg
abbrev zws (y : MethodName) (cc : ByteArray) (n : Nat) (ret : Option FieldType) : List Cond := .code y cc n ret :: zW
theorem zgood {y : MethodName} {cc : ByteArray} {n : Nat} {ret : Option FieldType} (h : Cond.code y cc n ret ∈ zW) : GoodIn zW (zws y cc n ret) := by
  intro w hw
  have hm : w ∈ zW := by
    rcases List.mem_cons.mp hw with h1 | h1
    · rw [h1]; exact h
    · exact h1
  exact ⟨hm, good_of_word (List.mem_filter.mp hm).2⟩
abbrev zR (k mc ms : Nat) : Room := { frames := k, cells := mc, slots := ms, locals := 40 * k }
/-- the classes, the array classes, the static tables' addresses -/
abbrev zG : Type := va_G × (Nat → ClassId) × (Nat → Nat)
abbrev zT (g : zG) : List (ClassId × FieldType) := [(g.2.1 0, .int), (g.2.1 1, .long), (g.2.1 2, .boolean), (g.2.1 3, .object "RxQueues$State"), (g.2.1 4, .object "RxQueues$Queue")]
def zLeast : Nat → Int32 := fun k => ([1, 1, 1, 1, 0, 64, 0, 0, 1] : List Int32).getD k 0
def zFirst : Nat → Int32 := fun k => ([16, 8, 40, 4000, 40, 1024, 0, 0, 12] : List Int32).getD k 0
def zMost : Nat → Int32 := fun k => ([32, 32, 999, 9999, 64, 4096, 1, 256, 32] : List Int32).getD k 0
def zIsNest : Cond → Bool
  | .methodLinkNest .. => true
  | .fieldLinkNest .. => true
  | .castable .. => true
  | .arrayOver (.object _) => true
  | _ => false
def zNest : List Cond := lw_tbl.filter zIsNest
def zN (U : State) : Prop := ∀ w ∈ zNest, w.before #[] U = true
theorem zN.warm {s U : State} (hW : s.WarmedH U.vm) (h : zN s) : zN U := by
  intro w hw
  have h1 := h w hw
  have h2 := (List.mem_filter.mp hw).2
  cases w with
  | methodLinkNest a i x hh => exact va_Nw.warmM hW h1
  | fieldLinkNest a i b n d hh => exact va_Nw.warmF hW h1
  | castable a b => exact va_Nw.warmC hW h1
  | arrayOver t =>
    cases t with
    | object C => exact va_AO.moved hW.alike h1
    | _ => simp [zIsNest] at h2
  | _ => simp [zIsNest] at h2
theorem zN.same {s U : State} (hv : s.vm = U.vm) (h : zN s) : zN U := by
  intro w hw
  have h1 := h w hw
  have h2 := (List.mem_filter.mp hw).2
  cases w with
  | methodLinkNest a i x hh => exact va_Nw.same rfl hv h1
  | fieldLinkNest a i b n d hh => exact va_Nw.same rfl hv h1
  | castable a b => exact va_Nw.same rfl hv h1
  | arrayOver t =>
    cases t with
    | object C => exact va_AO.moved (by rw [hv]; exact Vm.Alike.refl _) h1
    | _ => simp [zIsNest] at h2
  | _ => simp [zIsNest] at h2
/-- what nobody writes: the three static tables; the links between nest mates -/
def zS (g : zG) (A : Nat → Prop) (U : State) (H : Heap) : Prop :=
  va_Z "RxQueues" "LEAST_TERMS" "[I" (.ref (g.2.2 0)) A U H ∧ va_Z "RxQueues" "FIRST_TERMS" "[I" (.ref (g.2.2 1)) A U H ∧ va_Z "RxQueues" "MOST_TERMS" "[I" (.ref (g.2.2 2)) A U H ∧
  va_T .int (g.2.2 0) 9 (fun k => .int (zLeast k)) A U H ∧ va_T .int (g.2.2 1) 9 (fun k => .int (zFirst k)) A U H ∧ va_T .int (g.2.2 2) 9 (fun k => .int (zMost k)) A U H ∧ zN U
theorem zS.go {g : zG} {A B : Nat → Prop} {s U : State} {H0 H : Heap} (h : zS g A s H0) (hW : s.WarmedH U.vm) (hk : ∀ a : Nat, a < H0.size → ¬ A a → H[a]? = H0[a]?) (hB : ∀ q, B q → A q) : zS g B U H := by
  obtain ⟨h1, h2, h3, h4, h5, h6, h7⟩ := h
  exact ⟨((h1.kept hk).moved hW.alike).narrow hB, ((h2.kept hk).moved hW.alike).narrow hB, ((h3.kept hk).moved hW.alike).narrow hB, ((h4.kept hk).moved hW.alike).narrow hB, ((h5.kept hk).moved hW.alike).narrow hB, ((h6.kept hk).moved hW.alike).narrow hB, h7.warm hW⟩
theorem zS.same {g : zG} {A : Nat → Prop} {s U : State} {H : Heap} (hv : s.vm = U.vm) (h : zS g A s H) : zS g A U H := by
  obtain ⟨h1, h2, h3, h4, h5, h6, h7⟩ := h
  have ha : s.vm.Alike U.vm := by rw [hv]; exact Vm.Alike.refl _
  exact ⟨h1.moved ha, h2.moved ha, h3.moved ha, h4.moved ha, h5.moved ha, h6.moved ha, h7.same hv⟩
/-- what stands all through a method's walk -/
def zC (p : Program) (s : State) (m : MethodId) (args : Array Value) (meth : Method) (c : Code) (g : zG) (A : Nat → Prop) (cc : ByteArray) (own : String) (nL : Nat) : Prop :=
  p.tables.exec = Jvm.exec ∧ c.code = cc ∧ c.maxLocals = nL ∧ s.vm.findClass own = some m.cls ∧ (∀ w ∈ zW, w.before args s = true) ∧ va_K g.1 vwCl (zT g) s ∧ (∀ q : Nat, s.heap.size ≤ q → A q) ∧ zS g A s s.heap ∧ meth.locks = false
/-- the machine at pc, with these locals, this stack, the world ws -/
def zJ (p : Program) (l : Launch) (e : Env) (R : Room) (s : State) (m : MethodId) (args : Array Value) (below : List Frame) (meth : Method) (c : Code) (g : zG) (A : Nat → Prop) (nL : Nat) (Q : State → Prop) (ws : va_W) (k n : Nat) (pc : Nat) (lv : List (Nat × Value)) (st : List Value) : Prop :=
  ∀ (H : Heap) (locs : List Loc) (ls : Array Slot), va_P g.1 vwCl ws H → va_D A ws → va_S A s.heap H locs → lv_has ls nL lv → W p l e R s m args below meth c H locs k n Q (F0 m pc ls st)
section ZJ
variable {p : Program} {l : Launch} {e : Env} {R : Room} {s : State} {m : MethodId} {args : Array Value} {below : List Frame} {meth : Method} {c : Code} {g : zG} {A : Nat → Prop} {nL : Nat} {Q : State → Prop} {ws : va_W} {k n pc : Nat} {lv : List (Nat × Value)} {st : List Value} {cc : ByteArray} {own : String}
theorem z_iconst (C : zC p s m args meth c g A cc own nL) {z : Int} {v : Int32} (hd : decode cc pc = .ok (.iconst z, 1)) (hv : Int32.ofInt z = v) (h : zJ p l e R s m args below meth c g A nL Q ws k n (pc + 1) lv (.int v :: st)) : zJ p l e R s m args below meth c g A nL Q ws k n pc lv (st) :=
  fun H locs ls hP hD hS hl => lv_iconst C.1 C.2.1 hd hv (h H locs ls hP hD hS hl)
theorem z_bipush (C : zC p s m args meth c g A cc own nL) {z : Int} {v : Int32} (hd : decode cc pc = .ok (.bipush z, 2)) (hv : (Int8.ofInt z).toInt32 = v) (h : zJ p l e R s m args below meth c g A nL Q ws k n (pc + 2) lv (.int v :: st)) : zJ p l e R s m args below meth c g A nL Q ws k n pc lv (st) :=
  fun H locs ls hP hD hS hl => lv_bipush C.1 C.2.1 hd hv (h H locs ls hP hD hS hl)
theorem z_sipush (C : zC p s m args meth c g A cc own nL) {z : Int} {v : Int32} (hd : decode cc pc = .ok (.sipush z, 3)) (hv : (Int16.ofInt z).toInt32 = v) (h : zJ p l e R s m args below meth c g A nL Q ws k n (pc + 3) lv (.int v :: st)) : zJ p l e R s m args below meth c g A nL Q ws k n pc lv (st) :=
  fun H locs ls hP hD hS hl => lv_sipush C.1 C.2.1 hd hv (h H locs ls hP hD hS hl)
theorem z_lconst (C : zC p s m args meth c g A cc own nL) {z : Fin 2} {v : Int64} (hd : decode cc pc = .ok (.lconst z, 1)) (hv : Int64.ofNat (z : Nat) = v) (h : zJ p l e R s m args below meth c g A nL Q ws k n (pc + 1) lv (.long v :: st)) : zJ p l e R s m args below meth c g A nL Q ws k n pc lv (st) :=
  fun H locs ls hP hD hS hl => lv_lconst C.1 C.2.1 hd hv (h H locs ls hP hD hS hl)
theorem z_iload_n (C : zC p s m args meth c g A cc own nL) {kf : Fin 4} {i : Nat} {x : Int32} (hd : decode cc pc = .ok (.iload_n kf, 1)) (hi : (kf : Nat) = i) (j : Nat) (hj : lv[j]? = some (i, .int x)) (h : zJ p l e R s m args below meth c g A nL Q ws k n (pc + 1) lv (.int x :: st)) : zJ p l e R s m args below meth c g A nL Q ws k n pc lv (st) :=
  fun H locs ls hP hD hS hl => lv_iload_n C.1 C.2.1 hd hi (lv_at hl j hj) (h H locs ls hP hD hS hl)
theorem z_iload (C : zC p s m args meth c g A cc own nL) {i : Nat} {x : Int32} (hd : decode cc pc = .ok (.iload i, 2)) (j : Nat) (hj : lv[j]? = some (i, .int x)) (h : zJ p l e R s m args below meth c g A nL Q ws k n (pc + 2) lv (.int x :: st)) : zJ p l e R s m args below meth c g A nL Q ws k n pc lv (st) :=
  fun H locs ls hP hD hS hl => lv_iload C.1 C.2.1 hd (lv_at hl j hj) (h H locs ls hP hD hS hl)
theorem z_istore_n (C : zC p s m args meth c g A cc own nL) {kf : Fin 4} {i : Nat} {x : Int32} {lv1 : List (Nat × Value)} (hd : decode cc pc = .ok (.istore_n kf, 1)) (hi : (kf : Nat) = i) (hn : i < nL) (hlv : (i, Value.int x) :: lv.filter (fun q => !(q.1 == i) && !(q.1 + 1 == i && q.2.category == 2)) = lv1) (h : zJ p l e R s m args below meth c g A nL Q ws k n (pc + 1) lv1 (st)) : zJ p l e R s m args below meth c g A nL Q ws k n pc lv (.int x :: st) :=
  fun H locs ls hP hD hS hl => lv_istore_n C.1 C.2.1 hd hi hl hn hlv (fun ls1 hl1 => h H locs ls1 hP hD hS hl1)
theorem z_istore (C : zC p s m args meth c g A cc own nL) {i : Nat} {x : Int32} {lv1 : List (Nat × Value)} (hd : decode cc pc = .ok (.istore i, 2)) (hn : i < nL) (hlv : (i, Value.int x) :: lv.filter (fun q => !(q.1 == i) && !(q.1 + 1 == i && q.2.category == 2)) = lv1) (h : zJ p l e R s m args below meth c g A nL Q ws k n (pc + 2) lv1 (st)) : zJ p l e R s m args below meth c g A nL Q ws k n pc lv (.int x :: st) :=
  fun H locs ls hP hD hS hl => lv_istore C.1 C.2.1 hd hl hn hlv (fun ls1 hl1 => h H locs ls1 hP hD hS hl1)
theorem z_lload_n (C : zC p s m args meth c g A cc own nL) {kf : Fin 4} {i : Nat} {x : Int64} (hd : decode cc pc = .ok (.lload_n kf, 1)) (hi : (kf : Nat) = i) (j : Nat) (hj : lv[j]? = some (i, .long x)) (h : zJ p l e R s m args below meth c g A nL Q ws k n (pc + 1) lv (.long x :: st)) : zJ p l e R s m args below meth c g A nL Q ws k n pc lv (st) :=
  fun H locs ls hP hD hS hl => lv_lload_n C.1 C.2.1 hd hi (lv_at hl j hj) (h H locs ls hP hD hS hl)
theorem z_lload (C : zC p s m args meth c g A cc own nL) {i : Nat} {x : Int64} (hd : decode cc pc = .ok (.lload i, 2)) (j : Nat) (hj : lv[j]? = some (i, .long x)) (h : zJ p l e R s m args below meth c g A nL Q ws k n (pc + 2) lv (.long x :: st)) : zJ p l e R s m args below meth c g A nL Q ws k n pc lv (st) :=
  fun H locs ls hP hD hS hl => lv_lload C.1 C.2.1 hd (lv_at hl j hj) (h H locs ls hP hD hS hl)
theorem z_lstore_n (C : zC p s m args meth c g A cc own nL) {kf : Fin 4} {i : Nat} {x : Int64} {lv1 : List (Nat × Value)} (hd : decode cc pc = .ok (.lstore_n kf, 1)) (hi : (kf : Nat) = i) (hn : i + 1 < nL) (hlv : (i, Value.long x) :: lv.filter (fun q => !(q.1 == i) && (!(q.1 == i + 1) && !(q.1 + 1 == i && q.2.category == 2))) = lv1) (h : zJ p l e R s m args below meth c g A nL Q ws k n (pc + 1) lv1 (st)) : zJ p l e R s m args below meth c g A nL Q ws k n pc lv (.long x :: st) :=
  fun H locs ls hP hD hS hl => lv_lstore_n C.1 C.2.1 hd hi hl hn hlv (fun ls1 hl1 => h H locs ls1 hP hD hS hl1)
theorem z_lstore (C : zC p s m args meth c g A cc own nL) {i : Nat} {x : Int64} {lv1 : List (Nat × Value)} (hd : decode cc pc = .ok (.lstore i, 2)) (hn : i + 1 < nL) (hlv : (i, Value.long x) :: lv.filter (fun q => !(q.1 == i) && (!(q.1 == i + 1) && !(q.1 + 1 == i && q.2.category == 2))) = lv1) (h : zJ p l e R s m args below meth c g A nL Q ws k n (pc + 2) lv1 (st)) : zJ p l e R s m args below meth c g A nL Q ws k n pc lv (.long x :: st) :=
  fun H locs ls hP hD hS hl => lv_lstore C.1 C.2.1 hd hl hn hlv (fun ls1 hl1 => h H locs ls1 hP hD hS hl1)
theorem z_aload_n (C : zC p s m args meth c g A cc own nL) {kf : Fin 4} {i : Nat} {x : Nat} (hd : decode cc pc = .ok (.aload_n kf, 1)) (hi : (kf : Nat) = i) (j : Nat) (hj : lv[j]? = some (i, .ref x)) (h : zJ p l e R s m args below meth c g A nL Q ws k n (pc + 1) lv (.ref x :: st)) : zJ p l e R s m args below meth c g A nL Q ws k n pc lv (st) :=
  fun H locs ls hP hD hS hl => lv_aload_n C.1 C.2.1 hd hi (lv_at hl j hj) (h H locs ls hP hD hS hl)
theorem z_aload (C : zC p s m args meth c g A cc own nL) {i : Nat} {x : Nat} (hd : decode cc pc = .ok (.aload i, 2)) (j : Nat) (hj : lv[j]? = some (i, .ref x)) (h : zJ p l e R s m args below meth c g A nL Q ws k n (pc + 2) lv (.ref x :: st)) : zJ p l e R s m args below meth c g A nL Q ws k n pc lv (st) :=
  fun H locs ls hP hD hS hl => lv_aload C.1 C.2.1 hd (lv_at hl j hj) (h H locs ls hP hD hS hl)
theorem z_astore_n (C : zC p s m args meth c g A cc own nL) {kf : Fin 4} {i : Nat} {x : Nat} {lv1 : List (Nat × Value)} (hd : decode cc pc = .ok (.astore_n kf, 1)) (hi : (kf : Nat) = i) (hn : i < nL) (hlv : (i, Value.ref x) :: lv.filter (fun q => !(q.1 == i) && !(q.1 + 1 == i && q.2.category == 2)) = lv1) (h : zJ p l e R s m args below meth c g A nL Q ws k n (pc + 1) lv1 (st)) : zJ p l e R s m args below meth c g A nL Q ws k n pc lv (.ref x :: st) :=
  fun H locs ls hP hD hS hl => lv_astore_n C.1 C.2.1 hd hi hl hn hlv (fun ls1 hl1 => h H locs ls1 hP hD hS hl1)
theorem z_astore (C : zC p s m args meth c g A cc own nL) {i : Nat} {x : Nat} {lv1 : List (Nat × Value)} (hd : decode cc pc = .ok (.astore i, 2)) (hn : i < nL) (hlv : (i, Value.ref x) :: lv.filter (fun q => !(q.1 == i) && !(q.1 + 1 == i && q.2.category == 2)) = lv1) (h : zJ p l e R s m args below meth c g A nL Q ws k n (pc + 2) lv1 (st)) : zJ p l e R s m args below meth c g A nL Q ws k n pc lv (.ref x :: st) :=
  fun H locs ls hP hD hS hl => lv_astore C.1 C.2.1 hd hl hn hlv (fun ls1 hl1 => h H locs ls1 hP hD hS hl1)
theorem z_iinc (C : zC p s m args meth c g A cc own nL) {i : Nat} {z : Int} {x v : Int32} {lv1 : List (Nat × Value)} (hd : decode cc pc = .ok (.iinc i z, 3)) (j : Nat) (hj : lv[j]? = some (i, .int x)) (hv : x + Int32.ofInt z = v) (hn : i < nL) (hlv : (i, Value.int v) :: lv.filter (fun q => !(q.1 == i) && !(q.1 + 1 == i && q.2.category == 2)) = lv1) (h : zJ p l e R s m args below meth c g A nL Q ws k n (pc + 3) lv1 (st)) : zJ p l e R s m args below meth c g A nL Q ws k n pc lv (st) :=
  fun H locs ls hP hD hS hl => lv_iinc C.1 C.2.1 hd hl hj hv hn hlv (fun ls1 hl1 => h H locs ls1 hP hD hS hl1)
theorem z_iadd (C : zC p s m args meth c g A cc own nL) {x y : Int32} (hd : decode cc pc = .ok (.iadd, 1)) (h : zJ p l e R s m args below meth c g A nL Q ws k n (pc + 1) lv (.int (x + y) :: st)) : zJ p l e R s m args below meth c g A nL Q ws k n pc lv (.int y :: .int x :: st) :=
  fun H locs ls hP hD hS hl => lv_iadd C.1 C.2.1 hd (h H locs ls hP hD hS hl)
theorem z_isub (C : zC p s m args meth c g A cc own nL) {x y : Int32} (hd : decode cc pc = .ok (.isub, 1)) (h : zJ p l e R s m args below meth c g A nL Q ws k n (pc + 1) lv (.int (x - y) :: st)) : zJ p l e R s m args below meth c g A nL Q ws k n pc lv (.int y :: .int x :: st) :=
  fun H locs ls hP hD hS hl => lv_isub C.1 C.2.1 hd (h H locs ls hP hD hS hl)
theorem z_imul (C : zC p s m args meth c g A cc own nL) {x y : Int32} (hd : decode cc pc = .ok (.imul, 1)) (h : zJ p l e R s m args below meth c g A nL Q ws k n (pc + 1) lv (.int (x * y) :: st)) : zJ p l e R s m args below meth c g A nL Q ws k n pc lv (.int y :: .int x :: st) :=
  fun H locs ls hP hD hS hl => lv_imul C.1 C.2.1 hd (h H locs ls hP hD hS hl)
theorem z_iand (C : zC p s m args meth c g A cc own nL) {x y : Int32} (hd : decode cc pc = .ok (.iand, 1)) (h : zJ p l e R s m args below meth c g A nL Q ws k n (pc + 1) lv (.int (x &&& y) :: st)) : zJ p l e R s m args below meth c g A nL Q ws k n pc lv (.int y :: .int x :: st) :=
  fun H locs ls hP hD hS hl => lv_iand C.1 C.2.1 hd (h H locs ls hP hD hS hl)
theorem z_ior (C : zC p s m args meth c g A cc own nL) {x y : Int32} (hd : decode cc pc = .ok (.ior, 1)) (h : zJ p l e R s m args below meth c g A nL Q ws k n (pc + 1) lv (.int (x ||| y) :: st)) : zJ p l e R s m args below meth c g A nL Q ws k n pc lv (.int y :: .int x :: st) :=
  fun H locs ls hP hD hS hl => lv_ior C.1 C.2.1 hd (h H locs ls hP hD hS hl)
theorem z_ixor (C : zC p s m args meth c g A cc own nL) {x y : Int32} (hd : decode cc pc = .ok (.ixor, 1)) (h : zJ p l e R s m args below meth c g A nL Q ws k n (pc + 1) lv (.int (x ^^^ y) :: st)) : zJ p l e R s m args below meth c g A nL Q ws k n pc lv (.int y :: .int x :: st) :=
  fun H locs ls hP hD hS hl => lv_ixor C.1 C.2.1 hd (h H locs ls hP hD hS hl)
theorem z_ishl (C : zC p s m args meth c g A cc own nL) {x y : Int32} (hd : decode cc pc = .ok (.ishl, 1)) (h : zJ p l e R s m args below meth c g A nL Q ws k n (pc + 1) lv (.int (x <<< (y &&& 31)) :: st)) : zJ p l e R s m args below meth c g A nL Q ws k n pc lv (.int y :: .int x :: st) :=
  fun H locs ls hP hD hS hl => lv_ishl C.1 C.2.1 hd (h H locs ls hP hD hS hl)
theorem z_ishr (C : zC p s m args meth c g A cc own nL) {x y : Int32} (hd : decode cc pc = .ok (.ishr, 1)) (h : zJ p l e R s m args below meth c g A nL Q ws k n (pc + 1) lv (.int (x >>> (y &&& 31)) :: st)) : zJ p l e R s m args below meth c g A nL Q ws k n pc lv (.int y :: .int x :: st) :=
  fun H locs ls hP hD hS hl => lv_ishr C.1 C.2.1 hd (h H locs ls hP hD hS hl)
theorem z_iushr (C : zC p s m args meth c g A cc own nL) {x y : Int32} (hd : decode cc pc = .ok (.iushr, 1)) (h : zJ p l e R s m args below meth c g A nL Q ws k n (pc + 1) lv (.int ((x.toUInt32 >>> (y.toUInt32 &&& Int32.toUInt32 31)).toInt32) :: st)) : zJ p l e R s m args below meth c g A nL Q ws k n pc lv (.int y :: .int x :: st) :=
  fun H locs ls hP hD hS hl => lv_iushr C.1 C.2.1 hd rfl (h H locs ls hP hD hS hl)
theorem z_ineg (C : zC p s m args meth c g A cc own nL) {x : Int32} (hd : decode cc pc = .ok (.ineg, 1)) (h : zJ p l e R s m args below meth c g A nL Q ws k n (pc + 1) lv (.int (-x) :: st)) : zJ p l e R s m args below meth c g A nL Q ws k n pc lv (.int x :: st) :=
  fun H locs ls hP hD hS hl => lv_ineg C.1 C.2.1 hd (h H locs ls hP hD hS hl)
theorem z_idiv (C : zC p s m args meth c g A cc own nL) {x y : Int32} (hd : decode cc pc = .ok (.idiv, 1)) (hne : ¬ y = 0) (h : zJ p l e R s m args below meth c g A nL Q ws k n (pc + 1) lv (.int (x / y) :: st)) : zJ p l e R s m args below meth c g A nL Q ws k n pc lv (.int y :: .int x :: st) :=
  fun H locs ls hP hD hS hl => lv_idiv C.1 C.2.1 hd hne (h H locs ls hP hD hS hl)
theorem z_irem (C : zC p s m args meth c g A cc own nL) {x y : Int32} (hd : decode cc pc = .ok (.irem, 1)) (hne : ¬ y = 0) (h : zJ p l e R s m args below meth c g A nL Q ws k n (pc + 1) lv (.int (x - x / y * y) :: st)) : zJ p l e R s m args below meth c g A nL Q ws k n pc lv (.int y :: .int x :: st) :=
  fun H locs ls hP hD hS hl => lv_irem C.1 C.2.1 hd hne (h H locs ls hP hD hS hl)
theorem z_ladd (C : zC p s m args meth c g A cc own nL) {x y : Int64} (hd : decode cc pc = .ok (.ladd, 1)) (h : zJ p l e R s m args below meth c g A nL Q ws k n (pc + 1) lv (.long (x + y) :: st)) : zJ p l e R s m args below meth c g A nL Q ws k n pc lv (.long y :: .long x :: st) :=
  fun H locs ls hP hD hS hl => lv_ladd C.1 C.2.1 hd (h H locs ls hP hD hS hl)
theorem z_lsub (C : zC p s m args meth c g A cc own nL) {x y : Int64} (hd : decode cc pc = .ok (.lsub, 1)) (h : zJ p l e R s m args below meth c g A nL Q ws k n (pc + 1) lv (.long (x - y) :: st)) : zJ p l e R s m args below meth c g A nL Q ws k n pc lv (.long y :: .long x :: st) :=
  fun H locs ls hP hD hS hl => lv_lsub C.1 C.2.1 hd (h H locs ls hP hD hS hl)
theorem z_land (C : zC p s m args meth c g A cc own nL) {x y : Int64} (hd : decode cc pc = .ok (.land, 1)) (h : zJ p l e R s m args below meth c g A nL Q ws k n (pc + 1) lv (.long (x &&& y) :: st)) : zJ p l e R s m args below meth c g A nL Q ws k n pc lv (.long y :: .long x :: st) :=
  fun H locs ls hP hD hS hl => lv_land C.1 C.2.1 hd (h H locs ls hP hD hS hl)
theorem z_lor (C : zC p s m args meth c g A cc own nL) {x y : Int64} (hd : decode cc pc = .ok (.lor, 1)) (h : zJ p l e R s m args below meth c g A nL Q ws k n (pc + 1) lv (.long (x ||| y) :: st)) : zJ p l e R s m args below meth c g A nL Q ws k n pc lv (.long y :: .long x :: st) :=
  fun H locs ls hP hD hS hl => lv_lor C.1 C.2.1 hd (h H locs ls hP hD hS hl)
theorem z_ldiv (C : zC p s m args meth c g A cc own nL) {x y : Int64} (hd : decode cc pc = .ok (.ldiv, 1)) (hne : ¬ y = 0) (h : zJ p l e R s m args below meth c g A nL Q ws k n (pc + 1) lv (.long (x / y) :: st)) : zJ p l e R s m args below meth c g A nL Q ws k n pc lv (.long y :: .long x :: st) :=
  fun H locs ls hP hD hS hl => lv_ldiv C.1 C.2.1 hd hne (h H locs ls hP hD hS hl)
theorem z_lrem (C : zC p s m args meth c g A cc own nL) {x y : Int64} (hd : decode cc pc = .ok (.lrem, 1)) (hne : ¬ y = 0) (h : zJ p l e R s m args below meth c g A nL Q ws k n (pc + 1) lv (.long (x - x / y * y) :: st)) : zJ p l e R s m args below meth c g A nL Q ws k n pc lv (.long y :: .long x :: st) :=
  fun H locs ls hP hD hS hl => lv_lrem C.1 C.2.1 hd hne (h H locs ls hP hD hS hl)
theorem z_lshl (C : zC p s m args meth c g A cc own nL) {x : Int64} {y : Int32} (hd : decode cc pc = .ok (.lshl, 1)) (h : zJ p l e R s m args below meth c g A nL Q ws k n (pc + 1) lv (.long (x <<< (y.toInt64 &&& 63)) :: st)) : zJ p l e R s m args below meth c g A nL Q ws k n pc lv (.int y :: .long x :: st) :=
  fun H locs ls hP hD hS hl => lv_lshl C.1 C.2.1 hd rfl (h H locs ls hP hD hS hl)
theorem z_lushr (C : zC p s m args meth c g A cc own nL) {x : Int64} {y : Int32} (hd : decode cc pc = .ok (.lushr, 1)) (h : zJ p l e R s m args below meth c g A nL Q ws k n (pc + 1) lv (.long ((x.toUInt64 >>> (y.toInt64.toUInt64 &&& Int64.toUInt64 63)).toInt64) :: st)) : zJ p l e R s m args below meth c g A nL Q ws k n pc lv (.int y :: .long x :: st) :=
  fun H locs ls hP hD hS hl => lv_lushr C.1 C.2.1 hd rfl (h H locs ls hP hD hS hl)
theorem z_lcmp (C : zC p s m args meth c g A cc own nL) {x y : Int64} (hd : decode cc pc = .ok (.lcmp, 1)) (h : zJ p l e R s m args below meth c g A nL Q ws k n (pc + 1) lv (.int (lg_cmp x y) :: st)) : zJ p l e R s m args below meth c g A nL Q ws k n pc lv (.long y :: .long x :: st) :=
  fun H locs ls hP hD hS hl => W.lcmp C.1 C.2.1 hd (h H locs ls hP hD hS hl)
theorem z_i2l (C : zC p s m args meth c g A cc own nL) {x : Int32} (hd : decode cc pc = .ok (.i2l, 1)) (h : zJ p l e R s m args below meth c g A nL Q ws k n (pc + 1) lv (.long (x.toInt64) :: st)) : zJ p l e R s m args below meth c g A nL Q ws k n pc lv (.int x :: st) :=
  fun H locs ls hP hD hS hl => lv_i2l C.1 C.2.1 hd rfl (h H locs ls hP hD hS hl)
theorem z_l2i (C : zC p s m args meth c g A cc own nL) {x : Int64} (hd : decode cc pc = .ok (.l2i, 1)) (h : zJ p l e R s m args below meth c g A nL Q ws k n (pc + 1) lv (.int (x.toInt32) :: st)) : zJ p l e R s m args below meth c g A nL Q ws k n pc lv (.long x :: st) :=
  fun H locs ls hP hD hS hl => lv_l2i C.1 C.2.1 hd rfl (h H locs ls hP hD hS hl)
theorem z_dup (C : zC p s m args meth c g A cc own nL) {v : Value} (hd : decode cc pc = .ok (.dup, 1)) (hv : v.category = 1) (h : zJ p l e R s m args below meth c g A nL Q ws k n (pc + 1) lv (v :: v :: st)) : zJ p l e R s m args below meth c g A nL Q ws k n pc lv (v :: st) :=
  fun H locs ls hP hD hS hl => lv_dup C.1 C.2.1 hd hv (h H locs ls hP hD hS hl)
theorem z_pop (C : zC p s m args meth c g A cc own nL) {v : Value} (hd : decode cc pc = .ok (.pop, 1)) (hv : v.category = 1) (h : zJ p l e R s m args below meth c g A nL Q ws k n (pc + 1) lv (st)) : zJ p l e R s m args below meth c g A nL Q ws k n pc lv (v :: st) :=
  fun H locs ls hP hD hS hl => lv_pop C.1 C.2.1 hd hv (h H locs ls hP hD hS hl)
theorem z_dup2 (C : zC p s m args meth c g A cc own nL) {v v2 : Value} (hd : decode cc pc = .ok (.dup2, 1)) (hv : v.category = 1) (hv2 : v2.category = 1) (h : zJ p l e R s m args below meth c g A nL Q ws k n (pc + 1) lv (v :: v2 :: v :: v2 :: st)) : zJ p l e R s m args below meth c g A nL Q ws k n pc lv (v :: v2 :: st) :=
  fun H locs ls hP hD hS hl => lv_dup2_11 C.1 C.2.1 hd hv hv2 (h H locs ls hP hD hS hl)
theorem z_dup2l (C : zC p s m args meth c g A cc own nL) {x : Int64} (hd : decode cc pc = .ok (.dup2, 1)) (h : zJ p l e R s m args below meth c g A nL Q ws k n (pc + 1) lv (.long x :: .long x :: st)) : zJ p l e R s m args below meth c g A nL Q ws k n pc lv (.long x :: st) :=
  fun H locs ls hP hD hS hl => lv_dup2_2 C.1 C.2.1 hd rfl (h H locs ls hP hD hS hl)
theorem z_goto (C : zC p s m args meth c g A cc own nL) {off : Int} {tgt : Nat} (hd : decode cc pc = .ok (.goto off, 3)) (ht : (pc : Int) + off = (tgt : Int)) (h : zJ p l e R s m args below meth c g A nL Q ws k n tgt lv st) : zJ p l e R s m args below meth c g A nL Q ws k n pc lv st :=
  fun H locs ls hP hD hS hl => lv_goto C.1 C.2.1 hd ht (h H locs ls hP hD hS hl)
theorem z_topi {x : Int32} (h : ∀ y : Int32, y = x → zJ p l e R s m args below meth c g A nL Q ws k n pc lv (.int y :: st)) : zJ p l e R s m args below meth c g A nL Q ws k n pc lv (.int x :: st) := h x rfl
theorem z_topl {x : Int64} (h : ∀ y : Int64, y = x → zJ p l e R s m args below meth c g A nL Q ws k n pc lv (.long y :: st)) : zJ p l e R s m args below meth c g A nL Q ws k n pc lv (.long x :: st) := h x rfl
theorem z_lv {lv1 : List (Nat × Value)} (ks : List Nat) (hk : lv_pick lv ks = lv1) (h : zJ p l e R s m args below meth c g A nL Q ws k n pc lv1 st) : zJ p l e R s m args below meth c g A nL Q ws k n pc lv st :=
  fun H locs ls hP hD hS hl => h H locs ls hP hD hS (lv_sub hl ks hk)
theorem z_ws {ws1 : va_W} (hw : ws = ws1) (h : zJ p l e R s m args below meth c g A nL Q ws1 k n pc lv st) : zJ p l e R s m args below meth c g A nL Q ws k n pc lv st := hw ▸ h
theorem z_wide {k1 n1 : Nat} (h1 : k ≤ k1) (h2 : n ≤ n1) (h : zJ p l e R s m args below meth c g A nL Q ws k1 n1 pc lv st) : zJ p l e R s m args below meth c g A nL Q ws k n pc lv st :=
  fun H locs ls hP hD hS hl => W.widen h1 h2 (h H locs ls hP hD hS hl)
theorem z_if_eq (C : zC p s m args meth c g A cc own nL) {x : Int32} {off : Int} {tgt : Nat} (hd : decode cc pc = .ok (.ifCond .eq off, 3)) (ht : (pc : Int) + off = (tgt : Int)) (kt : x = 0 → zJ p l e R s m args below meth c g A nL Q ws k n tgt lv st) (kf : ¬ x = 0 → zJ p l e R s m args below meth c g A nL Q ws k n (pc + 3) lv st) : zJ p l e R s m args below meth c g A nL Q ws k n pc lv (.int x :: st) :=
  fun H locs ls hP hD hS hl => lv_if_eq C.1 C.2.1 hd ht (fun q => kt q H locs ls hP hD hS hl) (fun q => kf q H locs ls hP hD hS hl)
theorem z_if_ne (C : zC p s m args meth c g A cc own nL) {x : Int32} {off : Int} {tgt : Nat} (hd : decode cc pc = .ok (.ifCond .ne off, 3)) (ht : (pc : Int) + off = (tgt : Int)) (kt : ¬ x = 0 → zJ p l e R s m args below meth c g A nL Q ws k n tgt lv st) (kf : x = 0 → zJ p l e R s m args below meth c g A nL Q ws k n (pc + 3) lv st) : zJ p l e R s m args below meth c g A nL Q ws k n pc lv (.int x :: st) :=
  fun H locs ls hP hD hS hl => lv_if_ne C.1 C.2.1 hd ht (fun q => kt q H locs ls hP hD hS hl) (fun q => kf q H locs ls hP hD hS hl)
theorem z_if_lt (C : zC p s m args meth c g A cc own nL) {x : Int32} {off : Int} {tgt : Nat} (hd : decode cc pc = .ok (.ifCond .lt off, 3)) (ht : (pc : Int) + off = (tgt : Int)) (kt : x < 0 → zJ p l e R s m args below meth c g A nL Q ws k n tgt lv st) (kf : ¬ x < 0 → zJ p l e R s m args below meth c g A nL Q ws k n (pc + 3) lv st) : zJ p l e R s m args below meth c g A nL Q ws k n pc lv (.int x :: st) :=
  fun H locs ls hP hD hS hl => lv_if_lt C.1 C.2.1 hd ht (fun q => kt q H locs ls hP hD hS hl) (fun q => kf q H locs ls hP hD hS hl)
theorem z_if_ge (C : zC p s m args meth c g A cc own nL) {x : Int32} {off : Int} {tgt : Nat} (hd : decode cc pc = .ok (.ifCond .ge off, 3)) (ht : (pc : Int) + off = (tgt : Int)) (kt : 0 ≤ x → zJ p l e R s m args below meth c g A nL Q ws k n tgt lv st) (kf : ¬ 0 ≤ x → zJ p l e R s m args below meth c g A nL Q ws k n (pc + 3) lv st) : zJ p l e R s m args below meth c g A nL Q ws k n pc lv (.int x :: st) :=
  fun H locs ls hP hD hS hl => lv_if_ge C.1 C.2.1 hd ht (fun q => kt q H locs ls hP hD hS hl) (fun q => kf q H locs ls hP hD hS hl)
theorem z_if_gt (C : zC p s m args meth c g A cc own nL) {x : Int32} {off : Int} {tgt : Nat} (hd : decode cc pc = .ok (.ifCond .gt off, 3)) (ht : (pc : Int) + off = (tgt : Int)) (kt : 0 < x → zJ p l e R s m args below meth c g A nL Q ws k n tgt lv st) (kf : ¬ 0 < x → zJ p l e R s m args below meth c g A nL Q ws k n (pc + 3) lv st) : zJ p l e R s m args below meth c g A nL Q ws k n pc lv (.int x :: st) :=
  fun H locs ls hP hD hS hl => lv_if_gt C.1 C.2.1 hd ht (fun q => kt q H locs ls hP hD hS hl) (fun q => kf q H locs ls hP hD hS hl)
theorem z_if_le (C : zC p s m args meth c g A cc own nL) {x : Int32} {off : Int} {tgt : Nat} (hd : decode cc pc = .ok (.ifCond .le off, 3)) (ht : (pc : Int) + off = (tgt : Int)) (kt : x ≤ 0 → zJ p l e R s m args below meth c g A nL Q ws k n tgt lv st) (kf : ¬ x ≤ 0 → zJ p l e R s m args below meth c g A nL Q ws k n (pc + 3) lv st) : zJ p l e R s m args below meth c g A nL Q ws k n pc lv (.int x :: st) :=
  fun H locs ls hP hD hS hl => lv_if_le C.1 C.2.1 hd ht (fun q => kt q H locs ls hP hD hS hl) (fun q => kf q H locs ls hP hD hS hl)
theorem z_icmp_eq (C : zC p s m args meth c g A cc own nL) {x y : Int32} {off : Int} {tgt : Nat} (hd : decode cc pc = .ok (.if_icmp .eq off, 3)) (ht : (pc : Int) + off = (tgt : Int)) (kt : x = y → zJ p l e R s m args below meth c g A nL Q ws k n tgt lv st) (kf : ¬ x = y → zJ p l e R s m args below meth c g A nL Q ws k n (pc + 3) lv st) : zJ p l e R s m args below meth c g A nL Q ws k n pc lv (.int y :: .int x :: st) :=
  fun H locs ls hP hD hS hl => lv_icmp_eq C.1 C.2.1 hd ht (fun q => kt q H locs ls hP hD hS hl) (fun q => kf q H locs ls hP hD hS hl)
theorem z_icmp_ne (C : zC p s m args meth c g A cc own nL) {x y : Int32} {off : Int} {tgt : Nat} (hd : decode cc pc = .ok (.if_icmp .ne off, 3)) (ht : (pc : Int) + off = (tgt : Int)) (kt : ¬ x = y → zJ p l e R s m args below meth c g A nL Q ws k n tgt lv st) (kf : x = y → zJ p l e R s m args below meth c g A nL Q ws k n (pc + 3) lv st) : zJ p l e R s m args below meth c g A nL Q ws k n pc lv (.int y :: .int x :: st) :=
  fun H locs ls hP hD hS hl => lv_icmp_ne C.1 C.2.1 hd ht (fun q => kt q H locs ls hP hD hS hl) (fun q => kf q H locs ls hP hD hS hl)
theorem z_icmp_lt (C : zC p s m args meth c g A cc own nL) {x y : Int32} {off : Int} {tgt : Nat} (hd : decode cc pc = .ok (.if_icmp .lt off, 3)) (ht : (pc : Int) + off = (tgt : Int)) (kt : x < y → zJ p l e R s m args below meth c g A nL Q ws k n tgt lv st) (kf : ¬ x < y → zJ p l e R s m args below meth c g A nL Q ws k n (pc + 3) lv st) : zJ p l e R s m args below meth c g A nL Q ws k n pc lv (.int y :: .int x :: st) :=
  fun H locs ls hP hD hS hl => lv_icmp_lt C.1 C.2.1 hd ht (fun q => kt q H locs ls hP hD hS hl) (fun q => kf q H locs ls hP hD hS hl)
theorem z_icmp_ge (C : zC p s m args meth c g A cc own nL) {x y : Int32} {off : Int} {tgt : Nat} (hd : decode cc pc = .ok (.if_icmp .ge off, 3)) (ht : (pc : Int) + off = (tgt : Int)) (kt : y ≤ x → zJ p l e R s m args below meth c g A nL Q ws k n tgt lv st) (kf : ¬ y ≤ x → zJ p l e R s m args below meth c g A nL Q ws k n (pc + 3) lv st) : zJ p l e R s m args below meth c g A nL Q ws k n pc lv (.int y :: .int x :: st) :=
  fun H locs ls hP hD hS hl => lv_icmp_ge C.1 C.2.1 hd ht (fun q => kt q H locs ls hP hD hS hl) (fun q => kf q H locs ls hP hD hS hl)
theorem z_icmp_gt (C : zC p s m args meth c g A cc own nL) {x y : Int32} {off : Int} {tgt : Nat} (hd : decode cc pc = .ok (.if_icmp .gt off, 3)) (ht : (pc : Int) + off = (tgt : Int)) (kt : y < x → zJ p l e R s m args below meth c g A nL Q ws k n tgt lv st) (kf : ¬ y < x → zJ p l e R s m args below meth c g A nL Q ws k n (pc + 3) lv st) : zJ p l e R s m args below meth c g A nL Q ws k n pc lv (.int y :: .int x :: st) :=
  fun H locs ls hP hD hS hl => lv_icmp_gt C.1 C.2.1 hd ht (fun q => kt q H locs ls hP hD hS hl) (fun q => kf q H locs ls hP hD hS hl)
theorem z_icmp_le (C : zC p s m args meth c g A cc own nL) {x y : Int32} {off : Int} {tgt : Nat} (hd : decode cc pc = .ok (.if_icmp .le off, 3)) (ht : (pc : Int) + off = (tgt : Int)) (kt : x ≤ y → zJ p l e R s m args below meth c g A nL Q ws k n tgt lv st) (kf : ¬ x ≤ y → zJ p l e R s m args below meth c g A nL Q ws k n (pc + 3) lv st) : zJ p l e R s m args below meth c g A nL Q ws k n pc lv (.int y :: .int x :: st) :=
  fun H locs ls hP hD hS hl => lv_icmp_le C.1 C.2.1 hd ht (fun q => kt q H locs ls hP hD hS hl) (fun q => kf q H locs ls hP hD hS hl)
theorem z_ldc (C : zC p s m args meth c g A cc own nL) {index : Nat} {v : Int32} (hd : decode cc pc = .ok (.ldc index, 2)) (hw : Cond.constant own index v ∈ zW) (h : zJ p l e R s m args below meth c g A nL Q ws k n (pc + 2) lv (.int v :: st)) : zJ p l e R s m args below meth c g A nL Q ws k n pc lv st :=
  fun H locs ls hP hD hS hl => lv_ldc C.1 C.2.1 C.2.2.2.1 (C.2.2.2.2.1 _ hw) hd (h H locs ls hP hD hS hl)
theorem z_ldc2 (C : zC p s m args meth c g A cc own nL) {index : Nat} {v : Int64} (hd : decode cc pc = .ok (.ldc2_w index, 3)) (hw : Cond.constantLong own index v ∈ zW) (h : zJ p l e R s m args below meth c g A nL Q ws k n (pc + 3) lv (.long v :: st)) : zJ p l e R s m args below meth c g A nL Q ws k n pc lv st :=
  fun H locs ls hP hD hS hl => lv_ldc2 C.1 C.2.1 C.2.2.2.1 (C.2.2.2.2.1 _ hw) hd (h H locs ls hP hD hS hl)
theorem z_tIn (C : zC p s m args meth c g A cc own nL) {dflt lo hi : Int} {offs : Array Int} {len : Nat} {x : Int32} {off : Int} {tgt : Nat} (hd : decode cc pc = .ok (.tableswitch dflt lo hi offs, len)) (v : Int) (hx : x.toInt = v) (h1 : ¬ v < lo) (h2 : ¬ hi < v) (ho : offs[(v - lo).toNat]? = some off) (ht : (pc : Int) + off = (tgt : Int)) (h : zJ p l e R s m args below meth c g A nL Q ws k n tgt lv st) : zJ p l e R s m args below meth c g A nL Q ws k n pc lv (.int x :: st) :=
  fun H locs ls hP hD hS hl => lv_tableIn C.1 C.2.1 hd (hx ▸ h1) (hx ▸ h2) (hx ▸ ho) ht (h H locs ls hP hD hS hl)
theorem z_tOut (C : zC p s m args meth c g A cc own nL) {dflt lo hi : Int} {offs : Array Int} {len : Nat} {x : Int32} {tgt : Nat} (hd : decode cc pc = .ok (.tableswitch dflt lo hi offs, len)) (hx : x.toInt < lo ∨ hi < x.toInt) (ht : (pc : Int) + dflt = (tgt : Int)) (h : zJ p l e R s m args below meth c g A nL Q ws k n tgt lv st) : zJ p l e R s m args below meth c g A nL Q ws k n pc lv (.int x :: st) :=
  fun H locs ls hP hD hS hl => lv_tableOut C.1 C.2.1 hd hx ht (h H locs ls hP hD hS hl)
theorem z_lsw (C : zC p s m args meth c g A cc own nL) {dflt : Int} {ps : Array (Int × Int)} {len : Nat} {x : Int32} {off : Int} {tgt : Nat} (hd : decode cc pc = .ok (.lookupswitch dflt ps, len)) (hp : (ps.toList.zip (ps.toList.drop 1)).all (fun (a, next) => a.1 < next.1) = true) (ho : Op.lookupswitch.offset ps.toList dflt x.toInt = off) (ht : (pc : Int) + off = (tgt : Int)) (h : zJ p l e R s m args below meth c g A nL Q ws k n tgt lv st) : zJ p l e R s m args below meth c g A nL Q ws k n pc lv (.int x :: st) :=
  fun H locs ls hP hD hS hl => lv_lookup C.1 C.2.1 hd hp ho ht (h H locs ls hP hD hS hl)
theorem z_iald (C : zC p s m args meth c g A cc own nL) (q0 : Nat) {a n0 : Nat} {f : Nat → Int32} (ha : ws[q0]? = some (a, .inl (g.2.1 0, n0, .inl f))) {i : Int32} (hin : vp_in i n0) (hd : decode cc pc = .ok (.iaload, 1)) (h : zJ p l e R s m args below meth c g A nL Q ws k n (pc + 1) lv (.int (f i.toNatClampNeg) :: st)) : zJ p l e R s m args below meth c g A nL Q ws k n pc lv (.int i :: .ref a :: st) :=
  fun H locs ls hP hD hS hl => va_iald C.1 C.2.1 C.2.2.2.2.2.1 hP q0 0 ha rfl hin hd (h H locs ls hP hD hS hl)
theorem z_iast (C : zC p s m args meth c g A cc own nL) (q0 : Nat) {a n0 : Nat} {f : Nat → Int32} (ha : ws[q0]? = some (a, .inl (g.2.1 0, n0, .inl f))) {i : Int32} {x : Int32} (hin : vp_in i n0) (hd : decode cc pc = .ok (.iastore, 1)) {ws1 : va_W} (hw : ws.set q0 (a, .inl (g.2.1 0, n0, .inl (upd f i.toNatClampNeg x))) = ws1) (h : zJ p l e R s m args below meth c g A nL Q ws1 k n (pc + 1) lv st) : zJ p l e R s m args below meth c g A nL Q ws k n pc lv (.int x :: .int i :: .ref a :: st) :=
  fun H locs ls hP hD hS hl => va_iast C.1 C.2.1 C.2.2.2.2.2.1 hP hD hS q0 0 ha rfl hin hd (fun H1 locs1 hP1 hD1 hS1 => h H1 locs1 ls (hw ▸ hP1) (hw ▸ hD1) hS1 hl)
theorem z_lald (C : zC p s m args meth c g A cc own nL) (q0 : Nat) {a n0 : Nat} {f : Nat → Int64} (ha : ws[q0]? = some (a, .inl (g.2.1 1, n0, .inr (.inl f)))) {i : Int32} (hin : vp_in i n0) (hd : decode cc pc = .ok (.laload, 1)) (h : zJ p l e R s m args below meth c g A nL Q ws k n (pc + 1) lv (.long (f i.toNatClampNeg) :: st)) : zJ p l e R s m args below meth c g A nL Q ws k n pc lv (.int i :: .ref a :: st) :=
  fun H locs ls hP hD hS hl => va_lald C.1 C.2.1 C.2.2.2.2.2.1 hP q0 1 ha rfl hin hd (h H locs ls hP hD hS hl)
theorem z_last (C : zC p s m args meth c g A cc own nL) (q0 : Nat) {a n0 : Nat} {f : Nat → Int64} (ha : ws[q0]? = some (a, .inl (g.2.1 1, n0, .inr (.inl f)))) {i : Int32} {x : Int64} (hin : vp_in i n0) (hd : decode cc pc = .ok (.lastore, 1)) {ws1 : va_W} (hw : ws.set q0 (a, .inl (g.2.1 1, n0, .inr (.inl (vp_updL f i.toNatClampNeg x)))) = ws1) (h : zJ p l e R s m args below meth c g A nL Q ws1 k n (pc + 1) lv st) : zJ p l e R s m args below meth c g A nL Q ws k n pc lv (.long x :: .int i :: .ref a :: st) :=
  fun H locs ls hP hD hS hl => va_last C.1 C.2.1 C.2.2.2.2.2.1 hP hD hS q0 1 ha rfl hin hd (fun H1 locs1 hP1 hD1 hS1 => h H1 locs1 ls (hw ▸ hP1) (hw ▸ hD1) hS1 hl)
theorem z_zald (C : zC p s m args meth c g A cc own nL) (q0 : Nat) {a n0 : Nat} {f : Nat → Int32} (ha : ws[q0]? = some (a, .inl (g.2.1 2, n0, .inl f))) {i : Int32} (hin : vp_in i n0) (hd : decode cc pc = .ok (.baload, 1)) (h : zJ p l e R s m args below meth c g A nL Q ws k n (pc + 1) lv (.int (f i.toNatClampNeg) :: st)) : zJ p l e R s m args below meth c g A nL Q ws k n pc lv (.int i :: .ref a :: st) :=
  fun H locs ls hP hD hS hl => va_zald C.1 C.2.1 C.2.2.2.2.2.1 hP q0 2 ha rfl hin hd (h H locs ls hP hD hS hl)
theorem z_zast (C : zC p s m args meth c g A cc own nL) (q0 : Nat) {a n0 : Nat} {f : Nat → Int32} (ha : ws[q0]? = some (a, .inl (g.2.1 2, n0, .inl f))) {i : Int32} {x : Int32} (hin : vp_in i n0) (hd : decode cc pc = .ok (.bastore, 1)) {ws1 : va_W} (hw : ws.set q0 (a, .inl (g.2.1 2, n0, .inl (upd f i.toNatClampNeg (vp_nar .boolean x)))) = ws1) (h : zJ p l e R s m args below meth c g A nL Q ws1 k n (pc + 1) lv st) : zJ p l e R s m args below meth c g A nL Q ws k n pc lv (.int x :: .int i :: .ref a :: st) :=
  fun H locs ls hP hD hS hl => va_zast C.1 C.2.1 C.2.2.2.2.2.1 hP hD hS q0 2 ha rfl hin hd (fun H1 locs1 hP1 hD1 hS1 => h H1 locs1 ls (hw ▸ hP1) (hw ▸ hD1) hS1 hl)
theorem z_aald (C : zC p s m args meth c g A cc own nL) (q0 t0 : Nat) {a n0 : Nat} {cA : ClassId} {Cn : String} {f : Nat → Option Nat} (ha : ws[q0]? = some (a, .inl (cA, n0, .inr (.inr (.inr (.inr f)))))) (ht : (zT g)[t0]? = some (cA, .object Cn)) {i : Int32} (hin : vp_in i n0) (hd : decode cc pc = .ok (.aaload, 1)) (h : zJ p l e R s m args below meth c g A nL Q ws k n (pc + 1) lv (va_rf (f i.toNatClampNeg) :: st)) : zJ p l e R s m args below meth c g A nL Q ws k n pc lv (.int i :: .ref a :: st) :=
  fun H locs ls hP hD hS hl => va_aldq C.1 C.2.1 C.2.2.2.2.2.1 hP q0 t0 ha ht hin hd (h H locs ls hP hD hS hl)
theorem z_alen (C : zC p s m args meth c g A cc own nL) (q0 : Nat) {a n0 : Nat} {f : Nat → Int32} (ha : ws[q0]? = some (a, .inl (g.2.1 0, n0, .inl f))) {v : Int32} (hv : Int32.ofNat n0 = v) (hd : decode cc pc = .ok (.arraylength, 1)) (h : zJ p l e R s m args below meth c g A nL Q ws k n (pc + 1) lv (.int v :: st)) : zJ p l e R s m args below meth c g A nL Q ws k n pc lv (.ref a :: st) :=
  fun H locs ls hP hD hS hl => va_alen C.1 C.2.1 C.2.2.2.2.2.1 hP q0 0 ha rfl hv hd (h H locs ls hP hD hS hl)
theorem z_get (C : zC p s m args meth c g A cc own nL) {Cn : String} {T : u_T} {N ci index : Nat} (hin : ∀ w ∈ u_ws Cn T N, w ∈ zW) (hc : vwCl[ci]? = some (Cn, T, N)) (kk : Nat) (hk : kk < N) (hlk : Cond.fieldLink own index (T kk).1 (T kk).2.1 (T kk).2.2.1 ∈ zW) (q0 : Nat) {a : Nat} {fs : List Value} (he : ws[q0]? = some (a, .inr (ci, fs))) {v : Value} (hv : fs[kk]? = some v) (hd : decode cc pc = .ok (.getfield index, 3)) (h : zJ p l e R s m args below meth c g A nL Q ws k n (pc + 3) lv (v :: st)) : zJ p l e R s m args below meth c g A nL Q ws k n pc lv (.ref a :: st) :=
  fun H locs ls hP hD hS hl => va_get C.1 C.2.1 C.2.2.2.2.1 hin C.2.2.2.1 C.2.2.2.2.2.1 hP q0 he hc kk hk (C.2.2.2.2.1 _ hlk) (fun _ h9 => h9) hv hd (h H locs ls hP hD hS hl)
theorem z_puti (C : zC p s m args meth c g A cc own nL) {Cn : String} {T : u_T} {N ci index : Nat} (hin : ∀ w ∈ u_ws Cn T N, w ∈ zW) (ty0 : Nat → FieldType) (hty : ∀ k, k < N → parseFieldDescriptor (T k).2.2.1 = some (ty0 k)) (hnm : ∀ a, a < N → ∀ b, b < N → a ≠ b → (T a).2.1 ≠ (T b).2.1) (hc : vwCl[ci]? = some (Cn, T, N)) (kk : Nat) (hk : kk < N) (hlk : Cond.fieldLink own index (T kk).1 (T kk).2.1 (T kk).2.2.1 ∈ zW) (hfin : (T kk).2.2.2 = false) (hde : parseFieldDescriptor (T kk).2.2.1 = some .int) (q0 : Nat) {a : Nat} {fs : List Value} (he : ws[q0]? = some (a, .inr (ci, fs))) {x : Int32} (hlen : kk < fs.length) (hd : decode cc pc = .ok (.putfield index, 3)) {ws1 : va_W} (hw : ws.set q0 (a, .inr (ci, fs.set kk (.int x))) = ws1) (h : zJ p l e R s m args below meth c g A nL Q ws1 k n (pc + 3) lv st) : zJ p l e R s m args below meth c g A nL Q ws k n pc lv (.int x :: .ref a :: st) :=
  fun H locs ls hP hD hS hl => va_put C.1 C.2.1 C.2.2.2.2.1 hin ty0 hty hnm C.2.2.2.1 C.2.2.2.2.2.1 hP hD hS q0 he hc kk hk (C.2.2.2.2.1 _ hlk) (fun _ h9 => h9) hfin hde rfl rfl hlen hd (fun H1 locs1 hP1 hD1 hS1 => h H1 locs1 ls (hw ▸ hP1) (hw ▸ hD1) hS1 hl)
end ZJ
/-- cells in the middle of a world are changed, the others stay -/
theorem zmid {A0 : Nat → Prop} {D : va_G} {cl : List vw_C} {X Cw Y w1 : va_W} {H H1 : Heap} (hP : va_P D cl (X ++ (Cw ++ Y)) H) (hD : va_D A0 (X ++ (Cw ++ Y))) (hF : ∀ q, va_A Cw H.size q → A0 q) (hk : ∀ q : Nat, q < H.size → ¬ va_A Cw H.size q → H1[q]? = H[q]?) (hP1 : va_P D cl w1 H1) (hD1 : va_D (va_A Cw H.size) w1) : va_P D cl (X ++ (w1 ++ Y)) H1 ∧ va_D A0 (X ++ (w1 ++ Y)) := by
  have iX : ∀ (i : Nat) (q : Nat × va_E), X[i]? = some q → (X ++ (Cw ++ Y))[i]? = some q := fun i q h => by
    rw [List.getElem?_append_left (List.getElem?_eq_some_iff.mp h).1]; exact h
  have iC : ∀ (i : Nat) (q : Nat × va_E), Cw[i]? = some q → (X ++ (Cw ++ Y))[X.length + i]? = some q := fun i q h => by
    rw [List.getElem?_append_right (by omega), Nat.add_sub_cancel_left, List.getElem?_append_left (List.getElem?_eq_some_iff.mp h).1]; exact h
  have iY : ∀ (i : Nat) (q : Nat × va_E), Y[i]? = some q → (X ++ (Cw ++ Y))[X.length + (Cw.length + i)]? = some q := fun i q h => by
    rw [List.getElem?_append_right (by omega), Nat.add_sub_cancel_left, List.getElem?_append_right (by omega), Nat.add_sub_cancel_left]; exact h
  have lX : ∀ (i : Nat) (q : Nat × va_E), X[i]? = some q → i < X.length := fun i q h => (List.getElem?_eq_some_iff.mp h).1
  have lC : ∀ (i : Nat) (q : Nat × va_E), Cw[i]? = some q → i < Cw.length := fun i q h => (List.getElem?_eq_some_iff.mp h).1
  have oX : ∀ (i : Nat) (q : Nat × va_E), X[i]? = some q → q.1 < H.size ∧ ¬ va_A Cw H.size q.1 := by
    intro i q h
    have hl := (hP i q (iX i q h)).lt
    refine ⟨hl, fun z => ?_⟩
    rcases z with ⟨j, e, hj⟩ | z
    · have := hD.1 i (X.length + j) q (q.1, e) (iX i q h) (iC j _ hj) rfl
      have := lX i q h
      omega
    · omega
  have oY : ∀ (i : Nat) (q : Nat × va_E), Y[i]? = some q → q.1 < H.size ∧ ¬ va_A Cw H.size q.1 := by
    intro i q h
    have hl := (hP _ q (iY i q h)).lt
    refine ⟨hl, fun z => ?_⟩
    rcases z with ⟨j, e, hj⟩ | z
    · have := hD.1 _ (X.length + j) q (q.1, e) (iY i q h) (iC j _ hj) rfl
      have := lC j _ hj
      omega
    · omega
  have pX : va_P D cl X H1 := fun i q h => (hP i q (iX i q h)).kept (hk q.1 (oX i q h).1 (oX i q h).2)
  have pY : va_P D cl Y H1 := fun i q h => (hP _ q (iY i q h)).kept (hk q.1 (oY i q h).1 (oY i q h).2)
  have dX : va_D A0 X := ⟨fun i j x y hx hy hxy => hD.1 i j x y (iX i x hx) (iX j y hy) hxy, fun i q h => hD.2 i q (iX i q h)⟩
  have dY : va_D A0 Y := ⟨fun i j x y hx hy hxy => by have := hD.1 _ _ x y (iY i x hx) (iY j y hy) hxy; omega, fun i q h => hD.2 _ q (iY i q h)⟩
  refine ⟨pX.app (hP1.app pY), va_D.app dX (va_D.app (hD1.weaken (fun k q _ h => hF q.1 h)) dY (fun i j x y hx hy hxy => ?_)) (fun i j x y hx hy hxy => ?_)⟩
  · exact (oY j y hy).2 (by rw [← hxy]; exact hD1.2 i x hx)
  · rcases List.mem_append.mp (List.mem_of_getElem? hy) with hm | hm
    · obtain ⟨j2, hj2⟩ := List.getElem?_of_mem hm
      exact (oX i x hx).2 (by rw [hxy]; exact hD1.2 j2 y hj2)
    · obtain ⟨j2, hj2⟩ := List.getElem?_of_mem hm
      have := hD.1 i _ x y (iX i x hx) (iY j2 y hj2) hxy
      have := lX i x hx
      omega
theorem zmidC {A0 : Nat → Prop} {D : va_G} {cl : List vw_C} {X Cw Y : va_W} {H : Heap} (hP : va_P D cl (X ++ (Cw ++ Y)) H) (hD : va_D A0 (X ++ (Cw ++ Y))) : va_P D cl Cw H ∧ va_D A0 Cw := by
  have iC : ∀ (i : Nat) (q : Nat × va_E), Cw[i]? = some q → (X ++ (Cw ++ Y))[X.length + i]? = some q := fun i q h => by
    rw [List.getElem?_append_right (by omega), Nat.add_sub_cancel_left, List.getElem?_append_left (List.getElem?_eq_some_iff.mp h).1]; exact h
  exact ⟨fun i q h => hP _ q (iC i q h), fun i j x y hx hy hxy => by have := hD.1 _ _ x y (iC i x hx) (iC j y hy) hxy; omega, fun i q h => hD.2 _ q (iC i q h)⟩
/-- a method's start -/
def zB (g : zG) (ws : va_W) (sz : Nat) (U : State) : Prop := U.heap.size = sz ∧ va_P g.1 vwCl ws U.heap ∧ va_K g.1 vwCl (zT g) U ∧ va_D (fun _ => True) ws ∧ zS g (va_A ws sz) U U.heap
theorem zB.blind {g : zG} {ws : va_W} {sz : Nat} {av : List Value} : FrameBlind (va_Pc av (zB g ws sz)) := by
  intro a U f mk q
  obtain ⟨q0, q1, qP, qK, qD, qS⟩ := q
  exact ⟨q0, q1, qP, va_K.moved (u := U) (U := U.calling f mk a) (Vm.Alike.refl U.vm) qK, qD, zS.same (s := U) (U := U.calling f mk a) rfl qS⟩
/-- a method's contract: with the world ws, its answer and the world w u behind it meet Q -/
def zMi (l : Launch) (y : MethodName) (cc : ByteArray) (nL : Nat) (ret : Option FieldType) (k mc ms : Nat) (g : zG) (av : List Value) (ws : va_W) {S : Type} (w : S → va_W) (Q : Int32 → S → Prop) : Prop :=
  ∀ sz : Nat, Met l y (zws y cc nL ret) (zR k mc ms) (va_Pc av (zB g ws sz)) (va_Qi Q (fun u t => va_P g.1 vwCl (w u) t.heap ∧ va_D (va_A ws sz) (w u)) (va_A ws sz)) mc ms (va_A ws sz)
def zMl (l : Launch) (y : MethodName) (cc : ByteArray) (nL : Nat) (ret : Option FieldType) (k mc ms : Nat) (g : zG) (av : List Value) (ws : va_W) {S : Type} (w : S → va_W) (Q : Int64 → S → Prop) : Prop :=
  ∀ sz : Nat, Met l y (zws y cc nL ret) (zR k mc ms) (va_Pc av (zB g ws sz)) (va_Ql Q (fun u t => va_P g.1 vwCl (w u) t.heap ∧ va_D (va_A ws sz) (w u)) (va_A ws sz)) mc ms (va_A ws sz)
def zMv (l : Launch) (y : MethodName) (cc : ByteArray) (nL : Nat) (ret : Option FieldType) (k mc ms : Nat) (g : zG) (av : List Value) (ws : va_W) {S : Type} (w : S → va_W) (Q : S → Prop) : Prop :=
  ∀ sz : Nat, Met l y (zws y cc nL ret) (zR k mc ms) (va_Pc av (zB g ws sz)) (va_Qv Q (fun u t => va_P g.1 vwCl (w u) t.heap ∧ va_D (va_A ws sz) (w u)) (va_A ws sz)) mc ms (va_A ws sz)
def zMr (l : Launch) (y : MethodName) (cc : ByteArray) (nL : Nat) (ret : Option FieldType) (k mc ms : Nat) (g : zG) (av : List Value) (ws : va_W) {S : Type} (w : S → va_W) (ad : S → Nat) (Q : S → Prop) : Prop :=
  ∀ sz : Nat, Met l y (zws y cc nL ret) (zR k mc ms) (va_Pc av (zB g ws sz)) (va_Qr Q (fun u a t => a = ad u ∧ va_P g.1 vwCl (w u) t.heap ∧ va_D (va_A ws sz) (w u)) (va_A ws sz)) mc ms (va_A ws sz)
/-- the goal of a walk -/
abbrev zQi (below : List Frame) (args : Array Value) (s : State) (g : zG) (A : Nat → Prop) (k n : Nat) {S : Type} (w : S → va_W) (Q : Int32 → S → Prop) : State → Prop := MQ below (va_Qi Q (fun u t => va_P g.1 vwCl (w u) t.heap ∧ va_D A (w u)) A) args s k n A
abbrev zQl (below : List Frame) (args : Array Value) (s : State) (g : zG) (A : Nat → Prop) (k n : Nat) {S : Type} (w : S → va_W) (Q : Int64 → S → Prop) : State → Prop := MQ below (va_Ql Q (fun u t => va_P g.1 vwCl (w u) t.heap ∧ va_D A (w u)) A) args s k n A
abbrev zQv (below : List Frame) (args : Array Value) (s : State) (g : zG) (A : Nat → Prop) (k n : Nat) {S : Type} (w : S → va_W) (Q : S → Prop) : State → Prop := MQ below (va_Qv Q (fun u t => va_P g.1 vwCl (w u) t.heap ∧ va_D A (w u)) A) args s k n A
abbrev zQr (below : List Frame) (args : Array Value) (s : State) (g : zG) (A : Nat → Prop) (k n : Nat) {S : Type} (w : S → va_W) (ad : S → Nat) (Q : S → Prop) : State → Prop := MQ below (va_Qr Q (fun u a t => a = ad u ∧ va_P g.1 vwCl (w u) t.heap ∧ va_D A (w u)) A) args s k n A
theorem zMi_of {l : Launch} {y : MethodName} {cc : ByteArray} {nL : Nat} {ret : Option FieldType} {k mc ms : Nat} {g : zG} {av : List Value} {ws : va_W} {S : Type} {w : S → va_W} {Q : Int32 → S → Prop} (own : String) (hy : plainName y.cls = true) (ho : y.cls = own) (lv : List (Nat × Value)) (hlv : lv_args 0 av = lv) (hav : (lg_sl av).length ≤ nL)
    (h : ∀ (p : Program) (e : Env) (s : State) (m : MethodId) (args : Array Value) (below : List Frame) (meth : Method) (c : Code) (A : Nat → Prop), zC p s m args meth c g A cc own nL → meth.sig.returnType = ret → meth.name = y.name → zJ p l e (zR k mc ms) s m args below meth c g A nL (zQi below args s g A mc ms w Q) ws 0 0 0 lv []) : zMi l y cc nL ret k mc ms g av ws w Q := by
  intro sz
  refine Met.ofW (cc := cc) (maxL := nL) (ret := ret) hy rfl ?_
  intro p e s m args below meth c s₁ B hml hv
  obtain ⟨rfl, rfl, hP, hK, hD0, hZ⟩ := hv
  have hts := atoms_spec (ws := zws y cc nL ret) B.pre
  have hown : s.vm.findClass y.cls = some m.cls := findClass_of_methodNamed B.named
  subst ho
  have hD := hD0.self (sz := s.heap.size)
  have hl := lv_entry av (n := nL) hav
  rw [lg_entry_eq]
  generalize (lg_sl av ++ List.replicate (nL - (lg_sl av).length) Slot.unset).toArray = ls at hl ⊢
  exact h p e s m _ below meth c (va_A ws s.heap.size) ⟨B.exec, B.bytes, hml, hown, fun w hw => hts w (List.mem_cons_of_mem _ hw), hK, fun q h => Or.inr h, hZ, B.notSynchronized⟩ B.returns (name_of_methodNamed B.named B.method).1 s.heap [] ls hP hD va_S.rf (hlv ▸ hl)
theorem zMl_of {l : Launch} {y : MethodName} {cc : ByteArray} {nL : Nat} {ret : Option FieldType} {k mc ms : Nat} {g : zG} {av : List Value} {ws : va_W} {S : Type} {w : S → va_W} {Q : Int64 → S → Prop} (own : String) (hy : plainName y.cls = true) (ho : y.cls = own) (lv : List (Nat × Value)) (hlv : lv_args 0 av = lv) (hav : (lg_sl av).length ≤ nL)
    (h : ∀ (p : Program) (e : Env) (s : State) (m : MethodId) (args : Array Value) (below : List Frame) (meth : Method) (c : Code) (A : Nat → Prop), zC p s m args meth c g A cc own nL → meth.sig.returnType = ret → meth.name = y.name → zJ p l e (zR k mc ms) s m args below meth c g A nL (zQl below args s g A mc ms w Q) ws 0 0 0 lv []) : zMl l y cc nL ret k mc ms g av ws w Q := by
  intro sz
  refine Met.ofW (cc := cc) (maxL := nL) (ret := ret) hy rfl ?_
  intro p e s m args below meth c s₁ B hml hv
  obtain ⟨rfl, rfl, hP, hK, hD0, hZ⟩ := hv
  have hts := atoms_spec (ws := zws y cc nL ret) B.pre
  have hown : s.vm.findClass y.cls = some m.cls := findClass_of_methodNamed B.named
  subst ho
  have hD := hD0.self (sz := s.heap.size)
  have hl := lv_entry av (n := nL) hav
  rw [lg_entry_eq]
  generalize (lg_sl av ++ List.replicate (nL - (lg_sl av).length) Slot.unset).toArray = ls at hl ⊢
  exact h p e s m _ below meth c (va_A ws s.heap.size) ⟨B.exec, B.bytes, hml, hown, fun w hw => hts w (List.mem_cons_of_mem _ hw), hK, fun q h => Or.inr h, hZ, B.notSynchronized⟩ B.returns (name_of_methodNamed B.named B.method).1 s.heap [] ls hP hD va_S.rf (hlv ▸ hl)
theorem zMv_of {l : Launch} {y : MethodName} {cc : ByteArray} {nL : Nat} {ret : Option FieldType} {k mc ms : Nat} {g : zG} {av : List Value} {ws : va_W} {S : Type} {w : S → va_W} {Q : S → Prop} (own : String) (hy : plainName y.cls = true) (ho : y.cls = own) (lv : List (Nat × Value)) (hlv : lv_args 0 av = lv) (hav : (lg_sl av).length ≤ nL)
    (h : ∀ (p : Program) (e : Env) (s : State) (m : MethodId) (args : Array Value) (below : List Frame) (meth : Method) (c : Code) (A : Nat → Prop), zC p s m args meth c g A cc own nL → meth.sig.returnType = ret → meth.name = y.name → zJ p l e (zR k mc ms) s m args below meth c g A nL (zQv below args s g A mc ms w Q) ws 0 0 0 lv []) : zMv l y cc nL ret k mc ms g av ws w Q := by
  intro sz
  refine Met.ofW (cc := cc) (maxL := nL) (ret := ret) hy rfl ?_
  intro p e s m args below meth c s₁ B hml hv
  obtain ⟨rfl, rfl, hP, hK, hD0, hZ⟩ := hv
  have hts := atoms_spec (ws := zws y cc nL ret) B.pre
  have hown : s.vm.findClass y.cls = some m.cls := findClass_of_methodNamed B.named
  subst ho
  have hD := hD0.self (sz := s.heap.size)
  have hl := lv_entry av (n := nL) hav
  rw [lg_entry_eq]
  generalize (lg_sl av ++ List.replicate (nL - (lg_sl av).length) Slot.unset).toArray = ls at hl ⊢
  exact h p e s m _ below meth c (va_A ws s.heap.size) ⟨B.exec, B.bytes, hml, hown, fun w hw => hts w (List.mem_cons_of_mem _ hw), hK, fun q h => Or.inr h, hZ, B.notSynchronized⟩ B.returns (name_of_methodNamed B.named B.method).1 s.heap [] ls hP hD va_S.rf (hlv ▸ hl)
theorem zMr_of {l : Launch} {y : MethodName} {cc : ByteArray} {nL : Nat} {ret : Option FieldType} {k mc ms : Nat} {g : zG} {av : List Value} {ws : va_W} {S : Type} {w : S → va_W} {ad : S → Nat} {Q : S → Prop} (own : String) (hy : plainName y.cls = true) (ho : y.cls = own) (lv : List (Nat × Value)) (hlv : lv_args 0 av = lv) (hav : (lg_sl av).length ≤ nL)
    (h : ∀ (p : Program) (e : Env) (s : State) (m : MethodId) (args : Array Value) (below : List Frame) (meth : Method) (c : Code) (A : Nat → Prop), zC p s m args meth c g A cc own nL → meth.sig.returnType = ret → meth.name = y.name → zJ p l e (zR k mc ms) s m args below meth c g A nL (zQr below args s g A mc ms w ad Q) ws 0 0 0 lv []) : zMr l y cc nL ret k mc ms g av ws w ad Q := by
  intro sz
  refine Met.ofW (cc := cc) (maxL := nL) (ret := ret) hy rfl ?_
  intro p e s m args below meth c s₁ B hml hv
  obtain ⟨rfl, rfl, hP, hK, hD0, hZ⟩ := hv
  have hts := atoms_spec (ws := zws y cc nL ret) B.pre
  have hown : s.vm.findClass y.cls = some m.cls := findClass_of_methodNamed B.named
  subst ho
  have hD := hD0.self (sz := s.heap.size)
  have hl := lv_entry av (n := nL) hav
  rw [lg_entry_eq]
  generalize (lg_sl av ++ List.replicate (nL - (lg_sl av).length) Slot.unset).toArray = ls at hl ⊢
  exact h p e s m _ below meth c (va_A ws s.heap.size) ⟨B.exec, B.bytes, hml, hown, fun w hw => hts w (List.mem_cons_of_mem _ hw), hK, fun q h => Or.inr h, hZ, B.notSynchronized⟩ B.returns (name_of_methodNamed B.named B.method).1 s.heap [] ls hP hD va_S.rf (hlv ▸ hl)
def zBool (v : Int32) : Prop := v = 0 ∨ v = 1
theorem zBool_nar {v : Int32} (h : zBool v) : narrow .boolean (.int v) = .int v := by
  rcases h with rfl | rfl <;> rfl
/-- what the tables say of a method that is called: an instance's, a static one -/
def zV (y : MethodName) (cc : ByteArray) (n : Nat) (ret : Option FieldType) (a : Nat) : Prop :=
  Cond.code y cc n ret ∈ zW ∧ Cond.instanceMethod y ∈ zW ∧ Cond.selects y.cls y y ∈ zW ∧ Cond.initialized y.cls ∈ zW ∧ (y.cls ≠ "java/lang/invoke/MethodHandle" ∧ y.cls ≠ "java/lang/invoke/VarHandle" ∧ (parseMethodDescriptor y.desc).map (fun d => d.parameters.length) = some a)
def zSt (y : MethodName) (cc : ByteArray) (n : Nat) (ret : Option FieldType) (a : Nat) : Prop :=
  Cond.code y cc n ret ∈ zW ∧ Cond.static y ∈ zW ∧ Cond.initialized y.cls ∈ zW ∧ (y.cls ≠ "java/lang/invoke/MethodHandle" ∧ y.cls ≠ "java/lang/invoke/VarHandle" ∧ (parseMethodDescriptor y.desc).map (fun d => d.parameters.length) = some a)
/-- a constructor -/
def zI (y : MethodName) (cc : ByteArray) (n : Nat) (a : Nat) : Prop :=
  Cond.code y cc n none ∈ zW ∧ Cond.instanceMethod y ∈ zW ∧ Cond.initialized y.cls ∈ zW ∧ y.name = "<init>" ∧ (y.cls ≠ "java/lang/invoke/MethodHandle" ∧ y.cls ≠ "java/lang/invoke/VarHandle" ∧ (parseMethodDescriptor y.desc).map (fun d => d.parameters.length) = some a)
section ZK
variable {p : Program} {l : Launch} {e : Env} {R : Room} {s : State} {m : MethodId} {args : Array Value} {below : List Frame} {meth : Method} {c : Code} {g : zG} {A : Nat → Prop} {nL : Nat} {Q : State → Prop} {ws : va_W} {k n pc : Nat} {lv : List (Nat × Value)} {st st0 : List Value} {cc : ByteArray} {own : String}
variable {y : MethodName} {cc1 : ByteArray} {n1 k1 mc ms index : Nat} {ret : Option FieldType} {As : List Value} {b : Nat} {Qc : Nat → Array Value → State → Outcome → State → Prop}
theorem zrunV (C : zC p s m args meth c g A cc own nL) {H : Heap} {locs : List Loc} {ls : Array Slot} (X Cw Y : va_W) (hP : va_P g.1 vwCl (X ++ (Cw ++ Y)) H) (hD : va_D A (X ++ (Cw ++ Y))) (hS : va_S A s.heap H locs) (hl : lv_has ls nL lv)
    (hM : ∀ sz : Nat, Met l y (zws y cc1 n1 ret) (zR k1 mc ms) (va_Pc (.ref b :: As) (zB g Cw sz)) (Qc sz) mc ms (va_A Cw sz)) (hv : zV y cc1 n1 ret As.length) (hlk : Cond.methodLink own index y ∈ zW) (ci : Nat) {q : vw_C} (hc : vwCl[ci]? = some q) (hq : q.1 = y.cls) {fs : List Value} (q0 : Nat) (he : Cw[q0]? = some (b, .inr (ci, fs)))
    (hR : k1 + 1 ≤ R.frames ∧ 8 + (n1 + 11) + 40 * k1 ≤ R.locals) (hcap : k + mc ≤ R.cells ∧ n + ms ≤ R.slots) (hroom : (st.map fun v => v.category).sum ≤ 8) (hst : st0 = As.reverse ++ .ref b :: st) (hd : decode cc pc = .ok (.invokevirtual index, 3)) :
    va_Run p l e R s m args below meth c H locs k n mc ms (F0 m pc ls st0) st (Qc H.size (Value.ref b :: As).toArray) (va_A Cw H.size) := by
  obtain ⟨hPc, hDc⟩ := zmidC hP hD
  have hF : ∀ q, va_A Cw H.size q → A q := by
    intro q h
    rcases h with ⟨i, e1, h⟩ | h
    · exact hDc.2 i _ h
    · exact C.2.2.2.2.2.2.1 q (Nat.le_trans hS.1 h)
  have hts := C.2.2.2.2.1
  refine va_runV (As := As) (rest := st) ⟨C.1, C.2.1, C.2.2.1, C.2.2.2.1, hts⟩ (hM H.size) ⟨callB_of As.length hts (zgood hv.1) rfl rfl rfl (hts _ hv.2.2.2.1) (hts _ hlk) hv.2.2.2.2 hR, hts _ hv.2.1, hts _ hv.2.2.1⟩ ⟨zB.blind, ?_, fun U hU hW => ⟨rfl, by rw [hU], by rw [hU]; exact hPc, va_K.moved hW.alike C.2.2.2.2.2.1, hDc.weaken (fun _ _ _ _ => trivial), by rw [hU]; exact C.2.2.2.2.2.2.2.1.go hW hS.2.1 hF⟩⟩ rfl rfl hl.1 hst (lv_room hroom) hd hcap
  have hr := va_recv (ci := ci) (q0 := q0) C.2.2.2.2.2.1 hPc hc he
  rw [hq] at hr
  exact hr
theorem zrunS (C : zC p s m args meth c g A cc own nL) {H : Heap} {locs : List Loc} {ls : Array Slot} (X Cw Y : va_W) (hP : va_P g.1 vwCl (X ++ (Cw ++ Y)) H) (hD : va_D A (X ++ (Cw ++ Y))) (hS : va_S A s.heap H locs) (hl : lv_has ls nL lv)
    (hM : ∀ sz : Nat, Met l y (zws y cc1 n1 ret) (zR k1 mc ms) (va_Pc As (zB g Cw sz)) (Qc sz) mc ms (va_A Cw sz)) (hv : zSt y cc1 n1 ret As.length) (hlk : Cond.methodLink own index y ∈ zW)
    (hR : k1 + 1 ≤ R.frames ∧ 8 + (n1 + 11) + 40 * k1 ≤ R.locals) (hcap : k + mc ≤ R.cells ∧ n + ms ≤ R.slots) (hroom : (st.map fun v => v.category).sum ≤ 8) (hst : st0 = As.reverse ++ st) (hd : decode cc pc = .ok (.invokestatic index, 3)) :
    va_Run p l e R s m args below meth c H locs k n mc ms (F0 m pc ls st0) st (Qc H.size As.toArray) (va_A Cw H.size) := by
  obtain ⟨hPc, hDc⟩ := zmidC hP hD
  have hF : ∀ q, va_A Cw H.size q → A q := by
    intro q h
    rcases h with ⟨i, e1, h⟩ | h
    · exact hDc.2 i _ h
    · exact C.2.2.2.2.2.2.1 q (Nat.le_trans hS.1 h)
  have hts := C.2.2.2.2.1
  exact va_runS (As := As) (rest := st) ⟨C.1, C.2.1, C.2.2.1, C.2.2.2.1, hts⟩ (hM H.size) ⟨callB_of As.length hts (zgood hv.1) rfl rfl rfl (hts _ hv.2.2.1) (hts _ hlk) hv.2.2.2 hR, hts _ hv.2.1⟩ ⟨zB.blind, fun U hU hW => ⟨rfl, by rw [hU], by rw [hU]; exact hPc, va_K.moved hW.alike C.2.2.2.2.2.1, hDc.weaken (fun _ _ _ _ => trivial), by rw [hU]; exact C.2.2.2.2.2.2.2.1.go hW hS.2.1 hF⟩⟩ rfl rfl hl.1 hst (lv_room hroom) hd hcap
theorem z_Vi (C : zC p s m args meth c g A cc own nL) (X Cw Y : va_W) (hws : ws = X ++ (Cw ++ Y)) {S : Type} {w : S → va_W} {post : Int32 → S → Prop} (hM : zMi l y cc1 n1 ret k1 mc ms g (.ref b :: As) Cw w post) (hv : zV y cc1 n1 ret As.length) (hlk : Cond.methodLink own index y ∈ zW) (ci : Nat) {q : vw_C} (hc : vwCl[ci]? = some q) (hq : q.1 = y.cls) {fs : List Value} (q0 : Nat) (he : Cw[q0]? = some (b, .inr (ci, fs)))
    (hR : k1 + 1 ≤ R.frames ∧ 8 + (n1 + 11) + 40 * k1 ≤ R.locals) (hcap : k + mc ≤ R.cells ∧ n + ms ≤ R.slots) (hroom : (st.map fun v => v.category).sum ≤ 8) (hst : st0 = As.reverse ++ .ref b :: st) (hd : decode cc pc = .ok (.invokevirtual index, 3))
    (h : ∀ (r : Int32) (u : S), post r u → zJ p l e R s m args below meth c g A nL Q (X ++ (w u ++ Y)) (k + mc) (n + ms) (pc + 3) lv (.int r :: st)) : zJ p l e R s m args below meth c g A nL Q ws k n pc lv st0 := by
  intro H locs ls hP hD hS hl
  subst hws
  obtain ⟨hPc, hDc⟩ := zmidC hP hD
  have hF : ∀ q, va_A Cw H.size q → A q := by
    intro q h
    rcases h with ⟨i, e1, h⟩ | h
    · exact hDc.2 i _ h
    · exact C.2.2.2.2.2.2.1 q (Nat.le_trans hS.1 h)
  refine va_calli (zrunV C X Cw Y hP hD hS hl hM hv hlk ci hc hq q0 he hR hcap hroom hst hd) hS (fun q _ h => hF q h) hF (fun r u t H1 locs1 ht hvm hw hB hz1 hk1 hS1 => ?_)
  obtain ⟨h1, h2⟩ := hB
  rw [ht] at h1
  obtain ⟨hP2, hD2⟩ := zmid hP hD hF hk1 h1 h2
  exact h r u hw H1 locs1 ls hP2 hD2 hS1 hl
theorem z_Si (C : zC p s m args meth c g A cc own nL) (X Cw Y : va_W) (hws : ws = X ++ (Cw ++ Y)) {S : Type} {w : S → va_W} {post : Int32 → S → Prop} (hM : zMi l y cc1 n1 ret k1 mc ms g As Cw w post) (hv : zSt y cc1 n1 ret As.length) (hlk : Cond.methodLink own index y ∈ zW)
    (hR : k1 + 1 ≤ R.frames ∧ 8 + (n1 + 11) + 40 * k1 ≤ R.locals) (hcap : k + mc ≤ R.cells ∧ n + ms ≤ R.slots) (hroom : (st.map fun v => v.category).sum ≤ 8) (hst : st0 = As.reverse ++ st) (hd : decode cc pc = .ok (.invokestatic index, 3))
    (h : ∀ (r : Int32) (u : S), post r u → zJ p l e R s m args below meth c g A nL Q (X ++ (w u ++ Y)) (k + mc) (n + ms) (pc + 3) lv (.int r :: st)) : zJ p l e R s m args below meth c g A nL Q ws k n pc lv st0 := by
  intro H locs ls hP hD hS hl
  subst hws
  obtain ⟨hPc, hDc⟩ := zmidC hP hD
  have hF : ∀ q, va_A Cw H.size q → A q := by
    intro q h
    rcases h with ⟨i, e1, h⟩ | h
    · exact hDc.2 i _ h
    · exact C.2.2.2.2.2.2.1 q (Nat.le_trans hS.1 h)
  refine va_calli (zrunS C X Cw Y hP hD hS hl hM hv hlk hR hcap hroom hst hd) hS (fun q _ h => hF q h) hF (fun r u t H1 locs1 ht hvm hw hB hz1 hk1 hS1 => ?_)
  obtain ⟨h1, h2⟩ := hB
  rw [ht] at h1
  obtain ⟨hP2, hD2⟩ := zmid hP hD hF hk1 h1 h2
  exact h r u hw H1 locs1 ls hP2 hD2 hS1 hl
theorem z_Vl (C : zC p s m args meth c g A cc own nL) (X Cw Y : va_W) (hws : ws = X ++ (Cw ++ Y)) {S : Type} {w : S → va_W} {post : Int64 → S → Prop} (hM : zMl l y cc1 n1 ret k1 mc ms g (.ref b :: As) Cw w post) (hv : zV y cc1 n1 ret As.length) (hlk : Cond.methodLink own index y ∈ zW) (ci : Nat) {q : vw_C} (hc : vwCl[ci]? = some q) (hq : q.1 = y.cls) {fs : List Value} (q0 : Nat) (he : Cw[q0]? = some (b, .inr (ci, fs)))
    (hR : k1 + 1 ≤ R.frames ∧ 8 + (n1 + 11) + 40 * k1 ≤ R.locals) (hcap : k + mc ≤ R.cells ∧ n + ms ≤ R.slots) (hroom : (st.map fun v => v.category).sum ≤ 8) (hst : st0 = As.reverse ++ .ref b :: st) (hd : decode cc pc = .ok (.invokevirtual index, 3))
    (h : ∀ (r : Int64) (u : S), post r u → zJ p l e R s m args below meth c g A nL Q (X ++ (w u ++ Y)) (k + mc) (n + ms) (pc + 3) lv (.long r :: st)) : zJ p l e R s m args below meth c g A nL Q ws k n pc lv st0 := by
  intro H locs ls hP hD hS hl
  subst hws
  obtain ⟨hPc, hDc⟩ := zmidC hP hD
  have hF : ∀ q, va_A Cw H.size q → A q := by
    intro q h
    rcases h with ⟨i, e1, h⟩ | h
    · exact hDc.2 i _ h
    · exact C.2.2.2.2.2.2.1 q (Nat.le_trans hS.1 h)
  refine va_calll (zrunV C X Cw Y hP hD hS hl hM hv hlk ci hc hq q0 he hR hcap hroom hst hd) hS (fun q _ h => hF q h) hF (fun r u t H1 locs1 ht hvm hw hB hz1 hk1 hS1 => ?_)
  obtain ⟨h1, h2⟩ := hB
  rw [ht] at h1
  obtain ⟨hP2, hD2⟩ := zmid hP hD hF hk1 h1 h2
  exact h r u hw H1 locs1 ls hP2 hD2 hS1 hl
theorem z_Sl (C : zC p s m args meth c g A cc own nL) (X Cw Y : va_W) (hws : ws = X ++ (Cw ++ Y)) {S : Type} {w : S → va_W} {post : Int64 → S → Prop} (hM : zMl l y cc1 n1 ret k1 mc ms g As Cw w post) (hv : zSt y cc1 n1 ret As.length) (hlk : Cond.methodLink own index y ∈ zW)
    (hR : k1 + 1 ≤ R.frames ∧ 8 + (n1 + 11) + 40 * k1 ≤ R.locals) (hcap : k + mc ≤ R.cells ∧ n + ms ≤ R.slots) (hroom : (st.map fun v => v.category).sum ≤ 8) (hst : st0 = As.reverse ++ st) (hd : decode cc pc = .ok (.invokestatic index, 3))
    (h : ∀ (r : Int64) (u : S), post r u → zJ p l e R s m args below meth c g A nL Q (X ++ (w u ++ Y)) (k + mc) (n + ms) (pc + 3) lv (.long r :: st)) : zJ p l e R s m args below meth c g A nL Q ws k n pc lv st0 := by
  intro H locs ls hP hD hS hl
  subst hws
  obtain ⟨hPc, hDc⟩ := zmidC hP hD
  have hF : ∀ q, va_A Cw H.size q → A q := by
    intro q h
    rcases h with ⟨i, e1, h⟩ | h
    · exact hDc.2 i _ h
    · exact C.2.2.2.2.2.2.1 q (Nat.le_trans hS.1 h)
  refine va_calll (zrunS C X Cw Y hP hD hS hl hM hv hlk hR hcap hroom hst hd) hS (fun q _ h => hF q h) hF (fun r u t H1 locs1 ht hvm hw hB hz1 hk1 hS1 => ?_)
  obtain ⟨h1, h2⟩ := hB
  rw [ht] at h1
  obtain ⟨hP2, hD2⟩ := zmid hP hD hF hk1 h1 h2
  exact h r u hw H1 locs1 ls hP2 hD2 hS1 hl
theorem z_Vv (C : zC p s m args meth c g A cc own nL) (X Cw Y : va_W) (hws : ws = X ++ (Cw ++ Y)) {S : Type} {w : S → va_W} {post : S → Prop} (hM : zMv l y cc1 n1 ret k1 mc ms g (.ref b :: As) Cw w post) (hv : zV y cc1 n1 ret As.length) (hlk : Cond.methodLink own index y ∈ zW) (ci : Nat) {q : vw_C} (hc : vwCl[ci]? = some q) (hq : q.1 = y.cls) {fs : List Value} (q0 : Nat) (he : Cw[q0]? = some (b, .inr (ci, fs)))
    (hR : k1 + 1 ≤ R.frames ∧ 8 + (n1 + 11) + 40 * k1 ≤ R.locals) (hcap : k + mc ≤ R.cells ∧ n + ms ≤ R.slots) (hroom : (st.map fun v => v.category).sum ≤ 8) (hst : st0 = As.reverse ++ .ref b :: st) (hd : decode cc pc = .ok (.invokevirtual index, 3))
    (h : ∀ (u : S), post u → zJ p l e R s m args below meth c g A nL Q (X ++ (w u ++ Y)) (k + mc) (n + ms) (pc + 3) lv (st)) : zJ p l e R s m args below meth c g A nL Q ws k n pc lv st0 := by
  intro H locs ls hP hD hS hl
  subst hws
  obtain ⟨hPc, hDc⟩ := zmidC hP hD
  have hF : ∀ q, va_A Cw H.size q → A q := by
    intro q h
    rcases h with ⟨i, e1, h⟩ | h
    · exact hDc.2 i _ h
    · exact C.2.2.2.2.2.2.1 q (Nat.le_trans hS.1 h)
  refine va_callv (zrunV C X Cw Y hP hD hS hl hM hv hlk ci hc hq q0 he hR hcap hroom hst hd) hS (fun q _ h => hF q h) hF (fun u t H1 locs1 ht hvm hw hB hz1 hk1 hS1 => ?_)
  obtain ⟨h1, h2⟩ := hB
  rw [ht] at h1
  obtain ⟨hP2, hD2⟩ := zmid hP hD hF hk1 h1 h2
  exact h u hw H1 locs1 ls hP2 hD2 hS1 hl
theorem z_Sv (C : zC p s m args meth c g A cc own nL) (X Cw Y : va_W) (hws : ws = X ++ (Cw ++ Y)) {S : Type} {w : S → va_W} {post : S → Prop} (hM : zMv l y cc1 n1 ret k1 mc ms g As Cw w post) (hv : zSt y cc1 n1 ret As.length) (hlk : Cond.methodLink own index y ∈ zW)
    (hR : k1 + 1 ≤ R.frames ∧ 8 + (n1 + 11) + 40 * k1 ≤ R.locals) (hcap : k + mc ≤ R.cells ∧ n + ms ≤ R.slots) (hroom : (st.map fun v => v.category).sum ≤ 8) (hst : st0 = As.reverse ++ st) (hd : decode cc pc = .ok (.invokestatic index, 3))
    (h : ∀ (u : S), post u → zJ p l e R s m args below meth c g A nL Q (X ++ (w u ++ Y)) (k + mc) (n + ms) (pc + 3) lv (st)) : zJ p l e R s m args below meth c g A nL Q ws k n pc lv st0 := by
  intro H locs ls hP hD hS hl
  subst hws
  obtain ⟨hPc, hDc⟩ := zmidC hP hD
  have hF : ∀ q, va_A Cw H.size q → A q := by
    intro q h
    rcases h with ⟨i, e1, h⟩ | h
    · exact hDc.2 i _ h
    · exact C.2.2.2.2.2.2.1 q (Nat.le_trans hS.1 h)
  refine va_callv (zrunS C X Cw Y hP hD hS hl hM hv hlk hR hcap hroom hst hd) hS (fun q _ h => hF q h) hF (fun u t H1 locs1 ht hvm hw hB hz1 hk1 hS1 => ?_)
  obtain ⟨h1, h2⟩ := hB
  rw [ht] at h1
  obtain ⟨hP2, hD2⟩ := zmid hP hD hF hk1 h1 h2
  exact h u hw H1 locs1 ls hP2 hD2 hS1 hl
theorem z_iret (C : zC p s m args meth c g A cc own nL) (hr : meth.sig.returnType = some .int) {S : Type} {w : S → va_W} {post : Int32 → S → Prop} (u : S) {v : Int32} (hw : ws = w u) (hq : post v u) (hd : decode cc pc = .ok (.ireturn, 1)) : zJ p l e R s m args below meth c g A nL (zQi below args s g A k n w post) ws k n pc lv [.int v] :=
  fun H locs ls hP hD hS hl => W.iret C.1 C.2.1 hr (fun t ht hW => ⟨⟨v, u, rfl, hq, by rw [ht]; exact hw ▸ hP, hw ▸ hD⟩, hS.F ht⟩) hS.2.2 hd C.2.2.2.2.2.2.2.2
theorem z_zret (C : zC p s m args meth c g A cc own nL) (hr : meth.sig.returnType = some .boolean) {S : Type} {w : S → va_W} {post : Int32 → S → Prop} (u : S) {v : Int32} (hw : ws = w u) (hz : zBool v) (hq : post v u) (hd : decode cc pc = .ok (.ireturn, 1)) : zJ p l e R s m args below meth c g A nL (zQi below args s g A k n w post) ws k n pc lv [.int v] :=
  fun H locs ls hP hD hS hl => W.zret C.1 C.2.1 hr (zBool_nar hz) (fun t ht hW => ⟨⟨v, u, rfl, hq, by rw [ht]; exact hw ▸ hP, hw ▸ hD⟩, hS.F ht⟩) hS.2.2 hd C.2.2.2.2.2.2.2.2
theorem z_lret (C : zC p s m args meth c g A cc own nL) (hr : meth.sig.returnType = some .long) {S : Type} {w : S → va_W} {post : Int64 → S → Prop} (u : S) {v : Int64} (hw : ws = w u) (hq : post v u) (hd : decode cc pc = .ok (.lreturn, 1)) : zJ p l e R s m args below meth c g A nL (zQl below args s g A k n w post) ws k n pc lv [.long v] :=
  fun H locs ls hP hD hS hl => W.lret C.1 C.2.1 hr (fun t ht hW => ⟨⟨v, u, rfl, hq, by rw [ht]; exact hw ▸ hP, hw ▸ hD⟩, hS.F ht⟩) hS.2.2 hd C.2.2.2.2.2.2.2.2
theorem z_vret (C : zC p s m args meth c g A cc own nL) (hr : meth.sig.returnType = none) {S : Type} {w : S → va_W} {post : S → Prop} (u : S) (hw : ws = w u) (hq : post u) (hd : decode cc pc = .ok (.return_, 1)) : zJ p l e R s m args below meth c g A nL (zQv below args s g A k n w post) ws k n pc lv [] :=
  fun H locs ls hP hD hS hl => W.vret C.1 C.2.1 hr (fun t ht hW => ⟨⟨u, rfl, hq, by rw [ht]; exact hw ▸ hP, hw ▸ hD⟩, hS.F ht⟩) hS.2.2 hd C.2.2.2.2.2.2.2.2
end ZK
end
section
-- the reference: its state, its world, a row a field
abbrev RS : Type := (Nat → Nat → Int32) × (Nat → Nat → Int64)
def rI (u : RS) (k : Nat) (f : Nat → Int32) : RS := (va_up u.1 k f, u.2)
def rN (u : RS) (k : Nat) (x : Int32) : RS := (va_up u.1 k (fun _ => x), u.2)
def rL (u : RS) (k : Nat) (f : Nat → Int64) : RS := (u.1, va_up u.2 k f)
abbrev zn (i : Int32) : Nat := i.toNatClampNeg
def fR (ad : Nat → Nat) (u : RS) : List Value := [.int (u.1 0 0), .int (u.1 1 0), .ref (ad 1), .ref (ad 2), .ref (ad 3), .ref (ad 4), .ref (ad 5), .ref (ad 6), .int (u.1 8 0), .ref (ad 7), .ref (ad 8), .ref (ad 9), .ref (ad 10), .ref (ad 11), .ref (ad 12), .ref (ad 13), .ref (ad 14), .ref (ad 15), .int (u.1 18 0), .int (u.1 19 0)]
def wR (g : zG) (ad : Nat → Nat) (u : RS) : va_W := [(ad 0, .inr (8, fR ad u)), (ad 1, .inl (g.2.1 0, 6, .inl (u.1 2))), (ad 2, .inl (g.2.1 0, 1065, .inl (u.1 3))), (ad 3, .inl (g.2.1 1, 7, .inr (.inl (u.2 4)))), (ad 4, .inl (g.2.1 0, 8520, .inl (u.1 5))), (ad 5, .inl (g.2.1 1, 56, .inr (.inl (u.2 6)))), (ad 6, .inl (g.2.1 0, 8, .inl (u.1 7))), (ad 7, .inl (g.2.1 0, 2130, .inl (u.1 9))), (ad 8, .inl (g.2.1 1, 14, .inr (.inl (u.2 10)))), (ad 9, .inl (g.2.1 2, 2, .inl (u.1 11))), (ad 10, .inl (g.2.1 0, 1065, .inl (u.1 12))), (ad 11, .inl (g.2.1 1, 7, .inr (.inl (u.2 13)))), (ad 12, .inl (g.2.1 0, 5, .inl (u.1 14))), (ad 13, .inl (g.2.1 0, 4, .inl (u.1 15))), (ad 14, .inl (g.2.1 2, 16, .inl (u.1 16))), (ad 15, .inl (g.2.1 0, 72, .inl (u.1 17)))]
set_option maxRecDepth 20000 in
theorem inX8 : ∀ w ∈ u_ws RX8 TX8 20, w ∈ zW := by
  intro w hw
  have hp : u_ws RX8 TX8 20 = ([874, 876, 878, 880, 882, 884, 886, 888, 890, 892, 894, 896, 898, 900, 902, 904, 906, 908, 910, 912] : List Nat).filterMap (fun i => lw_tbl[i]?) := by decide +kernel
  have hg : (u_ws RX8 TX8 20).all goodWord = true := by decide +kernel
  have h1 := List.all_eq_true.mp hg w hw
  rw [hp] at hw
  obtain ⟨i, -, hi⟩ := List.mem_filterMap.mp hw
  exact zW_at i hi h1
theorem fl8_thrown : Cond.fieldLink RX8 61 "RxQueuesModel" "thrown" "I" ∈ zW := zW_at 854 (by decide +kernel) rfl
theorem fl8_status : Cond.fieldLink RX8 65 "RxQueuesModel" "status" "I" ∈ zW := zW_at 855 (by decide +kernel) rfl
theorem fl8_refusals : Cond.fieldLink RX8 7 "RxQueuesModel" "refusals" "[I" ∈ zW := zW_at 856 (by decide +kernel) rfl
theorem fl8_row : Cond.fieldLink RX8 13 "RxQueuesModel" "row" "[I" ∈ zW := zW_at 857 (by decide +kernel) rfl
theorem fl8_sums : Cond.fieldLink RX8 16 "RxQueuesModel" "sums" "[J" ∈ zW := zW_at 858 (by decide +kernel) rfl
theorem fl8_undos : Cond.fieldLink RX8 20 "RxQueuesModel" "undos" "[I" ∈ zW := zW_at 859 (by decide +kernel) rfl
theorem fl8_undoSums : Cond.fieldLink RX8 23 "RxQueuesModel" "undoSums" "[J" ∈ zW := zW_at 860 (by decide +kernel) rfl
theorem fl8_sorts : Cond.fieldLink RX8 26 "RxQueuesModel" "sorts" "[I" ∈ zW := zW_at 861 (by decide +kernel) rfl
theorem fl8_nUndo : Cond.fieldLink RX8 68 "RxQueuesModel" "nUndo" "I" ∈ zW := zW_at 862 (by decide +kernel) rfl
theorem fl8_images : Cond.fieldLink RX8 29 "RxQueuesModel" "images" "[I" ∈ zW := zW_at 863 (by decide +kernel) rfl
theorem fl8_imageSums : Cond.fieldLink RX8 32 "RxQueuesModel" "imageSums" "[J" ∈ zW := zW_at 864 (by decide +kernel) rfl
theorem fl8_isKept : Cond.fieldLink RX8 35 "RxQueuesModel" "isKept" "[Z" ∈ zW := zW_at 865 (by decide +kernel) rfl
theorem fl8_ahead : Cond.fieldLink RX8 39 "RxQueuesModel" "ahead" "[I" ∈ zW := zW_at 866 (by decide +kernel) rfl
theorem fl8_aheadSums : Cond.fieldLink RX8 42 "RxQueuesModel" "aheadSums" "[J" ∈ zW := zW_at 867 (by decide +kernel) rfl
theorem fl8_fields : Cond.fieldLink RX8 45 "RxQueuesModel" "fields" "[I" ∈ zW := zW_at 868 (by decide +kernel) rfl
theorem fl8_share : Cond.fieldLink RX8 48 "RxQueuesModel" "share" "[I" ∈ zW := zW_at 869 (by decide +kernel) rfl
theorem fl8_laid : Cond.fieldLink RX8 51 "RxQueuesModel" "laid" "[Z" ∈ zW := zW_at 870 (by decide +kernel) rfl
theorem fl8_open : Cond.fieldLink RX8 54 "RxQueuesModel" "open" "[I" ∈ zW := zW_at 871 (by decide +kernel) rfl
theorem fl8_givenMany : Cond.fieldLink RX8 209 "RxQueuesModel" "givenMany" "I" ∈ zW := zW_at 872 (by decide +kernel) rfl
theorem fl8_callMany : Cond.fieldLink RX8 222 "RxQueuesModel" "callMany" "I" ∈ zW := zW_at 873 (by decide +kernel) rfl
section ZR
variable {p : Program} {l : Launch} {e : Env} {R : Room} {s : State} {m : MethodId} {args : Array Value} {below : List Frame} {meth : Method} {c : Code} {g : zG} {A : Nat → Prop} {nL : Nat} {Q : State → Prop} {k n pc : Nat} {lv : List (Nat × Value)} {st st0 : List Value} {cc : ByteArray} {ad : Nat → Nat} {u : RS}
theorem gR_thrown (C : zC p s m args meth c g A cc RX8 nL) (hd : decode cc pc = .ok (.getfield 61, 3)) (h : zJ p l e R s m args below meth c g A nL Q (wR g ad u) k n (pc + 3) lv (.int (u.1 0 0) :: st)) : zJ p l e R s m args below meth c g A nL Q (wR g ad u) k n pc lv (.ref (ad 0) :: st) :=
  z_get (T := TX8) (N := 20) C inX8 (ci := 8) rfl 0 (by decide) fl8_thrown 0 rfl rfl hd h
theorem pR_thrown (C : zC p s m args meth c g A cc RX8 nL) {x : Int32} (hd : decode cc pc = .ok (.putfield 61, 3)) (h : zJ p l e R s m args below meth c g A nL Q (wR g ad (rN u 0 x)) k n (pc + 3) lv st) : zJ p l e R s m args below meth c g A nL Q (wR g ad u) k n pc lv (.int x :: .ref (ad 0) :: st) :=
  z_puti (T := TX8) (N := 20) C inX8 tyX8 tyX8_ok nmX8 (ci := 8) rfl 0 (by decide) fl8_thrown rfl (by decide +kernel) 0 (fs := fR ad u) rfl (Nat.le_of_ble_eq_true rfl) hd (ws1 := wR g ad (rN u 0 x)) rfl h
theorem gR_status (C : zC p s m args meth c g A cc RX8 nL) (hd : decode cc pc = .ok (.getfield 65, 3)) (h : zJ p l e R s m args below meth c g A nL Q (wR g ad u) k n (pc + 3) lv (.int (u.1 1 0) :: st)) : zJ p l e R s m args below meth c g A nL Q (wR g ad u) k n pc lv (.ref (ad 0) :: st) :=
  z_get (T := TX8) (N := 20) C inX8 (ci := 8) rfl 1 (by decide) fl8_status 0 rfl rfl hd h
theorem pR_status (C : zC p s m args meth c g A cc RX8 nL) {x : Int32} (hd : decode cc pc = .ok (.putfield 65, 3)) (h : zJ p l e R s m args below meth c g A nL Q (wR g ad (rN u 1 x)) k n (pc + 3) lv st) : zJ p l e R s m args below meth c g A nL Q (wR g ad u) k n pc lv (.int x :: .ref (ad 0) :: st) :=
  z_puti (T := TX8) (N := 20) C inX8 tyX8 tyX8_ok nmX8 (ci := 8) rfl 1 (by decide) fl8_status rfl (by decide +kernel) 0 (fs := fR ad u) rfl (Nat.le_of_ble_eq_true rfl) hd (ws1 := wR g ad (rN u 1 x)) rfl h
theorem gR_refusals (C : zC p s m args meth c g A cc RX8 nL) (hd : decode cc pc = .ok (.getfield 7, 3)) (h : zJ p l e R s m args below meth c g A nL Q (wR g ad u) k n (pc + 3) lv (.ref (ad 1) :: st)) : zJ p l e R s m args below meth c g A nL Q (wR g ad u) k n pc lv (.ref (ad 0) :: st) :=
  z_get (T := TX8) (N := 20) C inX8 (ci := 8) rfl 2 (by decide) fl8_refusals 0 rfl rfl hd h
theorem lR_refusals (C : zC p s m args meth c g A cc RX8 nL) {x : Int32} (hin : vp_in x 6) (hd : decode cc pc = .ok (.iaload, 1)) (h : zJ p l e R s m args below meth c g A nL Q (wR g ad u) k n (pc + 1) lv (.int (u.1 2 (zn x)) :: st)) : zJ p l e R s m args below meth c g A nL Q (wR g ad u) k n pc lv (.int x :: .ref (ad 1) :: st) :=
  z_iald C 1 rfl hin hd h
theorem sR_refusals (C : zC p s m args meth c g A cc RX8 nL) {x : Int32} {v : Int32} (hin : vp_in x 6) (hd : decode cc pc = .ok (.iastore, 1)) (h : zJ p l e R s m args below meth c g A nL Q (wR g ad (rI u 2 (upd (u.1 2) (zn x) v))) k n (pc + 1) lv st) : zJ p l e R s m args below meth c g A nL Q (wR g ad u) k n pc lv (.int v :: .int x :: .ref (ad 1) :: st) :=
  z_iast C 1 rfl hin hd rfl h
theorem lRn_refusals (C : zC p s m args meth c g A cc RX8 nL) {x : Int32} (j : Nat) (hj : zn x = j) (hin : vp_in x 6) (hd : decode cc pc = .ok (.iaload, 1)) (h : zJ p l e R s m args below meth c g A nL Q (wR g ad u) k n (pc + 1) lv (.int (u.1 2 j) :: st)) : zJ p l e R s m args below meth c g A nL Q (wR g ad u) k n pc lv (.int x :: .ref (ad 1) :: st) := by
  subst hj
  exact lR_refusals C hin hd h
theorem sRn_refusals (C : zC p s m args meth c g A cc RX8 nL) {x : Int32} {v : Int32} (j : Nat) (hj : zn x = j) (hin : vp_in x 6) (hd : decode cc pc = .ok (.iastore, 1)) (h : zJ p l e R s m args below meth c g A nL Q (wR g ad (rI u 2 (upd (u.1 2) j v))) k n (pc + 1) lv st) : zJ p l e R s m args below meth c g A nL Q (wR g ad u) k n pc lv (.int v :: .int x :: .ref (ad 1) :: st) := by
  subst hj
  exact sR_refusals C hin hd h
theorem gR_row (C : zC p s m args meth c g A cc RX8 nL) (hd : decode cc pc = .ok (.getfield 13, 3)) (h : zJ p l e R s m args below meth c g A nL Q (wR g ad u) k n (pc + 3) lv (.ref (ad 2) :: st)) : zJ p l e R s m args below meth c g A nL Q (wR g ad u) k n pc lv (.ref (ad 0) :: st) :=
  z_get (T := TX8) (N := 20) C inX8 (ci := 8) rfl 3 (by decide) fl8_row 0 rfl rfl hd h
theorem lR_row (C : zC p s m args meth c g A cc RX8 nL) {x : Int32} (hin : vp_in x 1065) (hd : decode cc pc = .ok (.iaload, 1)) (h : zJ p l e R s m args below meth c g A nL Q (wR g ad u) k n (pc + 1) lv (.int (u.1 3 (zn x)) :: st)) : zJ p l e R s m args below meth c g A nL Q (wR g ad u) k n pc lv (.int x :: .ref (ad 2) :: st) :=
  z_iald C 2 rfl hin hd h
theorem sR_row (C : zC p s m args meth c g A cc RX8 nL) {x : Int32} {v : Int32} (hin : vp_in x 1065) (hd : decode cc pc = .ok (.iastore, 1)) (h : zJ p l e R s m args below meth c g A nL Q (wR g ad (rI u 3 (upd (u.1 3) (zn x) v))) k n (pc + 1) lv st) : zJ p l e R s m args below meth c g A nL Q (wR g ad u) k n pc lv (.int v :: .int x :: .ref (ad 2) :: st) :=
  z_iast C 2 rfl hin hd rfl h
theorem lRn_row (C : zC p s m args meth c g A cc RX8 nL) {x : Int32} (j : Nat) (hj : zn x = j) (hin : vp_in x 1065) (hd : decode cc pc = .ok (.iaload, 1)) (h : zJ p l e R s m args below meth c g A nL Q (wR g ad u) k n (pc + 1) lv (.int (u.1 3 j) :: st)) : zJ p l e R s m args below meth c g A nL Q (wR g ad u) k n pc lv (.int x :: .ref (ad 2) :: st) := by
  subst hj
  exact lR_row C hin hd h
theorem sRn_row (C : zC p s m args meth c g A cc RX8 nL) {x : Int32} {v : Int32} (j : Nat) (hj : zn x = j) (hin : vp_in x 1065) (hd : decode cc pc = .ok (.iastore, 1)) (h : zJ p l e R s m args below meth c g A nL Q (wR g ad (rI u 3 (upd (u.1 3) j v))) k n (pc + 1) lv st) : zJ p l e R s m args below meth c g A nL Q (wR g ad u) k n pc lv (.int v :: .int x :: .ref (ad 2) :: st) := by
  subst hj
  exact sR_row C hin hd h
theorem gR_sums (C : zC p s m args meth c g A cc RX8 nL) (hd : decode cc pc = .ok (.getfield 16, 3)) (h : zJ p l e R s m args below meth c g A nL Q (wR g ad u) k n (pc + 3) lv (.ref (ad 3) :: st)) : zJ p l e R s m args below meth c g A nL Q (wR g ad u) k n pc lv (.ref (ad 0) :: st) :=
  z_get (T := TX8) (N := 20) C inX8 (ci := 8) rfl 4 (by decide) fl8_sums 0 rfl rfl hd h
theorem lR_sums (C : zC p s m args meth c g A cc RX8 nL) {x : Int32} (hin : vp_in x 7) (hd : decode cc pc = .ok (.laload, 1)) (h : zJ p l e R s m args below meth c g A nL Q (wR g ad u) k n (pc + 1) lv (.long (u.2 4 (zn x)) :: st)) : zJ p l e R s m args below meth c g A nL Q (wR g ad u) k n pc lv (.int x :: .ref (ad 3) :: st) :=
  z_lald C 3 rfl hin hd h
theorem sR_sums (C : zC p s m args meth c g A cc RX8 nL) {x : Int32} {v : Int64} (hin : vp_in x 7) (hd : decode cc pc = .ok (.lastore, 1)) (h : zJ p l e R s m args below meth c g A nL Q (wR g ad (rL u 4 (vp_updL (u.2 4) (zn x) v))) k n (pc + 1) lv st) : zJ p l e R s m args below meth c g A nL Q (wR g ad u) k n pc lv (.long v :: .int x :: .ref (ad 3) :: st) :=
  z_last C 3 rfl hin hd rfl h
theorem lRn_sums (C : zC p s m args meth c g A cc RX8 nL) {x : Int32} (j : Nat) (hj : zn x = j) (hin : vp_in x 7) (hd : decode cc pc = .ok (.laload, 1)) (h : zJ p l e R s m args below meth c g A nL Q (wR g ad u) k n (pc + 1) lv (.long (u.2 4 j) :: st)) : zJ p l e R s m args below meth c g A nL Q (wR g ad u) k n pc lv (.int x :: .ref (ad 3) :: st) := by
  subst hj
  exact lR_sums C hin hd h
theorem sRn_sums (C : zC p s m args meth c g A cc RX8 nL) {x : Int32} {v : Int64} (j : Nat) (hj : zn x = j) (hin : vp_in x 7) (hd : decode cc pc = .ok (.lastore, 1)) (h : zJ p l e R s m args below meth c g A nL Q (wR g ad (rL u 4 (vp_updL (u.2 4) j v))) k n (pc + 1) lv st) : zJ p l e R s m args below meth c g A nL Q (wR g ad u) k n pc lv (.long v :: .int x :: .ref (ad 3) :: st) := by
  subst hj
  exact sR_sums C hin hd h
theorem gR_undos (C : zC p s m args meth c g A cc RX8 nL) (hd : decode cc pc = .ok (.getfield 20, 3)) (h : zJ p l e R s m args below meth c g A nL Q (wR g ad u) k n (pc + 3) lv (.ref (ad 4) :: st)) : zJ p l e R s m args below meth c g A nL Q (wR g ad u) k n pc lv (.ref (ad 0) :: st) :=
  z_get (T := TX8) (N := 20) C inX8 (ci := 8) rfl 5 (by decide) fl8_undos 0 rfl rfl hd h
theorem lR_undos (C : zC p s m args meth c g A cc RX8 nL) {x : Int32} (hin : vp_in x 8520) (hd : decode cc pc = .ok (.iaload, 1)) (h : zJ p l e R s m args below meth c g A nL Q (wR g ad u) k n (pc + 1) lv (.int (u.1 5 (zn x)) :: st)) : zJ p l e R s m args below meth c g A nL Q (wR g ad u) k n pc lv (.int x :: .ref (ad 4) :: st) :=
  z_iald C 4 rfl hin hd h
theorem sR_undos (C : zC p s m args meth c g A cc RX8 nL) {x : Int32} {v : Int32} (hin : vp_in x 8520) (hd : decode cc pc = .ok (.iastore, 1)) (h : zJ p l e R s m args below meth c g A nL Q (wR g ad (rI u 5 (upd (u.1 5) (zn x) v))) k n (pc + 1) lv st) : zJ p l e R s m args below meth c g A nL Q (wR g ad u) k n pc lv (.int v :: .int x :: .ref (ad 4) :: st) :=
  z_iast C 4 rfl hin hd rfl h
theorem lRn_undos (C : zC p s m args meth c g A cc RX8 nL) {x : Int32} (j : Nat) (hj : zn x = j) (hin : vp_in x 8520) (hd : decode cc pc = .ok (.iaload, 1)) (h : zJ p l e R s m args below meth c g A nL Q (wR g ad u) k n (pc + 1) lv (.int (u.1 5 j) :: st)) : zJ p l e R s m args below meth c g A nL Q (wR g ad u) k n pc lv (.int x :: .ref (ad 4) :: st) := by
  subst hj
  exact lR_undos C hin hd h
theorem sRn_undos (C : zC p s m args meth c g A cc RX8 nL) {x : Int32} {v : Int32} (j : Nat) (hj : zn x = j) (hin : vp_in x 8520) (hd : decode cc pc = .ok (.iastore, 1)) (h : zJ p l e R s m args below meth c g A nL Q (wR g ad (rI u 5 (upd (u.1 5) j v))) k n (pc + 1) lv st) : zJ p l e R s m args below meth c g A nL Q (wR g ad u) k n pc lv (.int v :: .int x :: .ref (ad 4) :: st) := by
  subst hj
  exact sR_undos C hin hd h
theorem gR_undoSums (C : zC p s m args meth c g A cc RX8 nL) (hd : decode cc pc = .ok (.getfield 23, 3)) (h : zJ p l e R s m args below meth c g A nL Q (wR g ad u) k n (pc + 3) lv (.ref (ad 5) :: st)) : zJ p l e R s m args below meth c g A nL Q (wR g ad u) k n pc lv (.ref (ad 0) :: st) :=
  z_get (T := TX8) (N := 20) C inX8 (ci := 8) rfl 6 (by decide) fl8_undoSums 0 rfl rfl hd h
theorem lR_undoSums (C : zC p s m args meth c g A cc RX8 nL) {x : Int32} (hin : vp_in x 56) (hd : decode cc pc = .ok (.laload, 1)) (h : zJ p l e R s m args below meth c g A nL Q (wR g ad u) k n (pc + 1) lv (.long (u.2 6 (zn x)) :: st)) : zJ p l e R s m args below meth c g A nL Q (wR g ad u) k n pc lv (.int x :: .ref (ad 5) :: st) :=
  z_lald C 5 rfl hin hd h
theorem sR_undoSums (C : zC p s m args meth c g A cc RX8 nL) {x : Int32} {v : Int64} (hin : vp_in x 56) (hd : decode cc pc = .ok (.lastore, 1)) (h : zJ p l e R s m args below meth c g A nL Q (wR g ad (rL u 6 (vp_updL (u.2 6) (zn x) v))) k n (pc + 1) lv st) : zJ p l e R s m args below meth c g A nL Q (wR g ad u) k n pc lv (.long v :: .int x :: .ref (ad 5) :: st) :=
  z_last C 5 rfl hin hd rfl h
theorem lRn_undoSums (C : zC p s m args meth c g A cc RX8 nL) {x : Int32} (j : Nat) (hj : zn x = j) (hin : vp_in x 56) (hd : decode cc pc = .ok (.laload, 1)) (h : zJ p l e R s m args below meth c g A nL Q (wR g ad u) k n (pc + 1) lv (.long (u.2 6 j) :: st)) : zJ p l e R s m args below meth c g A nL Q (wR g ad u) k n pc lv (.int x :: .ref (ad 5) :: st) := by
  subst hj
  exact lR_undoSums C hin hd h
theorem sRn_undoSums (C : zC p s m args meth c g A cc RX8 nL) {x : Int32} {v : Int64} (j : Nat) (hj : zn x = j) (hin : vp_in x 56) (hd : decode cc pc = .ok (.lastore, 1)) (h : zJ p l e R s m args below meth c g A nL Q (wR g ad (rL u 6 (vp_updL (u.2 6) j v))) k n (pc + 1) lv st) : zJ p l e R s m args below meth c g A nL Q (wR g ad u) k n pc lv (.long v :: .int x :: .ref (ad 5) :: st) := by
  subst hj
  exact sR_undoSums C hin hd h
theorem gR_sorts (C : zC p s m args meth c g A cc RX8 nL) (hd : decode cc pc = .ok (.getfield 26, 3)) (h : zJ p l e R s m args below meth c g A nL Q (wR g ad u) k n (pc + 3) lv (.ref (ad 6) :: st)) : zJ p l e R s m args below meth c g A nL Q (wR g ad u) k n pc lv (.ref (ad 0) :: st) :=
  z_get (T := TX8) (N := 20) C inX8 (ci := 8) rfl 7 (by decide) fl8_sorts 0 rfl rfl hd h
theorem lR_sorts (C : zC p s m args meth c g A cc RX8 nL) {x : Int32} (hin : vp_in x 8) (hd : decode cc pc = .ok (.iaload, 1)) (h : zJ p l e R s m args below meth c g A nL Q (wR g ad u) k n (pc + 1) lv (.int (u.1 7 (zn x)) :: st)) : zJ p l e R s m args below meth c g A nL Q (wR g ad u) k n pc lv (.int x :: .ref (ad 6) :: st) :=
  z_iald C 6 rfl hin hd h
theorem sR_sorts (C : zC p s m args meth c g A cc RX8 nL) {x : Int32} {v : Int32} (hin : vp_in x 8) (hd : decode cc pc = .ok (.iastore, 1)) (h : zJ p l e R s m args below meth c g A nL Q (wR g ad (rI u 7 (upd (u.1 7) (zn x) v))) k n (pc + 1) lv st) : zJ p l e R s m args below meth c g A nL Q (wR g ad u) k n pc lv (.int v :: .int x :: .ref (ad 6) :: st) :=
  z_iast C 6 rfl hin hd rfl h
theorem lRn_sorts (C : zC p s m args meth c g A cc RX8 nL) {x : Int32} (j : Nat) (hj : zn x = j) (hin : vp_in x 8) (hd : decode cc pc = .ok (.iaload, 1)) (h : zJ p l e R s m args below meth c g A nL Q (wR g ad u) k n (pc + 1) lv (.int (u.1 7 j) :: st)) : zJ p l e R s m args below meth c g A nL Q (wR g ad u) k n pc lv (.int x :: .ref (ad 6) :: st) := by
  subst hj
  exact lR_sorts C hin hd h
theorem sRn_sorts (C : zC p s m args meth c g A cc RX8 nL) {x : Int32} {v : Int32} (j : Nat) (hj : zn x = j) (hin : vp_in x 8) (hd : decode cc pc = .ok (.iastore, 1)) (h : zJ p l e R s m args below meth c g A nL Q (wR g ad (rI u 7 (upd (u.1 7) j v))) k n (pc + 1) lv st) : zJ p l e R s m args below meth c g A nL Q (wR g ad u) k n pc lv (.int v :: .int x :: .ref (ad 6) :: st) := by
  subst hj
  exact sR_sorts C hin hd h
theorem gR_nUndo (C : zC p s m args meth c g A cc RX8 nL) (hd : decode cc pc = .ok (.getfield 68, 3)) (h : zJ p l e R s m args below meth c g A nL Q (wR g ad u) k n (pc + 3) lv (.int (u.1 8 0) :: st)) : zJ p l e R s m args below meth c g A nL Q (wR g ad u) k n pc lv (.ref (ad 0) :: st) :=
  z_get (T := TX8) (N := 20) C inX8 (ci := 8) rfl 8 (by decide) fl8_nUndo 0 rfl rfl hd h
theorem pR_nUndo (C : zC p s m args meth c g A cc RX8 nL) {x : Int32} (hd : decode cc pc = .ok (.putfield 68, 3)) (h : zJ p l e R s m args below meth c g A nL Q (wR g ad (rN u 8 x)) k n (pc + 3) lv st) : zJ p l e R s m args below meth c g A nL Q (wR g ad u) k n pc lv (.int x :: .ref (ad 0) :: st) :=
  z_puti (T := TX8) (N := 20) C inX8 tyX8 tyX8_ok nmX8 (ci := 8) rfl 8 (by decide) fl8_nUndo rfl (by decide +kernel) 0 (fs := fR ad u) rfl (Nat.le_of_ble_eq_true rfl) hd (ws1 := wR g ad (rN u 8 x)) rfl h
theorem gR_images (C : zC p s m args meth c g A cc RX8 nL) (hd : decode cc pc = .ok (.getfield 29, 3)) (h : zJ p l e R s m args below meth c g A nL Q (wR g ad u) k n (pc + 3) lv (.ref (ad 7) :: st)) : zJ p l e R s m args below meth c g A nL Q (wR g ad u) k n pc lv (.ref (ad 0) :: st) :=
  z_get (T := TX8) (N := 20) C inX8 (ci := 8) rfl 9 (by decide) fl8_images 0 rfl rfl hd h
theorem lR_images (C : zC p s m args meth c g A cc RX8 nL) {x : Int32} (hin : vp_in x 2130) (hd : decode cc pc = .ok (.iaload, 1)) (h : zJ p l e R s m args below meth c g A nL Q (wR g ad u) k n (pc + 1) lv (.int (u.1 9 (zn x)) :: st)) : zJ p l e R s m args below meth c g A nL Q (wR g ad u) k n pc lv (.int x :: .ref (ad 7) :: st) :=
  z_iald C 7 rfl hin hd h
theorem sR_images (C : zC p s m args meth c g A cc RX8 nL) {x : Int32} {v : Int32} (hin : vp_in x 2130) (hd : decode cc pc = .ok (.iastore, 1)) (h : zJ p l e R s m args below meth c g A nL Q (wR g ad (rI u 9 (upd (u.1 9) (zn x) v))) k n (pc + 1) lv st) : zJ p l e R s m args below meth c g A nL Q (wR g ad u) k n pc lv (.int v :: .int x :: .ref (ad 7) :: st) :=
  z_iast C 7 rfl hin hd rfl h
theorem lRn_images (C : zC p s m args meth c g A cc RX8 nL) {x : Int32} (j : Nat) (hj : zn x = j) (hin : vp_in x 2130) (hd : decode cc pc = .ok (.iaload, 1)) (h : zJ p l e R s m args below meth c g A nL Q (wR g ad u) k n (pc + 1) lv (.int (u.1 9 j) :: st)) : zJ p l e R s m args below meth c g A nL Q (wR g ad u) k n pc lv (.int x :: .ref (ad 7) :: st) := by
  subst hj
  exact lR_images C hin hd h
theorem sRn_images (C : zC p s m args meth c g A cc RX8 nL) {x : Int32} {v : Int32} (j : Nat) (hj : zn x = j) (hin : vp_in x 2130) (hd : decode cc pc = .ok (.iastore, 1)) (h : zJ p l e R s m args below meth c g A nL Q (wR g ad (rI u 9 (upd (u.1 9) j v))) k n (pc + 1) lv st) : zJ p l e R s m args below meth c g A nL Q (wR g ad u) k n pc lv (.int v :: .int x :: .ref (ad 7) :: st) := by
  subst hj
  exact sR_images C hin hd h
theorem gR_imageSums (C : zC p s m args meth c g A cc RX8 nL) (hd : decode cc pc = .ok (.getfield 32, 3)) (h : zJ p l e R s m args below meth c g A nL Q (wR g ad u) k n (pc + 3) lv (.ref (ad 8) :: st)) : zJ p l e R s m args below meth c g A nL Q (wR g ad u) k n pc lv (.ref (ad 0) :: st) :=
  z_get (T := TX8) (N := 20) C inX8 (ci := 8) rfl 10 (by decide) fl8_imageSums 0 rfl rfl hd h
theorem lR_imageSums (C : zC p s m args meth c g A cc RX8 nL) {x : Int32} (hin : vp_in x 14) (hd : decode cc pc = .ok (.laload, 1)) (h : zJ p l e R s m args below meth c g A nL Q (wR g ad u) k n (pc + 1) lv (.long (u.2 10 (zn x)) :: st)) : zJ p l e R s m args below meth c g A nL Q (wR g ad u) k n pc lv (.int x :: .ref (ad 8) :: st) :=
  z_lald C 8 rfl hin hd h
theorem sR_imageSums (C : zC p s m args meth c g A cc RX8 nL) {x : Int32} {v : Int64} (hin : vp_in x 14) (hd : decode cc pc = .ok (.lastore, 1)) (h : zJ p l e R s m args below meth c g A nL Q (wR g ad (rL u 10 (vp_updL (u.2 10) (zn x) v))) k n (pc + 1) lv st) : zJ p l e R s m args below meth c g A nL Q (wR g ad u) k n pc lv (.long v :: .int x :: .ref (ad 8) :: st) :=
  z_last C 8 rfl hin hd rfl h
theorem lRn_imageSums (C : zC p s m args meth c g A cc RX8 nL) {x : Int32} (j : Nat) (hj : zn x = j) (hin : vp_in x 14) (hd : decode cc pc = .ok (.laload, 1)) (h : zJ p l e R s m args below meth c g A nL Q (wR g ad u) k n (pc + 1) lv (.long (u.2 10 j) :: st)) : zJ p l e R s m args below meth c g A nL Q (wR g ad u) k n pc lv (.int x :: .ref (ad 8) :: st) := by
  subst hj
  exact lR_imageSums C hin hd h
theorem sRn_imageSums (C : zC p s m args meth c g A cc RX8 nL) {x : Int32} {v : Int64} (j : Nat) (hj : zn x = j) (hin : vp_in x 14) (hd : decode cc pc = .ok (.lastore, 1)) (h : zJ p l e R s m args below meth c g A nL Q (wR g ad (rL u 10 (vp_updL (u.2 10) j v))) k n (pc + 1) lv st) : zJ p l e R s m args below meth c g A nL Q (wR g ad u) k n pc lv (.long v :: .int x :: .ref (ad 8) :: st) := by
  subst hj
  exact sR_imageSums C hin hd h
theorem gR_isKept (C : zC p s m args meth c g A cc RX8 nL) (hd : decode cc pc = .ok (.getfield 35, 3)) (h : zJ p l e R s m args below meth c g A nL Q (wR g ad u) k n (pc + 3) lv (.ref (ad 9) :: st)) : zJ p l e R s m args below meth c g A nL Q (wR g ad u) k n pc lv (.ref (ad 0) :: st) :=
  z_get (T := TX8) (N := 20) C inX8 (ci := 8) rfl 11 (by decide) fl8_isKept 0 rfl rfl hd h
theorem lR_isKept (C : zC p s m args meth c g A cc RX8 nL) {x : Int32} (hin : vp_in x 2) (hd : decode cc pc = .ok (.baload, 1)) (h : zJ p l e R s m args below meth c g A nL Q (wR g ad u) k n (pc + 1) lv (.int (u.1 11 (zn x)) :: st)) : zJ p l e R s m args below meth c g A nL Q (wR g ad u) k n pc lv (.int x :: .ref (ad 9) :: st) :=
  z_zald C 9 rfl hin hd h
theorem sR_isKept (C : zC p s m args meth c g A cc RX8 nL) {x : Int32} {v : Int32} (hin : vp_in x 2) (hd : decode cc pc = .ok (.bastore, 1)) (h : zJ p l e R s m args below meth c g A nL Q (wR g ad (rI u 11 (upd (u.1 11) (zn x) (vp_nar .boolean v)))) k n (pc + 1) lv st) : zJ p l e R s m args below meth c g A nL Q (wR g ad u) k n pc lv (.int v :: .int x :: .ref (ad 9) :: st) :=
  z_zast C 9 rfl hin hd rfl h
theorem lRn_isKept (C : zC p s m args meth c g A cc RX8 nL) {x : Int32} (j : Nat) (hj : zn x = j) (hin : vp_in x 2) (hd : decode cc pc = .ok (.baload, 1)) (h : zJ p l e R s m args below meth c g A nL Q (wR g ad u) k n (pc + 1) lv (.int (u.1 11 j) :: st)) : zJ p l e R s m args below meth c g A nL Q (wR g ad u) k n pc lv (.int x :: .ref (ad 9) :: st) := by
  subst hj
  exact lR_isKept C hin hd h
theorem sRn_isKept (C : zC p s m args meth c g A cc RX8 nL) {x : Int32} {v : Int32} (j : Nat) (hj : zn x = j) (hin : vp_in x 2) (hd : decode cc pc = .ok (.bastore, 1)) (h : zJ p l e R s m args below meth c g A nL Q (wR g ad (rI u 11 (upd (u.1 11) j (vp_nar .boolean v)))) k n (pc + 1) lv st) : zJ p l e R s m args below meth c g A nL Q (wR g ad u) k n pc lv (.int v :: .int x :: .ref (ad 9) :: st) := by
  subst hj
  exact sR_isKept C hin hd h
theorem gR_ahead (C : zC p s m args meth c g A cc RX8 nL) (hd : decode cc pc = .ok (.getfield 39, 3)) (h : zJ p l e R s m args below meth c g A nL Q (wR g ad u) k n (pc + 3) lv (.ref (ad 10) :: st)) : zJ p l e R s m args below meth c g A nL Q (wR g ad u) k n pc lv (.ref (ad 0) :: st) :=
  z_get (T := TX8) (N := 20) C inX8 (ci := 8) rfl 12 (by decide) fl8_ahead 0 rfl rfl hd h
theorem lR_ahead (C : zC p s m args meth c g A cc RX8 nL) {x : Int32} (hin : vp_in x 1065) (hd : decode cc pc = .ok (.iaload, 1)) (h : zJ p l e R s m args below meth c g A nL Q (wR g ad u) k n (pc + 1) lv (.int (u.1 12 (zn x)) :: st)) : zJ p l e R s m args below meth c g A nL Q (wR g ad u) k n pc lv (.int x :: .ref (ad 10) :: st) :=
  z_iald C 10 rfl hin hd h
theorem sR_ahead (C : zC p s m args meth c g A cc RX8 nL) {x : Int32} {v : Int32} (hin : vp_in x 1065) (hd : decode cc pc = .ok (.iastore, 1)) (h : zJ p l e R s m args below meth c g A nL Q (wR g ad (rI u 12 (upd (u.1 12) (zn x) v))) k n (pc + 1) lv st) : zJ p l e R s m args below meth c g A nL Q (wR g ad u) k n pc lv (.int v :: .int x :: .ref (ad 10) :: st) :=
  z_iast C 10 rfl hin hd rfl h
theorem lRn_ahead (C : zC p s m args meth c g A cc RX8 nL) {x : Int32} (j : Nat) (hj : zn x = j) (hin : vp_in x 1065) (hd : decode cc pc = .ok (.iaload, 1)) (h : zJ p l e R s m args below meth c g A nL Q (wR g ad u) k n (pc + 1) lv (.int (u.1 12 j) :: st)) : zJ p l e R s m args below meth c g A nL Q (wR g ad u) k n pc lv (.int x :: .ref (ad 10) :: st) := by
  subst hj
  exact lR_ahead C hin hd h
theorem sRn_ahead (C : zC p s m args meth c g A cc RX8 nL) {x : Int32} {v : Int32} (j : Nat) (hj : zn x = j) (hin : vp_in x 1065) (hd : decode cc pc = .ok (.iastore, 1)) (h : zJ p l e R s m args below meth c g A nL Q (wR g ad (rI u 12 (upd (u.1 12) j v))) k n (pc + 1) lv st) : zJ p l e R s m args below meth c g A nL Q (wR g ad u) k n pc lv (.int v :: .int x :: .ref (ad 10) :: st) := by
  subst hj
  exact sR_ahead C hin hd h
theorem gR_aheadSums (C : zC p s m args meth c g A cc RX8 nL) (hd : decode cc pc = .ok (.getfield 42, 3)) (h : zJ p l e R s m args below meth c g A nL Q (wR g ad u) k n (pc + 3) lv (.ref (ad 11) :: st)) : zJ p l e R s m args below meth c g A nL Q (wR g ad u) k n pc lv (.ref (ad 0) :: st) :=
  z_get (T := TX8) (N := 20) C inX8 (ci := 8) rfl 13 (by decide) fl8_aheadSums 0 rfl rfl hd h
theorem lR_aheadSums (C : zC p s m args meth c g A cc RX8 nL) {x : Int32} (hin : vp_in x 7) (hd : decode cc pc = .ok (.laload, 1)) (h : zJ p l e R s m args below meth c g A nL Q (wR g ad u) k n (pc + 1) lv (.long (u.2 13 (zn x)) :: st)) : zJ p l e R s m args below meth c g A nL Q (wR g ad u) k n pc lv (.int x :: .ref (ad 11) :: st) :=
  z_lald C 11 rfl hin hd h
theorem sR_aheadSums (C : zC p s m args meth c g A cc RX8 nL) {x : Int32} {v : Int64} (hin : vp_in x 7) (hd : decode cc pc = .ok (.lastore, 1)) (h : zJ p l e R s m args below meth c g A nL Q (wR g ad (rL u 13 (vp_updL (u.2 13) (zn x) v))) k n (pc + 1) lv st) : zJ p l e R s m args below meth c g A nL Q (wR g ad u) k n pc lv (.long v :: .int x :: .ref (ad 11) :: st) :=
  z_last C 11 rfl hin hd rfl h
theorem lRn_aheadSums (C : zC p s m args meth c g A cc RX8 nL) {x : Int32} (j : Nat) (hj : zn x = j) (hin : vp_in x 7) (hd : decode cc pc = .ok (.laload, 1)) (h : zJ p l e R s m args below meth c g A nL Q (wR g ad u) k n (pc + 1) lv (.long (u.2 13 j) :: st)) : zJ p l e R s m args below meth c g A nL Q (wR g ad u) k n pc lv (.int x :: .ref (ad 11) :: st) := by
  subst hj
  exact lR_aheadSums C hin hd h
theorem sRn_aheadSums (C : zC p s m args meth c g A cc RX8 nL) {x : Int32} {v : Int64} (j : Nat) (hj : zn x = j) (hin : vp_in x 7) (hd : decode cc pc = .ok (.lastore, 1)) (h : zJ p l e R s m args below meth c g A nL Q (wR g ad (rL u 13 (vp_updL (u.2 13) j v))) k n (pc + 1) lv st) : zJ p l e R s m args below meth c g A nL Q (wR g ad u) k n pc lv (.long v :: .int x :: .ref (ad 11) :: st) := by
  subst hj
  exact sR_aheadSums C hin hd h
theorem gR_fields (C : zC p s m args meth c g A cc RX8 nL) (hd : decode cc pc = .ok (.getfield 45, 3)) (h : zJ p l e R s m args below meth c g A nL Q (wR g ad u) k n (pc + 3) lv (.ref (ad 12) :: st)) : zJ p l e R s m args below meth c g A nL Q (wR g ad u) k n pc lv (.ref (ad 0) :: st) :=
  z_get (T := TX8) (N := 20) C inX8 (ci := 8) rfl 14 (by decide) fl8_fields 0 rfl rfl hd h
theorem lR_fields (C : zC p s m args meth c g A cc RX8 nL) {x : Int32} (hin : vp_in x 5) (hd : decode cc pc = .ok (.iaload, 1)) (h : zJ p l e R s m args below meth c g A nL Q (wR g ad u) k n (pc + 1) lv (.int (u.1 14 (zn x)) :: st)) : zJ p l e R s m args below meth c g A nL Q (wR g ad u) k n pc lv (.int x :: .ref (ad 12) :: st) :=
  z_iald C 12 rfl hin hd h
theorem sR_fields (C : zC p s m args meth c g A cc RX8 nL) {x : Int32} {v : Int32} (hin : vp_in x 5) (hd : decode cc pc = .ok (.iastore, 1)) (h : zJ p l e R s m args below meth c g A nL Q (wR g ad (rI u 14 (upd (u.1 14) (zn x) v))) k n (pc + 1) lv st) : zJ p l e R s m args below meth c g A nL Q (wR g ad u) k n pc lv (.int v :: .int x :: .ref (ad 12) :: st) :=
  z_iast C 12 rfl hin hd rfl h
theorem lRn_fields (C : zC p s m args meth c g A cc RX8 nL) {x : Int32} (j : Nat) (hj : zn x = j) (hin : vp_in x 5) (hd : decode cc pc = .ok (.iaload, 1)) (h : zJ p l e R s m args below meth c g A nL Q (wR g ad u) k n (pc + 1) lv (.int (u.1 14 j) :: st)) : zJ p l e R s m args below meth c g A nL Q (wR g ad u) k n pc lv (.int x :: .ref (ad 12) :: st) := by
  subst hj
  exact lR_fields C hin hd h
theorem sRn_fields (C : zC p s m args meth c g A cc RX8 nL) {x : Int32} {v : Int32} (j : Nat) (hj : zn x = j) (hin : vp_in x 5) (hd : decode cc pc = .ok (.iastore, 1)) (h : zJ p l e R s m args below meth c g A nL Q (wR g ad (rI u 14 (upd (u.1 14) j v))) k n (pc + 1) lv st) : zJ p l e R s m args below meth c g A nL Q (wR g ad u) k n pc lv (.int v :: .int x :: .ref (ad 12) :: st) := by
  subst hj
  exact sR_fields C hin hd h
theorem gR_share (C : zC p s m args meth c g A cc RX8 nL) (hd : decode cc pc = .ok (.getfield 48, 3)) (h : zJ p l e R s m args below meth c g A nL Q (wR g ad u) k n (pc + 3) lv (.ref (ad 13) :: st)) : zJ p l e R s m args below meth c g A nL Q (wR g ad u) k n pc lv (.ref (ad 0) :: st) :=
  z_get (T := TX8) (N := 20) C inX8 (ci := 8) rfl 15 (by decide) fl8_share 0 rfl rfl hd h
theorem lR_share (C : zC p s m args meth c g A cc RX8 nL) {x : Int32} (hin : vp_in x 4) (hd : decode cc pc = .ok (.iaload, 1)) (h : zJ p l e R s m args below meth c g A nL Q (wR g ad u) k n (pc + 1) lv (.int (u.1 15 (zn x)) :: st)) : zJ p l e R s m args below meth c g A nL Q (wR g ad u) k n pc lv (.int x :: .ref (ad 13) :: st) :=
  z_iald C 13 rfl hin hd h
theorem sR_share (C : zC p s m args meth c g A cc RX8 nL) {x : Int32} {v : Int32} (hin : vp_in x 4) (hd : decode cc pc = .ok (.iastore, 1)) (h : zJ p l e R s m args below meth c g A nL Q (wR g ad (rI u 15 (upd (u.1 15) (zn x) v))) k n (pc + 1) lv st) : zJ p l e R s m args below meth c g A nL Q (wR g ad u) k n pc lv (.int v :: .int x :: .ref (ad 13) :: st) :=
  z_iast C 13 rfl hin hd rfl h
theorem lRn_share (C : zC p s m args meth c g A cc RX8 nL) {x : Int32} (j : Nat) (hj : zn x = j) (hin : vp_in x 4) (hd : decode cc pc = .ok (.iaload, 1)) (h : zJ p l e R s m args below meth c g A nL Q (wR g ad u) k n (pc + 1) lv (.int (u.1 15 j) :: st)) : zJ p l e R s m args below meth c g A nL Q (wR g ad u) k n pc lv (.int x :: .ref (ad 13) :: st) := by
  subst hj
  exact lR_share C hin hd h
theorem sRn_share (C : zC p s m args meth c g A cc RX8 nL) {x : Int32} {v : Int32} (j : Nat) (hj : zn x = j) (hin : vp_in x 4) (hd : decode cc pc = .ok (.iastore, 1)) (h : zJ p l e R s m args below meth c g A nL Q (wR g ad (rI u 15 (upd (u.1 15) j v))) k n (pc + 1) lv st) : zJ p l e R s m args below meth c g A nL Q (wR g ad u) k n pc lv (.int v :: .int x :: .ref (ad 13) :: st) := by
  subst hj
  exact sR_share C hin hd h
theorem gR_laid (C : zC p s m args meth c g A cc RX8 nL) (hd : decode cc pc = .ok (.getfield 51, 3)) (h : zJ p l e R s m args below meth c g A nL Q (wR g ad u) k n (pc + 3) lv (.ref (ad 14) :: st)) : zJ p l e R s m args below meth c g A nL Q (wR g ad u) k n pc lv (.ref (ad 0) :: st) :=
  z_get (T := TX8) (N := 20) C inX8 (ci := 8) rfl 16 (by decide) fl8_laid 0 rfl rfl hd h
theorem lR_laid (C : zC p s m args meth c g A cc RX8 nL) {x : Int32} (hin : vp_in x 16) (hd : decode cc pc = .ok (.baload, 1)) (h : zJ p l e R s m args below meth c g A nL Q (wR g ad u) k n (pc + 1) lv (.int (u.1 16 (zn x)) :: st)) : zJ p l e R s m args below meth c g A nL Q (wR g ad u) k n pc lv (.int x :: .ref (ad 14) :: st) :=
  z_zald C 14 rfl hin hd h
theorem sR_laid (C : zC p s m args meth c g A cc RX8 nL) {x : Int32} {v : Int32} (hin : vp_in x 16) (hd : decode cc pc = .ok (.bastore, 1)) (h : zJ p l e R s m args below meth c g A nL Q (wR g ad (rI u 16 (upd (u.1 16) (zn x) (vp_nar .boolean v)))) k n (pc + 1) lv st) : zJ p l e R s m args below meth c g A nL Q (wR g ad u) k n pc lv (.int v :: .int x :: .ref (ad 14) :: st) :=
  z_zast C 14 rfl hin hd rfl h
theorem lRn_laid (C : zC p s m args meth c g A cc RX8 nL) {x : Int32} (j : Nat) (hj : zn x = j) (hin : vp_in x 16) (hd : decode cc pc = .ok (.baload, 1)) (h : zJ p l e R s m args below meth c g A nL Q (wR g ad u) k n (pc + 1) lv (.int (u.1 16 j) :: st)) : zJ p l e R s m args below meth c g A nL Q (wR g ad u) k n pc lv (.int x :: .ref (ad 14) :: st) := by
  subst hj
  exact lR_laid C hin hd h
theorem sRn_laid (C : zC p s m args meth c g A cc RX8 nL) {x : Int32} {v : Int32} (j : Nat) (hj : zn x = j) (hin : vp_in x 16) (hd : decode cc pc = .ok (.bastore, 1)) (h : zJ p l e R s m args below meth c g A nL Q (wR g ad (rI u 16 (upd (u.1 16) j (vp_nar .boolean v)))) k n (pc + 1) lv st) : zJ p l e R s m args below meth c g A nL Q (wR g ad u) k n pc lv (.int v :: .int x :: .ref (ad 14) :: st) := by
  subst hj
  exact sR_laid C hin hd h
theorem gR_open (C : zC p s m args meth c g A cc RX8 nL) (hd : decode cc pc = .ok (.getfield 54, 3)) (h : zJ p l e R s m args below meth c g A nL Q (wR g ad u) k n (pc + 3) lv (.ref (ad 15) :: st)) : zJ p l e R s m args below meth c g A nL Q (wR g ad u) k n pc lv (.ref (ad 0) :: st) :=
  z_get (T := TX8) (N := 20) C inX8 (ci := 8) rfl 17 (by decide) fl8_open 0 rfl rfl hd h
theorem lR_open (C : zC p s m args meth c g A cc RX8 nL) {x : Int32} (hin : vp_in x 72) (hd : decode cc pc = .ok (.iaload, 1)) (h : zJ p l e R s m args below meth c g A nL Q (wR g ad u) k n (pc + 1) lv (.int (u.1 17 (zn x)) :: st)) : zJ p l e R s m args below meth c g A nL Q (wR g ad u) k n pc lv (.int x :: .ref (ad 15) :: st) :=
  z_iald C 15 rfl hin hd h
theorem sR_open (C : zC p s m args meth c g A cc RX8 nL) {x : Int32} {v : Int32} (hin : vp_in x 72) (hd : decode cc pc = .ok (.iastore, 1)) (h : zJ p l e R s m args below meth c g A nL Q (wR g ad (rI u 17 (upd (u.1 17) (zn x) v))) k n (pc + 1) lv st) : zJ p l e R s m args below meth c g A nL Q (wR g ad u) k n pc lv (.int v :: .int x :: .ref (ad 15) :: st) :=
  z_iast C 15 rfl hin hd rfl h
theorem lRn_open (C : zC p s m args meth c g A cc RX8 nL) {x : Int32} (j : Nat) (hj : zn x = j) (hin : vp_in x 72) (hd : decode cc pc = .ok (.iaload, 1)) (h : zJ p l e R s m args below meth c g A nL Q (wR g ad u) k n (pc + 1) lv (.int (u.1 17 j) :: st)) : zJ p l e R s m args below meth c g A nL Q (wR g ad u) k n pc lv (.int x :: .ref (ad 15) :: st) := by
  subst hj
  exact lR_open C hin hd h
theorem sRn_open (C : zC p s m args meth c g A cc RX8 nL) {x : Int32} {v : Int32} (j : Nat) (hj : zn x = j) (hin : vp_in x 72) (hd : decode cc pc = .ok (.iastore, 1)) (h : zJ p l e R s m args below meth c g A nL Q (wR g ad (rI u 17 (upd (u.1 17) j v))) k n (pc + 1) lv st) : zJ p l e R s m args below meth c g A nL Q (wR g ad u) k n pc lv (.int v :: .int x :: .ref (ad 15) :: st) := by
  subst hj
  exact sR_open C hin hd h
theorem gR_givenMany (C : zC p s m args meth c g A cc RX8 nL) (hd : decode cc pc = .ok (.getfield 209, 3)) (h : zJ p l e R s m args below meth c g A nL Q (wR g ad u) k n (pc + 3) lv (.int (u.1 18 0) :: st)) : zJ p l e R s m args below meth c g A nL Q (wR g ad u) k n pc lv (.ref (ad 0) :: st) :=
  z_get (T := TX8) (N := 20) C inX8 (ci := 8) rfl 18 (by decide) fl8_givenMany 0 rfl rfl hd h
theorem pR_givenMany (C : zC p s m args meth c g A cc RX8 nL) {x : Int32} (hd : decode cc pc = .ok (.putfield 209, 3)) (h : zJ p l e R s m args below meth c g A nL Q (wR g ad (rN u 18 x)) k n (pc + 3) lv st) : zJ p l e R s m args below meth c g A nL Q (wR g ad u) k n pc lv (.int x :: .ref (ad 0) :: st) :=
  z_puti (T := TX8) (N := 20) C inX8 tyX8 tyX8_ok nmX8 (ci := 8) rfl 18 (by decide) fl8_givenMany rfl (by decide +kernel) 0 (fs := fR ad u) rfl (Nat.le_of_ble_eq_true rfl) hd (ws1 := wR g ad (rN u 18 x)) rfl h
theorem gR_callMany (C : zC p s m args meth c g A cc RX8 nL) (hd : decode cc pc = .ok (.getfield 222, 3)) (h : zJ p l e R s m args below meth c g A nL Q (wR g ad u) k n (pc + 3) lv (.int (u.1 19 0) :: st)) : zJ p l e R s m args below meth c g A nL Q (wR g ad u) k n pc lv (.ref (ad 0) :: st) :=
  z_get (T := TX8) (N := 20) C inX8 (ci := 8) rfl 19 (by decide) fl8_callMany 0 rfl rfl hd h
theorem pR_callMany (C : zC p s m args meth c g A cc RX8 nL) {x : Int32} (hd : decode cc pc = .ok (.putfield 222, 3)) (h : zJ p l e R s m args below meth c g A nL Q (wR g ad (rN u 19 x)) k n (pc + 3) lv st) : zJ p l e R s m args below meth c g A nL Q (wR g ad u) k n pc lv (.int x :: .ref (ad 0) :: st) :=
  z_puti (T := TX8) (N := 20) C inX8 tyX8 tyX8_ok nmX8 (ci := 8) rfl 19 (by decide) fl8_callMany rfl (by decide +kernel) 0 (fs := fR ad u) rfl (Nat.le_of_ble_eq_true rfl) hd (ws1 := wR g ad (rN u 19 x)) rfl h
theorem z_stR {u0 : RS} (h : ∀ u : RS, u = u0 → zJ p l e R s m args below meth c g A nL Q (wR g ad u) k n pc lv st) : zJ p l e R s m args below meth c g A nL Q (wR g ad u0) k n pc lv st := h u0 rfl
theorem cRi (C : zC p s m args meth c g A cc RX8 nL) {y : MethodName} {cc1 : ByteArray} {n1 k1 index : Nat} {ret : Option FieldType} {As : List Value} {post : Int32 → RS → Prop} (hM : zMi l y cc1 n1 ret k1 0 0 g (.ref (ad 0) :: As) (wR g ad u) (wR g ad) post) (hv : zV y cc1 n1 ret As.length) (hlk : Cond.methodLink RX8 index y ∈ zW) (hq : RX8 = y.cls)
    (hR : k1 + 1 ≤ R.frames ∧ 8 + (n1 + 11) + 40 * k1 ≤ R.locals) (hcap : k ≤ R.cells ∧ n ≤ R.slots) (hroom : (st.map fun v => v.category).sum ≤ 8) (hst : st0 = As.reverse ++ .ref (ad 0) :: st) (hd : decode cc pc = .ok (.invokevirtual index, 3))
    (h : ∀ (r : Int32) (u1 : RS), post r u1 → zJ p l e R s m args below meth c g A nL Q (wR g ad u1) k n (pc + 3) lv (.int r :: st)) : zJ p l e R s m args below meth c g A nL Q (wR g ad u) k n pc lv st0 :=
  z_Vi C [] (wR g ad u) [] (by simp) hM hv hlk 8 (q := (RX8, TX8, 20)) rfl hq 0 rfl hR hcap hroom hst hd (fun r u1 hw => z_ws (ws1 := wR g ad u1) (by simp) (h r u1 hw))
theorem cRl (C : zC p s m args meth c g A cc RX8 nL) {y : MethodName} {cc1 : ByteArray} {n1 k1 index : Nat} {ret : Option FieldType} {As : List Value} {post : Int64 → RS → Prop} (hM : zMl l y cc1 n1 ret k1 0 0 g (.ref (ad 0) :: As) (wR g ad u) (wR g ad) post) (hv : zV y cc1 n1 ret As.length) (hlk : Cond.methodLink RX8 index y ∈ zW) (hq : RX8 = y.cls)
    (hR : k1 + 1 ≤ R.frames ∧ 8 + (n1 + 11) + 40 * k1 ≤ R.locals) (hcap : k ≤ R.cells ∧ n ≤ R.slots) (hroom : (st.map fun v => v.category).sum ≤ 8) (hst : st0 = As.reverse ++ .ref (ad 0) :: st) (hd : decode cc pc = .ok (.invokevirtual index, 3))
    (h : ∀ (r : Int64) (u1 : RS), post r u1 → zJ p l e R s m args below meth c g A nL Q (wR g ad u1) k n (pc + 3) lv (.long r :: st)) : zJ p l e R s m args below meth c g A nL Q (wR g ad u) k n pc lv st0 :=
  z_Vl C [] (wR g ad u) [] (by simp) hM hv hlk 8 (q := (RX8, TX8, 20)) rfl hq 0 rfl hR hcap hroom hst hd (fun r u1 hw => z_ws (ws1 := wR g ad u1) (by simp) (h r u1 hw))
theorem cRv (C : zC p s m args meth c g A cc RX8 nL) {y : MethodName} {cc1 : ByteArray} {n1 k1 index : Nat} {ret : Option FieldType} {As : List Value} {post : RS → Prop} (hM : zMv l y cc1 n1 ret k1 0 0 g (.ref (ad 0) :: As) (wR g ad u) (wR g ad) post) (hv : zV y cc1 n1 ret As.length) (hlk : Cond.methodLink RX8 index y ∈ zW) (hq : RX8 = y.cls)
    (hR : k1 + 1 ≤ R.frames ∧ 8 + (n1 + 11) + 40 * k1 ≤ R.locals) (hcap : k ≤ R.cells ∧ n ≤ R.slots) (hroom : (st.map fun v => v.category).sum ≤ 8) (hst : st0 = As.reverse ++ .ref (ad 0) :: st) (hd : decode cc pc = .ok (.invokevirtual index, 3))
    (h : ∀ (u1 : RS), post u1 → zJ p l e R s m args below meth c g A nL Q (wR g ad u1) k n (pc + 3) lv (st)) : zJ p l e R s m args below meth c g A nL Q (wR g ad u) k n pc lv st0 :=
  z_Vv C [] (wR g ad u) [] (by simp) hM hv hlk 8 (q := (RX8, TX8, 20)) rfl hq 0 rfl hR hcap hroom hst hd (fun u1 hw => z_ws (ws1 := wR g ad u1) (by simp) (h u1 hw))
variable {ws : va_W} {own : String}
theorem cSi (C : zC p s m args meth c g A cc own nL) {y : MethodName} {cc1 : ByteArray} {n1 k1 index : Nat} {ret : Option FieldType} {As : List Value} {post : Int32 → Prop} (hM : zMi l y cc1 n1 ret k1 0 0 g As [] (fun _ : Unit => []) (fun r _ => post r)) (hv : zSt y cc1 n1 ret As.length) (hlk : Cond.methodLink own index y ∈ zW)
    (hR : k1 + 1 ≤ R.frames ∧ 8 + (n1 + 11) + 40 * k1 ≤ R.locals) (hcap : k ≤ R.cells ∧ n ≤ R.slots) (hroom : (st.map fun v => v.category).sum ≤ 8) (hst : st0 = As.reverse ++ st) (hd : decode cc pc = .ok (.invokestatic index, 3))
    (h : ∀ (r : Int32), post r → zJ p l e R s m args below meth c g A nL Q ws k n (pc + 3) lv (.int r :: st)) : zJ p l e R s m args below meth c g A nL Q ws k n pc lv st0 :=
  z_Si C [] [] ws rfl hM hv hlk hR hcap hroom hst hd (fun r _ hw => h r hw)
theorem cSl (C : zC p s m args meth c g A cc own nL) {y : MethodName} {cc1 : ByteArray} {n1 k1 index : Nat} {ret : Option FieldType} {As : List Value} {post : Int64 → Prop} (hM : zMl l y cc1 n1 ret k1 0 0 g As [] (fun _ : Unit => []) (fun r _ => post r)) (hv : zSt y cc1 n1 ret As.length) (hlk : Cond.methodLink own index y ∈ zW)
    (hR : k1 + 1 ≤ R.frames ∧ 8 + (n1 + 11) + 40 * k1 ≤ R.locals) (hcap : k ≤ R.cells ∧ n ≤ R.slots) (hroom : (st.map fun v => v.category).sum ≤ 8) (hst : st0 = As.reverse ++ st) (hd : decode cc pc = .ok (.invokestatic index, 3))
    (h : ∀ (r : Int64), post r → zJ p l e R s m args below meth c g A nL Q ws k n (pc + 3) lv (.long r :: st)) : zJ p l e R s m args below meth c g A nL Q ws k n pc lv st0 :=
  z_Sl C [] [] ws rfl hM hv hlk hR hcap hroom hst hd (fun r _ hw => h r hw)
end ZR
def zit1 {A1 : Type} (F : (A1 → Prop) → A1 → Prop) : Nat → A1 → Prop
  | 0 => fun _ => False
  | n + 1 => F (zit1 F n)
def zit2 {A1 A2 : Type} (F : (A1 → A2 → Prop) → A1 → A2 → Prop) : Nat → A1 → A2 → Prop
  | 0 => fun _ _ => False
  | n + 1 => F (zit2 F n)
def zit3 {A1 A2 A3 : Type} (F : (A1 → A2 → A3 → Prop) → A1 → A2 → A3 → Prop) : Nat → A1 → A2 → A3 → Prop
  | 0 => fun _ _ _ => False
  | n + 1 => F (zit3 F n)
def zit4 {A1 A2 A3 A4 : Type} (F : (A1 → A2 → A3 → A4 → Prop) → A1 → A2 → A3 → A4 → Prop) : Nat → A1 → A2 → A3 → A4 → Prop
  | 0 => fun _ _ _ _ => False
  | n + 1 => F (zit4 F n)
def zit5 {A1 A2 A3 A4 A5 : Type} (F : (A1 → A2 → A3 → A4 → A5 → Prop) → A1 → A2 → A3 → A4 → A5 → Prop) : Nat → A1 → A2 → A3 → A4 → A5 → Prop
  | 0 => fun _ _ _ _ _ => False
  | n + 1 => F (zit5 F n)
def zit6 {A1 A2 A3 A4 A5 A6 : Type} (F : (A1 → A2 → A3 → A4 → A5 → A6 → Prop) → A1 → A2 → A3 → A4 → A5 → A6 → Prop) : Nat → A1 → A2 → A3 → A4 → A5 → A6 → Prop
  | 0 => fun _ _ _ _ _ _ => False
  | n + 1 => F (zit6 F n)
def zit7 {A1 A2 A3 A4 A5 A6 A7 : Type} (F : (A1 → A2 → A3 → A4 → A5 → A6 → A7 → Prop) → A1 → A2 → A3 → A4 → A5 → A6 → A7 → Prop) : Nat → A1 → A2 → A3 → A4 → A5 → A6 → A7 → Prop
  | 0 => fun _ _ _ _ _ _ _ => False
  | n + 1 => F (zit7 F n)
def zit8 {A1 A2 A3 A4 A5 A6 A7 A8 : Type} (F : (A1 → A2 → A3 → A4 → A5 → A6 → A7 → A8 → Prop) → A1 → A2 → A3 → A4 → A5 → A6 → A7 → A8 → Prop) : Nat → A1 → A2 → A3 → A4 → A5 → A6 → A7 → A8 → Prop
  | 0 => fun _ _ _ _ _ _ _ _ => False
  | n + 1 => F (zit8 F n)
def zit9 {A1 A2 A3 A4 A5 A6 A7 A8 A9 : Type} (F : (A1 → A2 → A3 → A4 → A5 → A6 → A7 → A8 → A9 → Prop) → A1 → A2 → A3 → A4 → A5 → A6 → A7 → A8 → A9 → Prop) : Nat → A1 → A2 → A3 → A4 → A5 → A6 → A7 → A8 → A9 → Prop
  | 0 => fun _ _ _ _ _ _ _ _ _ => False
  | n + 1 => F (zit9 F n)
end
section
-- words of the reference's calls and constants
abbrev zu (x y : Int32) : Int32 := (x.toUInt32 >>> (y.toUInt32 &&& Int32.toUInt32 31)).toInt32
abbrev zul (x : Int64) (y : Int32) : Int64 := (x.toUInt64 >>> (y.toInt64.toUInt64 &&& Int64.toUInt64 63)).toInt64
theorem ml8_71 : Cond.methodLink RX8 71 yX8_lay ∈ zW := zW_at 939 (by decide +kernel) rfl
theorem v_X8_lay : zV yX8_lay cX8_lay 5 none 3 := ⟨zW_at 942 (by decide +kernel) rfl, zW_at 941 (by decide +kernel) rfl, zW_at 16 (by decide +kernel) rfl, zW_at 63 (by decide +kernel) rfl, by decide +kernel⟩
theorem ml8_78 : Cond.methodLink RX8 78 yX8_bring ∈ zW := zW_at 924 (by decide +kernel) rfl
theorem v_X8_bring : zV yX8_bring cX8_bring 5 none 3 := ⟨zW_at 927 (by decide +kernel) rfl, zW_at 926 (by decide +kernel) rfl, zW_at 14 (by decide +kernel) rfl, zW_at 63 (by decide +kernel) rfl, by decide +kernel⟩
theorem ml8_81 : Cond.methodLink RX8 81 yX8_tell ∈ zW := zW_at 928 (by decide +kernel) rfl
theorem v_X8_tell : zV yX8_tell cX8_tell 2 (some .int) 1 := ⟨zW_at 931 (by decide +kernel) rfl, zW_at 930 (by decide +kernel) rfl, zW_at 15 (by decide +kernel) rfl, zW_at 63 (by decide +kernel) rfl, by decide +kernel⟩
theorem ml8_75 : Cond.methodLink RX8 75 yX8_refuse ∈ zW := zW_at 920 (by decide +kernel) rfl
theorem v_X8_refuse : zV yX8_refuse cX8_refuse 2 (some .int) 1 := ⟨zW_at 923 (by decide +kernel) rfl, zW_at 922 (by decide +kernel) rfl, zW_at 13 (by decide +kernel) rfl, zW_at 63 (by decide +kernel) rfl, by decide +kernel⟩
theorem ml8_84 : Cond.methodLink RX8 84 yX8_in ∈ zW := zW_at 936 (by decide +kernel) rfl
theorem s_X8_in : zSt yX8_in cX8_in 6 (some .boolean) 3 := ⟨zW_at 938 (by decide +kernel) rfl, zW_at 937 (by decide +kernel) rfl, zW_at 63 (by decide +kernel) rfl, by decide +kernel⟩
theorem ml8_57 : Cond.methodLink RX8 57 yX8_queueAt ∈ zW := zW_at 851 (by decide +kernel) rfl
theorem s_X8_queueAt : zSt yX8_queueAt cX8_queueAt 1 (some .int) 1 := ⟨zW_at 853 (by decide +kernel) rfl, zW_at 852 (by decide +kernel) rfl, zW_at 63 (by decide +kernel) rfl, by decide +kernel⟩
theorem k8_88 : Cond.constantLong RX8 88 3 ∈ zW := zW_at 1015 (by decide +kernel) rfl
theorem ml8_90 : Cond.methodLink RX8 90 yX8_keyBit ∈ zW := zW_at 982 (by decide +kernel) rfl
theorem v_X8_keyBit : zV yX8_keyBit cX8_keyBit 2 (some .int) 1 := ⟨zW_at 985 (by decide +kernel) rfl, zW_at 984 (by decide +kernel) rfl, zW_at 23 (by decide +kernel) rfl, zW_at 63 (by decide +kernel) rfl, by decide +kernel⟩
theorem k8_96 : Cond.constantLong RX8 96 255 ∈ zW := zW_at 954 (by decide +kernel) rfl
theorem ml8_102 : Cond.methodLink RX8 102 yX8_flowAt ∈ zW := zW_at 971 (by decide +kernel) rfl
theorem s_X8_flowAt : zSt yX8_flowAt cX8_flowAt 1 (some .int) 1 := ⟨zW_at 973 (by decide +kernel) rfl, zW_at 972 (by decide +kernel) rfl, zW_at 63 (by decide +kernel) rfl, by decide +kernel⟩
theorem ml8_116 : Cond.methodLink RX8 116 yX8_ruleAt ∈ zW := zW_at 1045 (by decide +kernel) rfl
theorem s_X8_ruleAt : zSt yX8_ruleAt cX8_ruleAt 1 (some .int) 1 := ⟨zW_at 1047 (by decide +kernel) rfl, zW_at 1046 (by decide +kernel) rfl, zW_at 63 (by decide +kernel) rfl, by decide +kernel⟩
theorem ml8_153 : Cond.methodLink RX8 153 yX8_nextEntry ∈ zW := zW_at 1024 (by decide +kernel) rfl
theorem v_X8_nextEntry : zV yX8_nextEntry cX8_nextEntry 3 (some .int) 0 := ⟨zW_at 1027 (by decide +kernel) rfl, zW_at 1026 (by decide +kernel) rfl, zW_at 28 (by decide +kernel) rfl, zW_at 63 (by decide +kernel) rfl, by decide +kernel⟩
theorem ml8_156 : Cond.methodLink RX8 156 yX8_leastShare ∈ zW := zW_at 1028 (by decide +kernel) rfl
theorem v_X8_leastShare : zV yX8_leastShare cX8_leastShare 4 (some .int) 1 := ⟨zW_at 1031 (by decide +kernel) rfl, zW_at 1030 (by decide +kernel) rfl, zW_at 29 (by decide +kernel) rfl, zW_at 63 (by decide +kernel) rfl, by decide +kernel⟩
theorem k8_173 : Cond.constantLong RX8 173 32 ∈ zW := zW_at 1075 (by decide +kernel) rfl
theorem k8_175 : Cond.constantLong RX8 175 999 ∈ zW := zW_at 1076 (by decide +kernel) rfl
theorem k8_177 : Cond.constantLong RX8 177 9999 ∈ zW := zW_at 1077 (by decide +kernel) rfl
theorem k8_179 : Cond.constantLong RX8 179 64 ∈ zW := zW_at 1078 (by decide +kernel) rfl
theorem k8_181 : Cond.constantLong RX8 181 4096 ∈ zW := zW_at 1079 (by decide +kernel) rfl
theorem k8_183 : Cond.constantLong RX8 183 256 ∈ zW := zW_at 1080 (by decide +kernel) rfl
theorem k8_195 : Cond.constant RX8 195 1000000000 ∈ zW := zW_at 1090 (by decide +kernel) rfl
theorem k8_253 : Cond.constantLong RX8 253 5 ∈ zW := zW_at 1202 (by decide +kernel) rfl
theorem k8_255 : Cond.constantLong RX8 255 6 ∈ zW := zW_at 1215 (by decide +kernel) rfl
theorem k8_162 : Cond.constantLong RX8 162 (-1) ∈ zW := zW_at 1036 (by decide +kernel) rfl
theorem ml8_265 : Cond.methodLink RX8 265 yX8_common ∈ zW := zW_at 1249 (by decide +kernel) rfl
theorem s_X8_common : zSt yX8_common cX8_common 10 (some .long) 2 := ⟨zW_at 1251 (by decide +kernel) rfl, zW_at 1250 (by decide +kernel) rfl, zW_at 63 (by decide +kernel) rfl, by decide +kernel⟩
theorem ml8_269 : Cond.methodLink RX8 269 yX8_hitsOf ∈ zW := zW_at 1264 (by decide +kernel) rfl
theorem v_X8_hitsOf : zV yX8_hitsOf cX8_hitsOf 4 (some .int) 1 := ⟨zW_at 1267 (by decide +kernel) rfl, zW_at 1266 (by decide +kernel) rfl, zW_at 52 (by decide +kernel) rfl, zW_at 63 (by decide +kernel) rfl, by decide +kernel⟩
theorem ml8_93 : Cond.methodLink RX8 93 yX8_windowAt ∈ zW := zW_at 978 (by decide +kernel) rfl
theorem v_X8_windowAt : zV yX8_windowAt cX8_windowAt 4 (some .int) 1 := ⟨zW_at 981 (by decide +kernel) rfl, zW_at 980 (by decide +kernel) rfl, zW_at 22 (by decide +kernel) rfl, zW_at 63 (by decide +kernel) rfl, by decide +kernel⟩
theorem ml8_98 : Cond.methodLink RX8 98 yX8_isByte ∈ zW := zW_at 951 (by decide +kernel) rfl
theorem s_X8_isByte : zSt yX8_isByte cX8_isByte 1 (some .boolean) 1 := ⟨zW_at 953 (by decide +kernel) rfl, zW_at 952 (by decide +kernel) rfl, zW_at 63 (by decide +kernel) rfl, by decide +kernel⟩
theorem ml8_119 : Cond.methodLink RX8 119 yX8_ruleOf ∈ zW := zW_at 1060 (by decide +kernel) rfl
theorem v_X8_ruleOf : zV yX8_ruleOf cX8_ruleOf 4 (some .int) 1 := ⟨zW_at 1063 (by decide +kernel) rfl, zW_at 1062 (by decide +kernel) rfl, zW_at 33 (by decide +kernel) rfl, zW_at 63 (by decide +kernel) rfl, by decide +kernel⟩
theorem ml8_122 : Cond.methodLink RX8 122 yX8_entryOf ∈ zW := zW_at 1099 (by decide +kernel) rfl
theorem v_X8_entryOf : zV yX8_entryOf cX8_entryOf 2 (some .int) 1 := ⟨zW_at 1102 (by decide +kernel) rfl, zW_at 1101 (by decide +kernel) rfl, zW_at 37 (by decide +kernel) rfl, zW_at 63 (by decide +kernel) rfl, by decide +kernel⟩
theorem ml8_125 : Cond.methodLink RX8 125 yX8_packetAt ∈ zW := zW_at 1107 (by decide +kernel) rfl
theorem s_X8_packetAt : zSt yX8_packetAt cX8_packetAt 2 (some .int) 2 := ⟨zW_at 1109 (by decide +kernel) rfl, zW_at 1108 (by decide +kernel) rfl, zW_at 63 (by decide +kernel) rfl, by decide +kernel⟩
theorem ml8_129 : Cond.methodLink RX8 129 yX8_remember ∈ zW := zW_at 955 (by decide +kernel) rfl
theorem v_X8_remember : zV yX8_remember cX8_remember 3 none 1 := ⟨zW_at 958 (by decide +kernel) rfl, zW_at 957 (by decide +kernel) rfl, zW_at 17 (by decide +kernel) rfl, zW_at 63 (by decide +kernel) rfl, by decide +kernel⟩
theorem ml8_159 : Cond.methodLink RX8 159 yX8_layBalanced ∈ zW := zW_at 1020 (by decide +kernel) rfl
theorem v_X8_layBalanced : zV yX8_layBalanced cX8_layBalanced 4 (some .int) 0 := ⟨zW_at 1023 (by decide +kernel) rfl, zW_at 1022 (by decide +kernel) rfl, zW_at 27 (by decide +kernel) rfl, zW_at 63 (by decide +kernel) rfl, by decide +kernel⟩
theorem ml8_150 : Cond.methodLink RX8 150 yX8_isQueue ∈ zW := zW_at 1012 (by decide +kernel) rfl
theorem s_X8_isQueue : zSt yX8_isQueue cX8_isQueue 1 (some .boolean) 1 := ⟨zW_at 1014 (by decide +kernel) rfl, zW_at 1013 (by decide +kernel) rfl, zW_at 63 (by decide +kernel) rfl, by decide +kernel⟩
theorem ml8_167 : Cond.methodLink RX8 167 yX8_dropRule ∈ zW := zW_at 1048 (by decide +kernel) rfl
theorem v_X8_dropRule : zV yX8_dropRule cX8_dropRule 3 none 1 := ⟨zW_at 1051 (by decide +kernel) rfl, zW_at 1050 (by decide +kernel) rfl, zW_at 31 (by decide +kernel) rfl, zW_at 63 (by decide +kernel) rfl, by decide +kernel⟩
theorem ml8_164 : Cond.methodLink RX8 164 yX8_isFlow ∈ zW := zW_at 1037 (by decide +kernel) rfl
theorem v_X8_isFlow : zV yX8_isFlow cX8_isFlow 2 (some .boolean) 1 := ⟨zW_at 1040 (by decide +kernel) rfl, zW_at 1039 (by decide +kernel) rfl, zW_at 30 (by decide +kernel) rfl, zW_at 63 (by decide +kernel) rfl, by decide +kernel⟩
theorem ml8_198 : Cond.methodLink RX8 198 yX8_hasNext ∈ zW := zW_at 1086 (by decide +kernel) rfl
theorem v_X8_hasNext : zV yX8_hasNext cX8_hasNext 3 (some .boolean) 2 := ⟨zW_at 1089 (by decide +kernel) rfl, zW_at 1088 (by decide +kernel) rfl, zW_at 34 (by decide +kernel) rfl, zW_at 63 (by decide +kernel) rfl, by decide +kernel⟩
theorem k8_148 : Cond.constantLong RX8 148 15 ∈ zW := zW_at 1011 (by decide +kernel) rfl
theorem k8_245 : Cond.constantLong RX8 245 2 ∈ zW := zW_at 1189 (by decide +kernel) rfl
theorem k8_257 : Cond.constantLong RX8 257 40 ∈ zW := zW_at 1220 (by decide +kernel) rfl
theorem ml8_272 : Cond.methodLink RX8 272 yX8_greatestHits ∈ zW := zW_at 1260 (by decide +kernel) rfl
theorem v_X8_greatestHits : zV yX8_greatestHits cX8_greatestHits 3 (some .int) 0 := ⟨zW_at 1263 (by decide +kernel) rfl, zW_at 1262 (by decide +kernel) rfl, zW_at 51 (by decide +kernel) rfl, zW_at 63 (by decide +kernel) rfl, by decide +kernel⟩
theorem ml8_206 : Cond.methodLink RX8 206 yX8_lesser ∈ zW := zW_at 1141 (by decide +kernel) rfl
theorem s_X8_lesser : zSt yX8_lesser cX8_lesser 2 (some .int) 2 := ⟨zW_at 1143 (by decide +kernel) rfl, zW_at 1142 (by decide +kernel) rfl, zW_at 63 (by decide +kernel) rfl, by decide +kernel⟩
theorem ml8_275 : Cond.methodLink RX8 275 yX8_packets ∈ zW := zW_at 1272 (by decide +kernel) rfl
theorem v_X8_packets : zV yX8_packets cX8_packets 3 (some .int) 0 := ⟨zW_at 1275 (by decide +kernel) rfl, zW_at 1274 (by decide +kernel) rfl, zW_at 53 (by decide +kernel) rfl, zW_at 63 (by decide +kernel) rfl, by decide +kernel⟩
theorem k8_278 : Cond.constantLong RX8 278 14 ∈ zW := zW_at 1292 (by decide +kernel) rfl
theorem k8_280 : Cond.constantLong RX8 280 22 ∈ zW := zW_at 1293 (by decide +kernel) rfl
theorem ml8_105 : Cond.methodLink RX8 105 yX8_takeFlow ∈ zW := zW_at 967 (by decide +kernel) rfl
theorem v_X8_takeFlow : zV yX8_takeFlow cX8_takeFlow 3 none 1 := ⟨zW_at 970 (by decide +kernel) rfl, zW_at 969 (by decide +kernel) rfl, zW_at 20 (by decide +kernel) rfl, zW_at 63 (by decide +kernel) rfl, by decide +kernel⟩
theorem ml8_109 : Cond.methodLink RX8 109 yX8_hashNow ∈ zW := zW_at 974 (by decide +kernel) rfl
theorem v_X8_hashNow : zV yX8_hashNow cX8_hashNow 4 (some .int) 0 := ⟨zW_at 977 (by decide +kernel) rfl, zW_at 976 (by decide +kernel) rfl, zW_at 21 (by decide +kernel) rfl, zW_at 63 (by decide +kernel) rfl, by decide +kernel⟩
theorem ml8_137 : Cond.methodLink RX8 137 yX8_becomes ∈ zW := zW_at 991 (by decide +kernel) rfl
theorem v_X8_becomes : zV yX8_becomes cX8_becomes 5 (some .int) 3 := ⟨zW_at 994 (by decide +kernel) rfl, zW_at 993 (by decide +kernel) rfl, zW_at 24 (by decide +kernel) rfl, zW_at 63 (by decide +kernel) rfl, by decide +kernel⟩
theorem ml8_170 : Cond.methodLink RX8 170 yX8_steers ∈ zW := zW_at 1056 (by decide +kernel) rfl
theorem v_X8_steers : zV yX8_steers cX8_steers 9 (some .int) 2 := ⟨zW_at 1059 (by decide +kernel) rfl, zW_at 1058 (by decide +kernel) rfl, zW_at 32 (by decide +kernel) rfl, zW_at 63 (by decide +kernel) rfl, by decide +kernel⟩
theorem ml8_185 : Cond.methodLink RX8 185 yX8_isTerm ∈ zW := zW_at 1072 (by decide +kernel) rfl
theorem s_X8_isTerm : zSt yX8_isTerm cX8_isTerm 2 (some .boolean) 2 := ⟨zW_at 1074 (by decide +kernel) rfl, zW_at 1073 (by decide +kernel) rfl, zW_at 63 (by decide +kernel) rfl, by decide +kernel⟩
theorem ml8_189 : Cond.methodLink RX8 189 yX8_wishOf ∈ zW := zW_at 1095 (by decide +kernel) rfl
theorem v_X8_wishOf : zV yX8_wishOf cX8_wishOf 3 (some .int) 1 := ⟨zW_at 1098 (by decide +kernel) rfl, zW_at 1097 (by decide +kernel) rfl, zW_at 36 (by decide +kernel) rfl, zW_at 63 (by decide +kernel) rfl, by decide +kernel⟩
theorem ml8_192 : Cond.methodLink RX8 192 yX8_queueOf ∈ zW := zW_at 1103 (by decide +kernel) rfl
theorem v_X8_queueOf : zV yX8_queueOf cX8_queueOf 5 (some .int) 1 := ⟨zW_at 1106 (by decide +kernel) rfl, zW_at 1105 (by decide +kernel) rfl, zW_at 38 (by decide +kernel) rfl, zW_at 63 (by decide +kernel) rfl, by decide +kernel⟩
theorem ml8_141 : Cond.methodLink RX8 141 yX8_takeFields ∈ zW := zW_at 999 (by decide +kernel) rfl
theorem v_X8_takeFields : zV yX8_takeFields cX8_takeFields 6 (some .boolean) 5 := ⟨zW_at 1002 (by decide +kernel) rfl, zW_at 1001 (by decide +kernel) rfl, zW_at 25 (by decide +kernel) rfl, zW_at 63 (by decide +kernel) rfl, by decide +kernel⟩
theorem ml8_240 : Cond.methodLink RX8 240 yX8_packetsOf ∈ zW := zW_at 1172 (by decide +kernel) rfl
theorem v_X8_packetsOf : zV yX8_packetsOf cX8_packetsOf 5 (some .int) 1 := ⟨zW_at 1175 (by decide +kernel) rfl, zW_at 1174 (by decide +kernel) rfl, zW_at 46 (by decide +kernel) rfl, zW_at 63 (by decide +kernel) rfl, by decide +kernel⟩
theorem k8_243 : Cond.constantLong RX8 243 4 ∈ zW := zW_at 1176 (by decide +kernel) rfl
theorem ml8_145 : Cond.methodLink RX8 145 yX8_found ∈ zW := zW_at 1003 (by decide +kernel) rfl
theorem v_X8_found : zV yX8_found cX8_found 5 (some .int) 0 := ⟨zW_at 1006 (by decide +kernel) rfl, zW_at 1005 (by decide +kernel) rfl, zW_at 26 (by decide +kernel) rfl, zW_at 63 (by decide +kernel) rfl, by decide +kernel⟩
theorem ml8_259 : Cond.methodLink RX8 259 yX8_part ∈ zW := zW_at 1225 (by decide +kernel) rfl
theorem v_X8_part : zV yX8_part cX8_part 2 (some .int) 1 := ⟨zW_at 1228 (by decide +kernel) rfl, zW_at 1227 (by decide +kernel) rfl, zW_at 49 (by decide +kernel) rfl, zW_at 63 (by decide +kernel) rfl, by decide +kernel⟩
theorem ml8_113 : Cond.methodLink RX8 113 yX8_layHash ∈ zW := zW_at 963 (by decide +kernel) rfl
theorem v_X8_layHash : zV yX8_layHash cX8_layHash 2 none 1 := ⟨zW_at 966 (by decide +kernel) rfl, zW_at 965 (by decide +kernel) rfl, zW_at 19 (by decide +kernel) rfl, zW_at 63 (by decide +kernel) rfl, by decide +kernel⟩
theorem k8_196 : Cond.constantLong RX8 196 1500 ∈ zW := zW_at 1085 (by decide +kernel) rfl
theorem ml8_201 : Cond.methodLink RX8 201 yX8_comes ∈ zW := zW_at 1091 (by decide +kernel) rfl
theorem v_X8_comes : zV yX8_comes cX8_comes 12 (some .int) 3 := ⟨zW_at 1094 (by decide +kernel) rfl, zW_at 1093 (by decide +kernel) rfl, zW_at 35 (by decide +kernel) rfl, zW_at 63 (by decide +kernel) rfl, by decide +kernel⟩
theorem k8_204 : Cond.constantLong RX8 204 20 ∈ zW := zW_at 1114 (by decide +kernel) rfl
theorem ml8_212 : Cond.methodLink RX8 212 yX8_follows ∈ zW := zW_at 1152 (by decide +kernel) rfl
theorem v_X8_follows : zV yX8_follows cX8_follows 6 none 2 := ⟨zW_at 1155 (by decide +kernel) rfl, zW_at 1154 (by decide +kernel) rfl, zW_at 45 (by decide +kernel) rfl, zW_at 63 (by decide +kernel) rfl, by decide +kernel⟩
theorem ml8_247 : Cond.methodLink RX8 247 yX8_wishers ∈ zW := zW_at 1194 (by decide +kernel) rfl
theorem v_X8_wishers : zV yX8_wishers cX8_wishers 4 (some .int) 1 := ⟨zW_at 1197 (by decide +kernel) rfl, zW_at 1196 (by decide +kernel) rfl, zW_at 47 (by decide +kernel) rfl, zW_at 63 (by decide +kernel) rfl, by decide +kernel⟩
theorem ml8_250 : Cond.methodLink RX8 250 yX8_entriesOf ∈ zW := zW_at 1198 (by decide +kernel) rfl
theorem v_X8_entriesOf : zV yX8_entriesOf cX8_entriesOf 4 (some .int) 1 := ⟨zW_at 1201 (by decide +kernel) rfl, zW_at 1200 (by decide +kernel) rfl, zW_at 48 (by decide +kernel) rfl, zW_at 63 (by decide +kernel) rfl, by decide +kernel⟩
theorem ml8_262 : Cond.methodLink RX8 262 yX8_unlikeEntries ∈ zW := zW_at 1241 (by decide +kernel) rfl
theorem v_X8_unlikeEntries : zV yX8_unlikeEntries cX8_unlikeEntries 4 (some .int) 0 := ⟨zW_at 1244 (by decide +kernel) rfl, zW_at 1243 (by decide +kernel) rfl, zW_at 50 (by decide +kernel) rfl, zW_at 63 (by decide +kernel) rfl, by decide +kernel⟩
theorem ml8_132 : Cond.methodLink RX8 132 yX8_layHashes ∈ zW := zW_at 959 (by decide +kernel) rfl
theorem v_X8_layHashes : zV yX8_layHashes cX8_layHashes 2 none 0 := ⟨zW_at 962 (by decide +kernel) rfl, zW_at 961 (by decide +kernel) rfl, zW_at 18 (by decide +kernel) rfl, zW_at 63 (by decide +kernel) rfl, by decide +kernel⟩
theorem k8_135 : Cond.constantLong RX8 135 31 ∈ zW := zW_at 990 (by decide +kernel) rfl
theorem ml8_219 : Cond.methodLink RX8 219 yX8_gives ∈ zW := zW_at 1148 (by decide +kernel) rfl
theorem v_X8_gives : zV yX8_gives cX8_gives 10 none 2 := ⟨zW_at 1151 (by decide +kernel) rfl, zW_at 1150 (by decide +kernel) rfl, zW_at 44 (by decide +kernel) rfl, zW_at 63 (by decide +kernel) rfl, by decide +kernel⟩
theorem ml8_216 : Cond.methodLink RX8 216 yX8_joins ∈ zW := zW_at 1144 (by decide +kernel) rfl
theorem v_X8_joins : zV yX8_joins cX8_joins 6 none 2 := ⟨zW_at 1147 (by decide +kernel) rfl, zW_at 1146 (by decide +kernel) rfl, zW_at 43 (by decide +kernel) rfl, zW_at 63 (by decide +kernel) rfl, by decide +kernel⟩
theorem ml8_225 : Cond.methodLink RX8 225 yX8_takes ∈ zW := zW_at 1137 (by decide +kernel) rfl
theorem v_X8_takes : zV yX8_takes cX8_takes 5 (some .int) 1 := ⟨zW_at 1140 (by decide +kernel) rfl, zW_at 1139 (by decide +kernel) rfl, zW_at 42 (by decide +kernel) rfl, zW_at 63 (by decide +kernel) rfl, by decide +kernel⟩
theorem ml8_228 : Cond.methodLink RX8 228 yX8_calls ∈ zW := zW_at 1133 (by decide +kernel) rfl
theorem v_X8_calls : zV yX8_calls cX8_calls 4 none 1 := ⟨zW_at 1136 (by decide +kernel) rfl, zW_at 1135 (by decide +kernel) rfl, zW_at 41 (by decide +kernel) rfl, zW_at 63 (by decide +kernel) rfl, by decide +kernel⟩
theorem ml8_231 : Cond.methodLink RX8 231 yX8_ticks ∈ zW := zW_at 1129 (by decide +kernel) rfl
theorem v_X8_ticks : zV yX8_ticks cX8_ticks 3 none 0 := ⟨zW_at 1132 (by decide +kernel) rfl, zW_at 1131 (by decide +kernel) rfl, zW_at 40 (by decide +kernel) rfl, zW_at 63 (by decide +kernel) rfl, by decide +kernel⟩
theorem k8_236 : Cond.constant RX8 236 99999 ∈ zW := zW_at 1124 (by decide +kernel) rfl
theorem k8_234 : Cond.constantLong RX8 234 100 ∈ zW := zW_at 1123 (by decide +kernel) rfl
theorem ml8_237 : Cond.methodLink RX8 237 yX8_ticksBy ∈ zW := zW_at 1125 (by decide +kernel) rfl
theorem v_X8_ticksBy : zV yX8_ticksBy cX8_ticksBy 3 none 1 := ⟨zW_at 1128 (by decide +kernel) rfl, zW_at 1127 (by decide +kernel) rfl, zW_at 39 (by decide +kernel) rfl, zW_at 63 (by decide +kernel) rfl, by decide +kernel⟩
end
section
section WR
variable {p : Program} {l : Launch} {e : Env} {s : State} {m : MethodId} {args : Array Value} {below : List Frame} {meth : Method} {c : Code} {g : zG} {A : Nat → Prop}
abbrev j_X8_in (p : Program) (l : Launch) (e : Env) (s : State) (m : MethodId) (args : Array Value) (below : List Frame) (meth : Method) (c : Code) (g : zG) (A : Nat → Prop) (Q : Int32 → Prop) (pc : Nat) (lv : List (Nat × Value)) (st : List Value) : Prop := zJ p l e (zR 0 0 0) s m args below meth c g A 6 (zQi below args s g A 0 0 (fun _ : Unit => []) (fun r _ => Q r)) [] 0 0 pc lv st
def wp_X8_in_18 (Q : Int32 → Prop) (t0 : Int32) : Prop :=
  (zBool t0 ∧ Q t0)
set_option maxRecDepth 20000 in
theorem b_X8_in_18 (C : zC p s m args meth c g A cX8_in RX8 6) (hr : meth.sig.returnType = (some .boolean)) (Q : Int32 → Prop) (t0 : Int32) (h : wp_X8_in_18 Q t0) : j_X8_in p l e s m args below meth c g A Q 18 [] [.int t0] := by
  unfold wp_X8_in_18 at h
  exact z_zret C hr () rfl h.1 h.2 dX8_in_18
def wp_X8_in_17 (Q : Int32 → Prop) : Prop :=
  wp_X8_in_18 Q 0
set_option maxRecDepth 20000 in
theorem b_X8_in_17 (C : zC p s m args meth c g A cX8_in RX8 6) (hr : meth.sig.returnType = (some .boolean)) (Q : Int32 → Prop) (h : wp_X8_in_17 Q) : j_X8_in p l e s m args below meth c g A Q 17 [] [] := by
  unfold wp_X8_in_17 at h
  refine z_iconst (v := 0) C dX8_in_17 (by decide) ?_
  exact b_X8_in_18 C hr Q 0 h
def wp_X8_in (y0 : Int64) (y2 : Int64) (y4 : Int64) (Q : Int32 → Prop) : Prop :=
  ((lg_cmp y0 y2 < 0 → wp_X8_in_17 Q) ∧ (¬ lg_cmp y0 y2 < 0 → ((0 < lg_cmp y0 y4 → wp_X8_in_17 Q) ∧ (¬ 0 < lg_cmp y0 y4 → wp_X8_in_18 Q 1))))
set_option maxRecDepth 20000 in
theorem c_X8_in (l : Launch) (g : zG) (y0 : Int64) (y2 : Int64) (y4 : Int64) (Q : Int32 → Prop) (h : wp_X8_in y0 y2 y4 Q) : zMi l yX8_in cX8_in 6 (some .boolean) 0 0 0 g [.long y0, .long y2, .long y4] [] (fun _ : Unit => []) (fun r _ => Q r) := by
  refine zMi_of RX8 (by decide) rfl [(0, .long y0), (2, .long y2), (4, .long y4)] rfl (Nat.le_of_ble_eq_true rfl) (fun p e s m args below meth c A C hr hnm => ?_)
  unfold wp_X8_in at h
  refine z_lload_n C dX8_in_0 rfl 0 rfl ?_
  refine z_lload_n C dX8_in_1 rfl 1 rfl ?_
  refine z_lcmp C dX8_in_2 ?_
  refine z_if_lt C dX8_in_3 (tgt := 17) (by decide) (fun hc101 => ?_) (fun hc101 => ?_)
  · have h := h.1 hc101
    refine z_lv (lv1 := []) [] rfl ?_
    exact b_X8_in_17 C hr Q h
  · have h := h.2 hc101
    refine z_lload_n C dX8_in_6 rfl 0 rfl ?_
    refine z_lload C dX8_in_7 2 rfl ?_
    refine z_lcmp C dX8_in_9 ?_
    refine z_if_gt C dX8_in_10 (tgt := 17) (by decide) (fun hc102 => ?_) (fun hc102 => ?_)
    · have h := h.1 hc102
      refine z_lv (lv1 := []) [] rfl ?_
      exact b_X8_in_17 C hr Q h
    · have h := h.2 hc102
      refine z_iconst (v := 1) C dX8_in_13 (by decide) ?_
      refine z_goto C dX8_in_14 (tgt := 18) (by decide) ?_
      refine z_lv (lv1 := []) [] rfl ?_
      exact b_X8_in_18 C hr Q 1 h
abbrev j_X8_lesser (p : Program) (l : Launch) (e : Env) (s : State) (m : MethodId) (args : Array Value) (below : List Frame) (meth : Method) (c : Code) (g : zG) (A : Nat → Prop) (Q : Int32 → Prop) (pc : Nat) (lv : List (Nat × Value)) (st : List Value) : Prop := zJ p l e (zR 0 0 0) s m args below meth c g A 2 (zQi below args s g A 0 0 (fun _ : Unit => []) (fun r _ => Q r)) [] 0 0 pc lv st
def wp_X8_lesser_10 (Q : Int32 → Prop) (t0 : Int32) : Prop :=
  Q t0
set_option maxRecDepth 20000 in
theorem b_X8_lesser_10 (C : zC p s m args meth c g A cX8_lesser RX8 2) (hr : meth.sig.returnType = (some .int)) (Q : Int32 → Prop) (t0 : Int32) (h : wp_X8_lesser_10 Q t0) : j_X8_lesser p l e s m args below meth c g A Q 10 [] [.int t0] := by
  unfold wp_X8_lesser_10 at h
  exact z_iret C hr () rfl h dX8_lesser_10
def wp_X8_lesser (x0 : Int32) (x1 : Int32) (Q : Int32 → Prop) : Prop :=
  ((x1 ≤ x0 → wp_X8_lesser_10 Q x1) ∧ (¬ x1 ≤ x0 → wp_X8_lesser_10 Q x0))
set_option maxRecDepth 20000 in
theorem c_X8_lesser (l : Launch) (g : zG) (x0 : Int32) (x1 : Int32) (Q : Int32 → Prop) (h : wp_X8_lesser x0 x1 Q) : zMi l yX8_lesser cX8_lesser 2 (some .int) 0 0 0 g [.int x0, .int x1] [] (fun _ : Unit => []) (fun r _ => Q r) := by
  refine zMi_of RX8 (by decide) rfl [(0, .int x0), (1, .int x1)] rfl (Nat.le_of_ble_eq_true rfl) (fun p e s m args below meth c A C hr hnm => ?_)
  unfold wp_X8_lesser at h
  refine z_iload_n C dX8_lesser_0 rfl 0 rfl ?_
  refine z_iload_n C dX8_lesser_1 rfl 1 rfl ?_
  refine z_icmp_ge C dX8_lesser_2 (tgt := 9) (by decide) (fun hc101 => ?_) (fun hc101 => ?_)
  · have h := h.1 hc101
    refine z_iload_n C dX8_lesser_9 rfl 1 rfl ?_
    refine z_lv (lv1 := []) [] rfl ?_
    exact b_X8_lesser_10 C hr Q x1 h
  · have h := h.2 hc101
    refine z_iload_n C dX8_lesser_5 rfl 0 rfl ?_
    refine z_goto C dX8_lesser_6 (tgt := 10) (by decide) ?_
    refine z_lv (lv1 := []) [] rfl ?_
    exact b_X8_lesser_10 C hr Q x0 h
abbrev j_X8_ruleAt (p : Program) (l : Launch) (e : Env) (s : State) (m : MethodId) (args : Array Value) (below : List Frame) (meth : Method) (c : Code) (g : zG) (A : Nat → Prop) (Q : Int32 → Prop) (pc : Nat) (lv : List (Nat × Value)) (st : List Value) : Prop := zJ p l e (zR 0 0 0) s m args below meth c g A 1 (zQi below args s g A 0 0 (fun _ : Unit => []) (fun r _ => Q r)) [] 0 0 pc lv st
def wp_X8_ruleAt (x0 : Int32) (Q : Int32 → Prop) : Prop :=
  Q (55 + (3 * x0))
set_option maxRecDepth 20000 in
theorem c_X8_ruleAt (l : Launch) (g : zG) (x0 : Int32) (Q : Int32 → Prop) (h : wp_X8_ruleAt x0 Q) : zMi l yX8_ruleAt cX8_ruleAt 1 (some .int) 0 0 0 g [.int x0] [] (fun _ : Unit => []) (fun r _ => Q r) := by
  refine zMi_of RX8 (by decide) rfl [(0, .int x0)] rfl (Nat.le_of_ble_eq_true rfl) (fun p e s m args below meth c A C hr hnm => ?_)
  unfold wp_X8_ruleAt at h
  refine z_bipush (v := 55) C dX8_ruleAt_0 (by decide) ?_
  refine z_iconst (v := 3) C dX8_ruleAt_2 (by decide) ?_
  refine z_iload_n C dX8_ruleAt_3 rfl 0 rfl ?_
  refine z_imul C dX8_ruleAt_4 ?_
  refine z_iadd C dX8_ruleAt_5 ?_
  exact z_iret C hr () rfl h dX8_ruleAt_6
abbrev j_X8_ruleOf (p : Program) (l : Launch) (e : Env) (s : State) (m : MethodId) (args : Array Value) (below : List Frame) (meth : Method) (c : Code) (g : zG) (A : Nat → Prop) (ad : Nat → Nat) (Q : Int32 → RS → Prop) (u : RS) (pc : Nat) (lv : List (Nat × Value)) (st : List Value) : Prop := zJ p l e (zR 1 0 0) s m args below meth c g A 4 (zQi below args s g A 0 0 (wR g ad) Q) (wR g ad u) 0 0 pc lv st
def wp_X8_ruleOf_32 (Q : Int32 → RS → Prop) (B4 : RS → Int32 → Int32 → Int32 → Prop) (u : RS) (x1 : Int32) (x3 : Int32) (t0 : Int32) : Prop :=
  ∀ x105 : Int32, x105 = x3 + 1 → B4 u x1 t0 x105
set_option maxRecDepth 20000 in
theorem b_X8_ruleOf_32 (C : zC p s m args meth c g A cX8_ruleOf RX8 4) (hr : meth.sig.returnType = (some .int)) (ad : Nat → Nat) (Q : Int32 → RS → Prop) (B4 : RS → Int32 → Int32 → Int32 → Prop) (hB4 : ∀ (u : RS) (x1 : Int32) (x2 : Int32) (x3 : Int32), B4 u x1 x2 x3 → j_X8_ruleOf p l e s m args below meth c g A ad Q u 4 [(0, .ref (ad 0)), (1, .int x1), (2, .int x2), (3, .int x3)] []) (u : RS) (x1 : Int32) (x3 : Int32) (t0 : Int32) (h : wp_X8_ruleOf_32 Q B4 u x1 x3 t0) : j_X8_ruleOf p l e s m args below meth c g A ad Q u 32 [(0, .ref (ad 0)), (1, .int x1), (3, .int x3)] [.int t0] := by
  unfold wp_X8_ruleOf_32 at h
  refine z_istore_n (lv1 := [(2, .int t0), (0, .ref (ad 0)), (1, .int x1), (3, .int x3)]) C dX8_ruleOf_32 rfl (by decide) rfl ?_
  obtain ⟨x105, ex105⟩ : ∃ y : Int32, y = x3 + 1 := ⟨_, rfl⟩
  have h := h x105 ex105
  refine z_iinc (v := x105) (lv1 := [(3, .int x105), (2, .int t0), (0, .ref (ad 0)), (1, .int x1)]) C dX8_ruleOf_33 3 rfl (by rw [ex105]; rfl) (by decide) rfl ?_
  refine z_goto C dX8_ruleOf_36 (tgt := 4) (by decide) ?_
  refine z_lv (lv1 := [(0, .ref (ad 0)), (1, .int x1), (2, .int t0), (3, .int x105)]) [2, 3, 1, 0] rfl ?_
  exact hB4 u x1 t0 x105 h
def wp_X8_ruleOf_4 (Q : Int32 → RS → Prop) (B4 : RS → Int32 → Int32 → Int32 → Prop) (u : RS) (x1 : Int32) (x2 : Int32) (x3 : Int32) : Prop :=
  ((u.1 3 5 ≤ x3 → Q x2 u) ∧ (¬ u.1 3 5 ≤ x3 → wp_X8_ruleAt x3 (fun r102 => vp_in r102 1065 ∧ ((¬ u.1 3 (zn r102) = x1 → wp_X8_ruleOf_32 Q B4 u x1 x3 x2) ∧ (u.1 3 (zn r102) = x1 → wp_X8_ruleOf_32 Q B4 u x1 x3 x3)))))
set_option maxRecDepth 20000 in
theorem b_X8_ruleOf_4 (C : zC p s m args meth c g A cX8_ruleOf RX8 4) (hr : meth.sig.returnType = (some .int)) (ad : Nat → Nat) (Q : Int32 → RS → Prop) (B4 : RS → Int32 → Int32 → Int32 → Prop) (hB4 : ∀ (u : RS) (x1 : Int32) (x2 : Int32) (x3 : Int32), B4 u x1 x2 x3 → j_X8_ruleOf p l e s m args below meth c g A ad Q u 4 [(0, .ref (ad 0)), (1, .int x1), (2, .int x2), (3, .int x3)] []) (u : RS) (x1 : Int32) (x2 : Int32) (x3 : Int32) (h : wp_X8_ruleOf_4 Q B4 u x1 x2 x3) : j_X8_ruleOf p l e s m args below meth c g A ad Q u 4 [(0, .ref (ad 0)), (1, .int x1), (2, .int x2), (3, .int x3)] [] := by
  unfold wp_X8_ruleOf_4 at h
  refine z_iload_n C dX8_ruleOf_4 rfl 3 rfl ?_
  refine z_aload_n C dX8_ruleOf_5 rfl 0 rfl ?_
  refine gR_row C dX8_ruleOf_6 ?_
  refine z_iconst (v := 5) C dX8_ruleOf_9 (by decide) ?_
  refine lRn_row C 5 (by decide +kernel) (vp_in_iff.mpr (by decide +kernel)) dX8_ruleOf_10 ?_
  refine z_icmp_ge C dX8_ruleOf_11 (tgt := 39) (by decide) (fun hc101 => ?_) (fun hc101 => ?_)
  · have h := h.1 hc101
    refine z_iload_n C dX8_ruleOf_39 rfl 2 rfl ?_
    exact z_iret C hr u rfl h dX8_ruleOf_40
  · have h := h.2 hc101
    refine z_aload_n C dX8_ruleOf_14 rfl 0 rfl ?_
    refine gR_row C dX8_ruleOf_15 ?_
    refine z_iload_n C dX8_ruleOf_18 rfl 3 rfl ?_
    refine cSi (As := [.int x3]) C (c_X8_ruleAt l g x3 _ h) s_X8_ruleAt ml8_116 ⟨Nat.le_of_ble_eq_true rfl, Nat.le_of_ble_eq_true rfl⟩ ⟨Nat.zero_le _, Nat.zero_le _⟩ (Nat.le_of_ble_eq_true rfl) rfl dX8_ruleOf_19 ?_
    intro r102 h
    obtain ⟨hi103, h⟩ := h
    refine lR_row C hi103 dX8_ruleOf_22 ?_
    refine z_iload_n C dX8_ruleOf_23 rfl 1 rfl ?_
    refine z_icmp_ne C dX8_ruleOf_24 (tgt := 31) (by decide) (fun hc104 => ?_) (fun hc104 => ?_)
    · have h := h.1 hc104
      refine z_iload_n C dX8_ruleOf_31 rfl 2 rfl ?_
      refine z_lv (lv1 := [(0, .ref (ad 0)), (1, .int x1), (3, .int x3)]) [0, 1, 3] rfl ?_
      exact b_X8_ruleOf_32 C hr ad Q B4 hB4 u x1 x3 x2 h
    · have h := h.2 hc104
      refine z_iload_n C dX8_ruleOf_27 rfl 3 rfl ?_
      refine z_goto C dX8_ruleOf_28 (tgt := 32) (by decide) ?_
      refine z_lv (lv1 := [(0, .ref (ad 0)), (1, .int x1), (3, .int x3)]) [0, 1, 3] rfl ?_
      exact b_X8_ruleOf_32 C hr ad Q B4 hB4 u x1 x3 x3 h
theorem l_X8_ruleOf_4 (C : zC p s m args meth c g A cX8_ruleOf RX8 4) (hr : meth.sig.returnType = (some .int)) (ad : Nat → Nat) (Q : Int32 → RS → Prop) : ∀ (n : Nat) (u : RS) (x1 : Int32) (x2 : Int32) (x3 : Int32), zit4 (wp_X8_ruleOf_4 Q) n u x1 x2 x3 → j_X8_ruleOf p l e s m args below meth c g A ad Q u 4 [(0, .ref (ad 0)), (1, .int x1), (2, .int x2), (3, .int x3)] [] := by
  intro n
  induction n with
  | zero => exact fun u x1 x2 x3 h => h.elim
  | succ n ih => exact fun u x1 x2 x3 h => b_X8_ruleOf_4 C hr ad Q (zit4 (wp_X8_ruleOf_4 Q) n) ih u x1 x2 x3 h
def wp_X8_ruleOf (u : RS) (x1 : Int32) (Q : Int32 → RS → Prop) : Prop :=
  (∃ n, zit4 (wp_X8_ruleOf_4 Q) n u x1 (-1) 0)
set_option maxRecDepth 20000 in
theorem c_X8_ruleOf (l : Launch) (g : zG) (ad : Nat → Nat) (u : RS) (x1 : Int32) (Q : Int32 → RS → Prop) (h : wp_X8_ruleOf u x1 Q) : zMi l yX8_ruleOf cX8_ruleOf 4 (some .int) 1 0 0 g [.ref (ad 0), .int x1] (wR g ad u) (wR g ad) Q := by
  refine zMi_of RX8 (by decide) rfl [(0, .ref (ad 0)), (1, .int x1)] rfl (Nat.le_of_ble_eq_true rfl) (fun p e s m args below meth c A C hr hnm => ?_)
  unfold wp_X8_ruleOf at h
  refine z_iconst (v := (-1)) C dX8_ruleOf_0 (by decide) ?_
  refine z_istore_n (lv1 := [(2, .int (-1)), (0, .ref (ad 0)), (1, .int x1)]) C dX8_ruleOf_1 rfl (by decide) rfl ?_
  refine z_iconst (v := 0) C dX8_ruleOf_2 (by decide) ?_
  refine z_istore_n (lv1 := [(3, .int 0), (2, .int (-1)), (0, .ref (ad 0)), (1, .int x1)]) C dX8_ruleOf_3 rfl (by decide) rfl ?_
  refine z_lv (lv1 := [(0, .ref (ad 0)), (1, .int x1), (2, .int (-1)), (3, .int 0)]) [2, 3, 1, 0] rfl ?_
  obtain ⟨n9, h⟩ := h
  exact l_X8_ruleOf_4 C hr ad Q n9 u x1 (-1) 0 h
end WR
end
