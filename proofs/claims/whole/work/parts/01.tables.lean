-- ===== PART A: goes FIRST, ahead of the names: the tables' words, and 'selects' of the private methods out of them =====
/-- a private method of a class that the tables say can be made, by its rows of tables_1 -/
def lw_okq (q : MethodName × Nat) : Prop := (q.1.cls ≠ "java/lang/invoke/MethodHandle" ∧ q.1.cls ≠ "java/lang/invoke/VarHandle") ∧ Cond.instantiable q.1.cls q.2 ∈ tables_1 ∧ Cond.privateMethod q.1 ∈ tables_1 ∧ Cond.instanceMethod q.1 ∈ tables_1
theorem lw_p0 : lw_okq (⟨"CakeCards", "found", "(I)J"⟩, 11) := ⟨⟨by decide +kernel, by decide +kernel⟩, List.mem_of_getElem? (i := 22) (by decide +kernel), List.mem_of_getElem? (i := 376) (by decide +kernel), List.mem_of_getElem? (i := 377) (by decide +kernel)⟩
theorem lw_p1 : lw_okq (⟨"CakeCards", "clean", "(J)J"⟩, 11) := ⟨⟨by decide +kernel, by decide +kernel⟩, List.mem_of_getElem? (i := 22) (by decide +kernel), List.mem_of_getElem? (i := 386) (by decide +kernel), List.mem_of_getElem? (i := 387) (by decide +kernel)⟩
theorem lw_p2 : lw_okq (⟨"CakeCards$Tape", "step", "()V"⟩, 8) := ⟨⟨by decide +kernel, by decide +kernel⟩, List.mem_of_getElem? (i := 50) (by decide +kernel), List.mem_of_getElem? (i := 459) (by decide +kernel), List.mem_of_getElem? (i := 460) (by decide +kernel)⟩
theorem lw_p3 : lw_okq (⟨"CakeCards$Tape", "byteAt", "(I)I"⟩, 8) := ⟨⟨by decide +kernel, by decide +kernel⟩, List.mem_of_getElem? (i := 50) (by decide +kernel), List.mem_of_getElem? (i := 463) (by decide +kernel), List.mem_of_getElem? (i := 464) (by decide +kernel)⟩
theorem lw_p4 : lw_okq (⟨"CakeCards$Kitchen", "readMeasure", "(LCakeCards$Tape;)V"⟩, 15) := ⟨⟨by decide +kernel, by decide +kernel⟩, List.mem_of_getElem? (i := 88) (by decide +kernel), List.mem_of_getElem? (i := 529) (by decide +kernel), List.mem_of_getElem? (i := 530) (by decide +kernel)⟩
theorem lw_p5 : lw_okq (⟨"CakeCards$Tape", "pass", "(Z)V"⟩, 8) := ⟨⟨by decide +kernel, by decide +kernel⟩, List.mem_of_getElem? (i := 50) (by decide +kernel), List.mem_of_getElem? (i := 542) (by decide +kernel), List.mem_of_getElem? (i := 543) (by decide +kernel)⟩
theorem lw_p6 : lw_okq (⟨"CakeCards$Tape", "valueHere", "()I"⟩, 8) := ⟨⟨by decide +kernel, by decide +kernel⟩, List.mem_of_getElem? (i := 50) (by decide +kernel), List.mem_of_getElem? (i := 555) (by decide +kernel), List.mem_of_getElem? (i := 556) (by decide +kernel)⟩
theorem lw_p7 : lw_okq (⟨"CakeCards$Tape", "isAtSign", "(I)Z"⟩, 8) := ⟨⟨by decide +kernel, by decide +kernel⟩, List.mem_of_getElem? (i := 50) (by decide +kernel), List.mem_of_getElem? (i := 563) (by decide +kernel), List.mem_of_getElem? (i := 564) (by decide +kernel)⟩
theorem lw_p8 : lw_okq (⟨"CakeCards$Kitchen", "readPacket", "(LCakeCards$Tape;)V"⟩, 15) := ⟨⟨by decide +kernel, by decide +kernel⟩, List.mem_of_getElem? (i := 88) (by decide +kernel), List.mem_of_getElem? (i := 568) (by decide +kernel), List.mem_of_getElem? (i := 569) (by decide +kernel)⟩
theorem lw_p9 : lw_okq (⟨"CakeCards$Kitchen", "readRise", "(LCakeCards$Tape;)V"⟩, 15) := ⟨⟨by decide +kernel, by decide +kernel⟩, List.mem_of_getElem? (i := 88) (by decide +kernel), List.mem_of_getElem? (i := 572) (by decide +kernel), List.mem_of_getElem? (i := 573) (by decide +kernel)⟩
theorem lw_p10 : lw_okq (⟨"CakeCards$Page", "readLine", "(LCakeCards$Tape;LCakeCards$Kitchen;)V"⟩, 6) := ⟨⟨by decide +kernel, by decide +kernel⟩, List.mem_of_getElem? (i := 176) (by decide +kernel), List.mem_of_getElem? (i := 644) (by decide +kernel), List.mem_of_getElem? (i := 645) (by decide +kernel)⟩
theorem lw_p11 : lw_okq (⟨"CakeCards$Page", "readAdd", "(LCakeCards$Tape;LCakeCards$Kitchen;)V"⟩, 6) := ⟨⟨by decide +kernel, by decide +kernel⟩, List.mem_of_getElem? (i := 176) (by decide +kernel), List.mem_of_getElem? (i := 650) (by decide +kernel), List.mem_of_getElem? (i := 651) (by decide +kernel)⟩
theorem lw_p12 : lw_okq (⟨"CakeCards$Page", "readHeat", "(LCakeCards$Tape;)V"⟩, 6) := ⟨⟨by decide +kernel, by decide +kernel⟩, List.mem_of_getElem? (i := 176) (by decide +kernel), List.mem_of_getElem? (i := 670) (by decide +kernel), List.mem_of_getElem? (i := 671) (by decide +kernel)⟩
theorem lw_p13 : lw_okq (⟨"CakeCards$Page", "readBeat", "(LCakeCards$Tape;)V"⟩, 6) := ⟨⟨by decide +kernel, by decide +kernel⟩, List.mem_of_getElem? (i := 176) (by decide +kernel), List.mem_of_getElem? (i := 675) (by decide +kernel), List.mem_of_getElem? (i := 676) (by decide +kernel)⟩
theorem lw_p14 : lw_okq (⟨"CakeCards$Subsets", "begin", "()V"⟩, 5) := ⟨⟨by decide +kernel, by decide +kernel⟩, List.mem_of_getElem? (i := 201) (by decide +kernel), List.mem_of_getElem? (i := 860) (by decide +kernel), List.mem_of_getElem? (i := 861) (by decide +kernel)⟩
theorem lw_p15 : lw_okq (⟨"CakeCards$Subsets", "take", "(I)V"⟩, 5) := ⟨⟨by decide +kernel, by decide +kernel⟩, List.mem_of_getElem? (i := 201) (by decide +kernel), List.mem_of_getElem? (i := 874) (by decide +kernel), List.mem_of_getElem? (i := 875) (by decide +kernel)⟩
def lw_privs_1 : List (MethodName × Nat) := [(⟨"CakeCards", "found", "(I)J"⟩, 11), (⟨"CakeCards", "clean", "(J)J"⟩, 11), (⟨"CakeCards$Tape", "step", "()V"⟩, 8), (⟨"CakeCards$Tape", "byteAt", "(I)I"⟩, 8), (⟨"CakeCards$Kitchen", "readMeasure", "(LCakeCards$Tape;)V"⟩, 15), (⟨"CakeCards$Tape", "pass", "(Z)V"⟩, 8), (⟨"CakeCards$Tape", "valueHere", "()I"⟩, 8), (⟨"CakeCards$Tape", "isAtSign", "(I)Z"⟩, 8), (⟨"CakeCards$Kitchen", "readPacket", "(LCakeCards$Tape;)V"⟩, 15), (⟨"CakeCards$Kitchen", "readRise", "(LCakeCards$Tape;)V"⟩, 15), (⟨"CakeCards$Page", "readLine", "(LCakeCards$Tape;LCakeCards$Kitchen;)V"⟩, 6), (⟨"CakeCards$Page", "readAdd", "(LCakeCards$Tape;LCakeCards$Kitchen;)V"⟩, 6), (⟨"CakeCards$Page", "readHeat", "(LCakeCards$Tape;)V"⟩, 6), (⟨"CakeCards$Page", "readBeat", "(LCakeCards$Tape;)V"⟩, 6), (⟨"CakeCards$Subsets", "begin", "()V"⟩, 5), (⟨"CakeCards$Subsets", "take", "(I)V"⟩, 5)]
theorem lw_r1 : ∀ q ∈ lw_privs_1, lw_okq q := List.forall_mem_cons.mpr ⟨lw_p0, List.forall_mem_cons.mpr ⟨lw_p1, List.forall_mem_cons.mpr ⟨lw_p2, List.forall_mem_cons.mpr ⟨lw_p3, List.forall_mem_cons.mpr ⟨lw_p4, List.forall_mem_cons.mpr ⟨lw_p5, List.forall_mem_cons.mpr ⟨lw_p6, List.forall_mem_cons.mpr ⟨lw_p7, List.forall_mem_cons.mpr ⟨lw_p8, List.forall_mem_cons.mpr ⟨lw_p9, List.forall_mem_cons.mpr ⟨lw_p10, List.forall_mem_cons.mpr ⟨lw_p11, List.forall_mem_cons.mpr ⟨lw_p12, List.forall_mem_cons.mpr ⟨lw_p13, List.forall_mem_cons.mpr ⟨lw_p14, List.forall_mem_cons.mpr ⟨lw_p15, fun _ h => absurd h List.not_mem_nil⟩⟩⟩⟩⟩⟩⟩⟩⟩⟩⟩⟩⟩⟩⟩⟩
theorem lw_p16 : lw_okq (⟨"CakeCards$Deck", "isEarlier", "(II)Z"⟩, 5) := ⟨⟨by decide +kernel, by decide +kernel⟩, List.mem_of_getElem? (i := 140) (by decide +kernel), List.mem_of_getElem? (i := 910) (by decide +kernel), List.mem_of_getElem? (i := 911) (by decide +kernel)⟩
theorem lw_p17 : lw_okq (⟨"CakeCards$Deck", "asNear", "(II)I"⟩, 5) := ⟨⟨by decide +kernel, by decide +kernel⟩, List.mem_of_getElem? (i := 140) (by decide +kernel), List.mem_of_getElem? (i := 919) (by decide +kernel), List.mem_of_getElem? (i := 920) (by decide +kernel)⟩
theorem lw_p18 : lw_okq (⟨"CakeCards$Deck", "costOfPair", "(III)I"⟩, 5) := ⟨⟨by decide +kernel, by decide +kernel⟩, List.mem_of_getElem? (i := 140) (by decide +kernel), List.mem_of_getElem? (i := 936) (by decide +kernel), List.mem_of_getElem? (i := 937) (by decide +kernel)⟩
theorem lw_p19 : lw_okq (⟨"CakeCards", "isGrove", "(I)Z"⟩, 11) := ⟨⟨by decide +kernel, by decide +kernel⟩, List.mem_of_getElem? (i := 22) (by decide +kernel), List.mem_of_getElem? (i := 944) (by decide +kernel), List.mem_of_getElem? (i := 945) (by decide +kernel)⟩
theorem lw_p20 : lw_okq (⟨"CakeCards$Grove", "meet", "(II)V"⟩, 5) := ⟨⟨by decide +kernel, by decide +kernel⟩, List.mem_of_getElem? (i := 229) (by decide +kernel), List.mem_of_getElem? (i := 958) (by decide +kernel), List.mem_of_getElem? (i := 959) (by decide +kernel)⟩
theorem lw_p21 : lw_okq (⟨"CakeCards$Grove", "encode", "(II)I"⟩, 5) := ⟨⟨by decide +kernel, by decide +kernel⟩, List.mem_of_getElem? (i := 229) (by decide +kernel), List.mem_of_getElem? (i := 963) (by decide +kernel), List.mem_of_getElem? (i := 964) (by decide +kernel)⟩
theorem lw_p22 : lw_okq (⟨"CakeCards$Forest", "plantEnds", "()Z"⟩, 17) := ⟨⟨by decide +kernel, by decide +kernel⟩, List.mem_of_getElem? (i := 223) (by decide +kernel), List.mem_of_getElem? (i := 967) (by decide +kernel), List.mem_of_getElem? (i := 968) (by decide +kernel)⟩
theorem lw_p23 : lw_okq (⟨"CakeCards$Forest", "sortMarks", "()V"⟩, 17) := ⟨⟨by decide +kernel, by decide +kernel⟩, List.mem_of_getElem? (i := 223) (by decide +kernel), List.mem_of_getElem? (i := 983) (by decide +kernel), List.mem_of_getElem? (i := 984) (by decide +kernel)⟩
theorem lw_p24 : lw_okq (⟨"CakeCards$Forest", "build", "(I)V"⟩, 17) := ⟨⟨by decide +kernel, by decide +kernel⟩, List.mem_of_getElem? (i := 223) (by decide +kernel), List.mem_of_getElem? (i := 987) (by decide +kernel), List.mem_of_getElem? (i := 988) (by decide +kernel)⟩
theorem lw_p25 : lw_okq (⟨"CakeCards$Forest", "graft", "(II)V"⟩, 17) := ⟨⟨by decide +kernel, by decide +kernel⟩, List.mem_of_getElem? (i := 223) (by decide +kernel), List.mem_of_getElem? (i := 992) (by decide +kernel), List.mem_of_getElem? (i := 993) (by decide +kernel)⟩
theorem lw_p26 : lw_okq (⟨"CakeCards$Forest", "countChanges", "()V"⟩, 17) := ⟨⟨by decide +kernel, by decide +kernel⟩, List.mem_of_getElem? (i := 223) (by decide +kernel), List.mem_of_getElem? (i := 996) (by decide +kernel), List.mem_of_getElem? (i := 997) (by decide +kernel)⟩
theorem lw_p27 : lw_okq (⟨"CakeCards$Forest", "compare", "()V"⟩, 17) := ⟨⟨by decide +kernel, by decide +kernel⟩, List.mem_of_getElem? (i := 223) (by decide +kernel), List.mem_of_getElem? (i := 1000) (by decide +kernel), List.mem_of_getElem? (i := 1001) (by decide +kernel)⟩
theorem lw_p28 : lw_okq (⟨"CakeCards$Forest", "joins", "()J"⟩, 17) := ⟨⟨by decide +kernel, by decide +kernel⟩, List.mem_of_getElem? (i := 223) (by decide +kernel), List.mem_of_getElem? (i := 1005) (by decide +kernel), List.mem_of_getElem? (i := 1006) (by decide +kernel)⟩
theorem lw_p29 : lw_okq (⟨"CakeCards", "imageOf", "(I)LCakeCards$Household;"⟩, 11) := ⟨⟨by decide +kernel, by decide +kernel⟩, List.mem_of_getElem? (i := 22) (by decide +kernel), List.mem_of_getElem? (i := 1111) (by decide +kernel), List.mem_of_getElem? (i := 1112) (by decide +kernel)⟩
theorem lw_p30 : lw_okq (⟨"CakeCards$Asker", "bodyOf", "(I)I"⟩, 8) := ⟨⟨by decide +kernel, by decide +kernel⟩, List.mem_of_getElem? (i := 303) (by decide +kernel), List.mem_of_getElem? (i := 1164) (by decide +kernel), List.mem_of_getElem? (i := 1165) (by decide +kernel)⟩
theorem lw_p31 : lw_okq (⟨"CakeCards$Asker", "run", "(II)I"⟩, 8) := ⟨⟨by decide +kernel, by decide +kernel⟩, List.mem_of_getElem? (i := 303) (by decide +kernel), List.mem_of_getElem? (i := 1168) (by decide +kernel), List.mem_of_getElem? (i := 1169) (by decide +kernel)⟩
def lw_privs_2 : List (MethodName × Nat) := [(⟨"CakeCards$Deck", "isEarlier", "(II)Z"⟩, 5), (⟨"CakeCards$Deck", "asNear", "(II)I"⟩, 5), (⟨"CakeCards$Deck", "costOfPair", "(III)I"⟩, 5), (⟨"CakeCards", "isGrove", "(I)Z"⟩, 11), (⟨"CakeCards$Grove", "meet", "(II)V"⟩, 5), (⟨"CakeCards$Grove", "encode", "(II)I"⟩, 5), (⟨"CakeCards$Forest", "plantEnds", "()Z"⟩, 17), (⟨"CakeCards$Forest", "sortMarks", "()V"⟩, 17), (⟨"CakeCards$Forest", "build", "(I)V"⟩, 17), (⟨"CakeCards$Forest", "graft", "(II)V"⟩, 17), (⟨"CakeCards$Forest", "countChanges", "()V"⟩, 17), (⟨"CakeCards$Forest", "compare", "()V"⟩, 17), (⟨"CakeCards$Forest", "joins", "()J"⟩, 17), (⟨"CakeCards", "imageOf", "(I)LCakeCards$Household;"⟩, 11), (⟨"CakeCards$Asker", "bodyOf", "(I)I"⟩, 8), (⟨"CakeCards$Asker", "run", "(II)I"⟩, 8)]
theorem lw_r2 : ∀ q ∈ lw_privs_2, lw_okq q := List.forall_mem_cons.mpr ⟨lw_p16, List.forall_mem_cons.mpr ⟨lw_p17, List.forall_mem_cons.mpr ⟨lw_p18, List.forall_mem_cons.mpr ⟨lw_p19, List.forall_mem_cons.mpr ⟨lw_p20, List.forall_mem_cons.mpr ⟨lw_p21, List.forall_mem_cons.mpr ⟨lw_p22, List.forall_mem_cons.mpr ⟨lw_p23, List.forall_mem_cons.mpr ⟨lw_p24, List.forall_mem_cons.mpr ⟨lw_p25, List.forall_mem_cons.mpr ⟨lw_p26, List.forall_mem_cons.mpr ⟨lw_p27, List.forall_mem_cons.mpr ⟨lw_p28, List.forall_mem_cons.mpr ⟨lw_p29, List.forall_mem_cons.mpr ⟨lw_p30, List.forall_mem_cons.mpr ⟨lw_p31, fun _ h => absurd h List.not_mem_nil⟩⟩⟩⟩⟩⟩⟩⟩⟩⟩⟩⟩⟩⟩⟩⟩
theorem lw_p32 : lw_okq (⟨"CakeCards$Asker", "leave", "(I)V"⟩, 8) := ⟨⟨by decide +kernel, by decide +kernel⟩, List.mem_of_getElem? (i := 303) (by decide +kernel), List.mem_of_getElem? (i := 1172) (by decide +kernel), List.mem_of_getElem? (i := 1173) (by decide +kernel)⟩
theorem lw_p33 : lw_okq (⟨"CakeCardsModel", "finding", "(I)J"⟩, 44) := ⟨⟨by decide +kernel, by decide +kernel⟩, List.mem_of_getElem? (i := 1206) (by decide +kernel), List.mem_of_getElem? (i := 1359) (by decide +kernel), List.mem_of_getElem? (i := 1360) (by decide +kernel)⟩
theorem lw_p34 : lw_okq (⟨"CakeCardsModel", "begins", "()V"⟩, 44) := ⟨⟨by decide +kernel, by decide +kernel⟩, List.mem_of_getElem? (i := 1206) (by decide +kernel), List.mem_of_getElem? (i := 1387) (by decide +kernel), List.mem_of_getElem? (i := 1388) (by decide +kernel)⟩
theorem lw_p35 : lw_okq (⟨"CakeCardsModel", "next", "()V"⟩, 44) := ⟨⟨by decide +kernel, by decide +kernel⟩, List.mem_of_getElem? (i := 1206) (by decide +kernel), List.mem_of_getElem? (i := 1391) (by decide +kernel), List.mem_of_getElem? (i := 1392) (by decide +kernel)⟩
theorem lw_p36 : lw_okq (⟨"CakeCardsModel", "byteAt", "(I)I"⟩, 44) := ⟨⟨by decide +kernel, by decide +kernel⟩, List.mem_of_getElem? (i := 1206) (by decide +kernel), List.mem_of_getElem? (i := 1395) (by decide +kernel), List.mem_of_getElem? (i := 1396) (by decide +kernel)⟩
theorem lw_p37 : lw_okq (⟨"CakeCardsModel", "word", "()J"⟩, 44) := ⟨⟨by decide +kernel, by decide +kernel⟩, List.mem_of_getElem? (i := 1206) (by decide +kernel), List.mem_of_getElem? (i := 1406) (by decide +kernel), List.mem_of_getElem? (i := 1407) (by decide +kernel)⟩
theorem lw_p38 : lw_okq (⟨"CakeCardsModel", "readMeasure", "()V"⟩, 44) := ⟨⟨by decide +kernel, by decide +kernel⟩, List.mem_of_getElem? (i := 1206) (by decide +kernel), List.mem_of_getElem? (i := 1411) (by decide +kernel), List.mem_of_getElem? (i := 1412) (by decide +kernel)⟩
theorem lw_p39 : lw_okq (⟨"CakeCardsModel", "bad", "(I)V"⟩, 44) := ⟨⟨by decide +kernel, by decide +kernel⟩, List.mem_of_getElem? (i := 1206) (by decide +kernel), List.mem_of_getElem? (i := 1415) (by decide +kernel), List.mem_of_getElem? (i := 1416) (by decide +kernel)⟩
theorem lw_p40 : lw_okq (⟨"CakeCardsModel", "must", "(Z)V"⟩, 44) := ⟨⟨by decide +kernel, by decide +kernel⟩, List.mem_of_getElem? (i := 1206) (by decide +kernel), List.mem_of_getElem? (i := 1419) (by decide +kernel), List.mem_of_getElem? (i := 1420) (by decide +kernel)⟩
theorem lw_p41 : lw_okq (⟨"CakeCardsModel", "number", "(II)I"⟩, 44) := ⟨⟨by decide +kernel, by decide +kernel⟩, List.mem_of_getElem? (i := 1206) (by decide +kernel), List.mem_of_getElem? (i := 1423) (by decide +kernel), List.mem_of_getElem? (i := 1424) (by decide +kernel)⟩
theorem lw_p42 : lw_okq (⟨"CakeCardsModel", "here", "()I"⟩, 44) := ⟨⟨by decide +kernel, by decide +kernel⟩, List.mem_of_getElem? (i := 1206) (by decide +kernel), List.mem_of_getElem? (i := 1427) (by decide +kernel), List.mem_of_getElem? (i := 1428) (by decide +kernel)⟩
theorem lw_p43 : lw_okq (⟨"CakeCardsModel", "mustEnd", "()V"⟩, 44) := ⟨⟨by decide +kernel, by decide +kernel⟩, List.mem_of_getElem? (i := 1206) (by decide +kernel), List.mem_of_getElem? (i := 1431) (by decide +kernel), List.mem_of_getElem? (i := 1432) (by decide +kernel)⟩
theorem lw_p44 : lw_okq (⟨"CakeCardsModel", "readPacket", "()V"⟩, 44) := ⟨⟨by decide +kernel, by decide +kernel⟩, List.mem_of_getElem? (i := 1206) (by decide +kernel), List.mem_of_getElem? (i := 1436) (by decide +kernel), List.mem_of_getElem? (i := 1437) (by decide +kernel)⟩
theorem lw_p45 : lw_okq (⟨"CakeCardsModel", "ended", "()J"⟩, 44) := ⟨⟨by decide +kernel, by decide +kernel⟩, List.mem_of_getElem? (i := 1206) (by decide +kernel), List.mem_of_getElem? (i := 1441) (by decide +kernel), List.mem_of_getElem? (i := 1442) (by decide +kernel)⟩
theorem lw_p46 : lw_okq (⟨"CakeCardsModel", "clearDraft", "(III)V"⟩, 44) := ⟨⟨by decide +kernel, by decide +kernel⟩, List.mem_of_getElem? (i := 1206) (by decide +kernel), List.mem_of_getElem? (i := 1452) (by decide +kernel), List.mem_of_getElem? (i := 1453) (by decide +kernel)⟩
theorem lw_p47 : lw_okq (⟨"CakeCardsModel", "readLine", "(II)V"⟩, 44) := ⟨⟨by decide +kernel, by decide +kernel⟩, List.mem_of_getElem? (i := 1206) (by decide +kernel), List.mem_of_getElem? (i := 1456) (by decide +kernel), List.mem_of_getElem? (i := 1457) (by decide +kernel)⟩
def lw_privs_3 : List (MethodName × Nat) := [(⟨"CakeCards$Asker", "leave", "(I)V"⟩, 8), (⟨"CakeCardsModel", "finding", "(I)J"⟩, 44), (⟨"CakeCardsModel", "begins", "()V"⟩, 44), (⟨"CakeCardsModel", "next", "()V"⟩, 44), (⟨"CakeCardsModel", "byteAt", "(I)I"⟩, 44), (⟨"CakeCardsModel", "word", "()J"⟩, 44), (⟨"CakeCardsModel", "readMeasure", "()V"⟩, 44), (⟨"CakeCardsModel", "bad", "(I)V"⟩, 44), (⟨"CakeCardsModel", "must", "(Z)V"⟩, 44), (⟨"CakeCardsModel", "number", "(II)I"⟩, 44), (⟨"CakeCardsModel", "here", "()I"⟩, 44), (⟨"CakeCardsModel", "mustEnd", "()V"⟩, 44), (⟨"CakeCardsModel", "readPacket", "()V"⟩, 44), (⟨"CakeCardsModel", "ended", "()J"⟩, 44), (⟨"CakeCardsModel", "clearDraft", "(III)V"⟩, 44), (⟨"CakeCardsModel", "readLine", "(II)V"⟩, 44)]
theorem lw_r3 : ∀ q ∈ lw_privs_3, lw_okq q := List.forall_mem_cons.mpr ⟨lw_p32, List.forall_mem_cons.mpr ⟨lw_p33, List.forall_mem_cons.mpr ⟨lw_p34, List.forall_mem_cons.mpr ⟨lw_p35, List.forall_mem_cons.mpr ⟨lw_p36, List.forall_mem_cons.mpr ⟨lw_p37, List.forall_mem_cons.mpr ⟨lw_p38, List.forall_mem_cons.mpr ⟨lw_p39, List.forall_mem_cons.mpr ⟨lw_p40, List.forall_mem_cons.mpr ⟨lw_p41, List.forall_mem_cons.mpr ⟨lw_p42, List.forall_mem_cons.mpr ⟨lw_p43, List.forall_mem_cons.mpr ⟨lw_p44, List.forall_mem_cons.mpr ⟨lw_p45, List.forall_mem_cons.mpr ⟨lw_p46, List.forall_mem_cons.mpr ⟨lw_p47, fun _ h => absurd h List.not_mem_nil⟩⟩⟩⟩⟩⟩⟩⟩⟩⟩⟩⟩⟩⟩⟩⟩
theorem lw_p48 : lw_okq (⟨"CakeCardsModel", "readAdd", "(II)V"⟩, 44) := ⟨⟨by decide +kernel, by decide +kernel⟩, List.mem_of_getElem? (i := 1206) (by decide +kernel), List.mem_of_getElem? (i := 1461) (by decide +kernel), List.mem_of_getElem? (i := 1462) (by decide +kernel)⟩
theorem lw_p49 : lw_okq (⟨"CakeCardsModel", "numberOrStain", "(II)I"⟩, 44) := ⟨⟨by decide +kernel, by decide +kernel⟩, List.mem_of_getElem? (i := 1206) (by decide +kernel), List.mem_of_getElem? (i := 1465) (by decide +kernel), List.mem_of_getElem? (i := 1466) (by decide +kernel)⟩
theorem lw_p50 : lw_okq (⟨"CakeCardsModel", "grainsOf", "(III)I"⟩, 44) := ⟨⟨by decide +kernel, by decide +kernel⟩, List.mem_of_getElem? (i := 1206) (by decide +kernel), List.mem_of_getElem? (i := 1469) (by decide +kernel), List.mem_of_getElem? (i := 1470) (by decide +kernel)⟩
theorem lw_p51 : lw_okq (⟨"CakeCardsModel", "lay", "(II)V"⟩, 44) := ⟨⟨by decide +kernel, by decide +kernel⟩, List.mem_of_getElem? (i := 1206) (by decide +kernel), List.mem_of_getElem? (i := 1473) (by decide +kernel), List.mem_of_getElem? (i := 1474) (by decide +kernel)⟩
theorem lw_p52 : lw_okq (⟨"CakeCardsModel", "keepDraft", "()I"⟩, 44) := ⟨⟨by decide +kernel, by decide +kernel⟩, List.mem_of_getElem? (i := 1206) (by decide +kernel), List.mem_of_getElem? (i := 1479) (by decide +kernel), List.mem_of_getElem? (i := 1480) (by decide +kernel)⟩
theorem lw_p53 : lw_okq (⟨"CakeCardsModel", "isCard", "(I)Z"⟩, 44) := ⟨⟨by decide +kernel, by decide +kernel⟩, List.mem_of_getElem? (i := 1206) (by decide +kernel), List.mem_of_getElem? (i := 1500) (by decide +kernel), List.mem_of_getElem? (i := 1501) (by decide +kernel)⟩
theorem lw_p54 : lw_okq (⟨"CakeCardsModel", "ofCard", "(II)I"⟩, 44) := ⟨⟨by decide +kernel, by decide +kernel⟩, List.mem_of_getElem? (i := 1206) (by decide +kernel), List.mem_of_getElem? (i := 1504) (by decide +kernel), List.mem_of_getElem? (i := 1505) (by decide +kernel)⟩
theorem lw_p55 : lw_okq (⟨"CakeCardsModel", "isKnown", "(II)Z"⟩, 44) := ⟨⟨by decide +kernel, by decide +kernel⟩, List.mem_of_getElem? (i := 1206) (by decide +kernel), List.mem_of_getElem? (i := 1518) (by decide +kernel), List.mem_of_getElem? (i := 1519) (by decide +kernel)⟩
theorem lw_p56 : lw_okq (⟨"CakeCardsModel", "markOf", "(II)I"⟩, 44) := ⟨⟨by decide +kernel, by decide +kernel⟩, List.mem_of_getElem? (i := 1206) (by decide +kernel), List.mem_of_getElem? (i := 1522) (by decide +kernel), List.mem_of_getElem? (i := 1523) (by decide +kernel)⟩
theorem lw_p57 : lw_okq (⟨"CakeCardsModel", "mother", "(II)I"⟩, 44) := ⟨⟨by decide +kernel, by decide +kernel⟩, List.mem_of_getElem? (i := 1206) (by decide +kernel), List.mem_of_getElem? (i := 1540) (by decide +kernel), List.mem_of_getElem? (i := 1541) (by decide +kernel)⟩
theorem lw_p58 : lw_okq (⟨"CakeCardsModel", "unlikeOf", "(II)I"⟩, 44) := ⟨⟨by decide +kernel, by decide +kernel⟩, List.mem_of_getElem? (i := 1206) (by decide +kernel), List.mem_of_getElem? (i := 1559) (by decide +kernel), List.mem_of_getElem? (i := 1560) (by decide +kernel)⟩
theorem lw_p59 : lw_okq (⟨"CakeCardsModel", "isUnlike", "(III)Z"⟩, 44) := ⟨⟨by decide +kernel, by decide +kernel⟩, List.mem_of_getElem? (i := 1206) (by decide +kernel), List.mem_of_getElem? (i := 1563) (by decide +kernel), List.mem_of_getElem? (i := 1564) (by decide +kernel)⟩
theorem lw_p60 : lw_okq (⟨"CakeCardsModel", "riseOf", "(III)I"⟩, 44) := ⟨⟨by decide +kernel, by decide +kernel⟩, List.mem_of_getElem? (i := 1206) (by decide +kernel), List.mem_of_getElem? (i := 1571) (by decide +kernel), List.mem_of_getElem? (i := 1572) (by decide +kernel)⟩
theorem lw_p61 : lw_okq (⟨"CakeCardsModel", "sinks", "(III)Z"⟩, 44) := ⟨⟨by decide +kernel, by decide +kernel⟩, List.mem_of_getElem? (i := 1206) (by decide +kernel), List.mem_of_getElem? (i := 1578) (by decide +kernel), List.mem_of_getElem? (i := 1579) (by decide +kernel)⟩
theorem lw_p62 : lw_okq (⟨"CakeCardsModel", "seekMother", "(I)V"⟩, 44) := ⟨⟨by decide +kernel, by decide +kernel⟩, List.mem_of_getElem? (i := 1206) (by decide +kernel), List.mem_of_getElem? (i := 1590) (by decide +kernel), List.mem_of_getElem? (i := 1591) (by decide +kernel)⟩
theorem lw_p63 : lw_okq (⟨"CakeCardsModel", "isEarlier", "(II)Z"⟩, 44) := ⟨⟨by decide +kernel, by decide +kernel⟩, List.mem_of_getElem? (i := 1206) (by decide +kernel), List.mem_of_getElem? (i := 1594) (by decide +kernel), List.mem_of_getElem? (i := 1595) (by decide +kernel)⟩
def lw_privs_4 : List (MethodName × Nat) := [(⟨"CakeCardsModel", "readAdd", "(II)V"⟩, 44), (⟨"CakeCardsModel", "numberOrStain", "(II)I"⟩, 44), (⟨"CakeCardsModel", "grainsOf", "(III)I"⟩, 44), (⟨"CakeCardsModel", "lay", "(II)V"⟩, 44), (⟨"CakeCardsModel", "keepDraft", "()I"⟩, 44), (⟨"CakeCardsModel", "isCard", "(I)Z"⟩, 44), (⟨"CakeCardsModel", "ofCard", "(II)I"⟩, 44), (⟨"CakeCardsModel", "isKnown", "(II)Z"⟩, 44), (⟨"CakeCardsModel", "markOf", "(II)I"⟩, 44), (⟨"CakeCardsModel", "mother", "(II)I"⟩, 44), (⟨"CakeCardsModel", "unlikeOf", "(II)I"⟩, 44), (⟨"CakeCardsModel", "isUnlike", "(III)Z"⟩, 44), (⟨"CakeCardsModel", "riseOf", "(III)I"⟩, 44), (⟨"CakeCardsModel", "sinks", "(III)Z"⟩, 44), (⟨"CakeCardsModel", "seekMother", "(I)V"⟩, 44), (⟨"CakeCardsModel", "isEarlier", "(II)Z"⟩, 44)]
theorem lw_r4 : ∀ q ∈ lw_privs_4, lw_okq q := List.forall_mem_cons.mpr ⟨lw_p48, List.forall_mem_cons.mpr ⟨lw_p49, List.forall_mem_cons.mpr ⟨lw_p50, List.forall_mem_cons.mpr ⟨lw_p51, List.forall_mem_cons.mpr ⟨lw_p52, List.forall_mem_cons.mpr ⟨lw_p53, List.forall_mem_cons.mpr ⟨lw_p54, List.forall_mem_cons.mpr ⟨lw_p55, List.forall_mem_cons.mpr ⟨lw_p56, List.forall_mem_cons.mpr ⟨lw_p57, List.forall_mem_cons.mpr ⟨lw_p58, List.forall_mem_cons.mpr ⟨lw_p59, List.forall_mem_cons.mpr ⟨lw_p60, List.forall_mem_cons.mpr ⟨lw_p61, List.forall_mem_cons.mpr ⟨lw_p62, List.forall_mem_cons.mpr ⟨lw_p63, fun _ h => absurd h List.not_mem_nil⟩⟩⟩⟩⟩⟩⟩⟩⟩⟩⟩⟩⟩⟩⟩⟩
theorem lw_p64 : lw_okq (⟨"CakeCardsModel", "isAlike", "(III)Z"⟩, 44) := ⟨⟨by decide +kernel, by decide +kernel⟩, List.mem_of_getElem? (i := 1206) (by decide +kernel), List.mem_of_getElem? (i := 1606) (by decide +kernel), List.mem_of_getElem? (i := 1607) (by decide +kernel)⟩
theorem lw_p65 : lw_okq (⟨"CakeCardsModel", "areEnds", "(I)Z"⟩, 44) := ⟨⟨by decide +kernel, by decide +kernel⟩, List.mem_of_getElem? (i := 1206) (by decide +kernel), List.mem_of_getElem? (i := 1614) (by decide +kernel), List.mem_of_getElem? (i := 1615) (by decide +kernel)⟩
theorem lw_p66 : lw_okq (⟨"CakeCardsModel", "allTrees", "()I"⟩, 44) := ⟨⟨by decide +kernel, by decide +kernel⟩, List.mem_of_getElem? (i := 1206) (by decide +kernel), List.mem_of_getElem? (i := 1618) (by decide +kernel), List.mem_of_getElem? (i := 1619) (by decide +kernel)⟩
theorem lw_p67 : lw_okq (⟨"CakeCardsModel", "seekTrees", "()V"⟩, 44) := ⟨⟨by decide +kernel, by decide +kernel⟩, List.mem_of_getElem? (i := 1206) (by decide +kernel), List.mem_of_getElem? (i := 1622) (by decide +kernel), List.mem_of_getElem? (i := 1623) (by decide +kernel)⟩
theorem lw_p68 : lw_okq (⟨"CakeCardsModel", "layTree", "(I)V"⟩, 44) := ⟨⟨by decide +kernel, by decide +kernel⟩, List.mem_of_getElem? (i := 1206) (by decide +kernel), List.mem_of_getElem? (i := 1626) (by decide +kernel), List.mem_of_getElem? (i := 1627) (by decide +kernel)⟩
theorem lw_p69 : lw_okq (⟨"CakeCardsModel", "putOn", "(III)V"⟩, 44) := ⟨⟨by decide +kernel, by decide +kernel⟩, List.mem_of_getElem? (i := 1206) (by decide +kernel), List.mem_of_getElem? (i := 1630) (by decide +kernel), List.mem_of_getElem? (i := 1631) (by decide +kernel)⟩
theorem lw_p70 : lw_okq (⟨"CakeCardsModel", "changes", "()I"⟩, 44) := ⟨⟨by decide +kernel, by decide +kernel⟩, List.mem_of_getElem? (i := 1206) (by decide +kernel), List.mem_of_getElem? (i := 1634) (by decide +kernel), List.mem_of_getElem? (i := 1635) (by decide +kernel)⟩
theorem lw_p71 : lw_okq (⟨"CakeCardsModel", "changesOf", "(I)I"⟩, 44) := ⟨⟨by decide +kernel, by decide +kernel⟩, List.mem_of_getElem? (i := 1206) (by decide +kernel), List.mem_of_getElem? (i := 1638) (by decide +kernel), List.mem_of_getElem? (i := 1639) (by decide +kernel)⟩
theorem lw_p72 : lw_okq (⟨"CakeCardsModel", "layValues", "(I)V"⟩, 44) := ⟨⟨by decide +kernel, by decide +kernel⟩, List.mem_of_getElem? (i := 1206) (by decide +kernel), List.mem_of_getElem? (i := 1642) (by decide +kernel), List.mem_of_getElem? (i := 1643) (by decide +kernel)⟩
theorem lw_p73 : lw_okq (⟨"CakeCardsModel", "isJoin", "(I)Z"⟩, 44) := ⟨⟨by decide +kernel, by decide +kernel⟩, List.mem_of_getElem? (i := 1206) (by decide +kernel), List.mem_of_getElem? (i := 1650) (by decide +kernel), List.mem_of_getElem? (i := 1651) (by decide +kernel)⟩
theorem lw_p74 : lw_okq (⟨"CakeCardsModel", "has", "(II)Z"⟩, 44) := ⟨⟨by decide +kernel, by decide +kernel⟩, List.mem_of_getElem? (i := 1206) (by decide +kernel), List.mem_of_getElem? (i := 1662) (by decide +kernel), List.mem_of_getElem? (i := 1663) (by decide +kernel)⟩
theorem lw_p75 : lw_okq (⟨"CakeCardsModel", "leftOut", "(II)I"⟩, 44) := ⟨⟨by decide +kernel, by decide +kernel⟩, List.mem_of_getElem? (i := 1206) (by decide +kernel), List.mem_of_getElem? (i := 1673) (by decide +kernel), List.mem_of_getElem? (i := 1674) (by decide +kernel)⟩
theorem lw_p76 : lw_okq (⟨"CakeCardsModel", "lacks", "(II)Z"⟩, 44) := ⟨⟨by decide +kernel, by decide +kernel⟩, List.mem_of_getElem? (i := 1206) (by decide +kernel), List.mem_of_getElem? (i := 1677) (by decide +kernel), List.mem_of_getElem? (i := 1678) (by decide +kernel)⟩
theorem lw_p77 : lw_okq (⟨"CakeCardsModel", "kindOf", "(I)I"⟩, 44) := ⟨⟨by decide +kernel, by decide +kernel⟩, List.mem_of_getElem? (i := 1206) (by decide +kernel), List.mem_of_getElem? (i := 1705) (by decide +kernel), List.mem_of_getElem? (i := 1706) (by decide +kernel)⟩
theorem lw_p78 : lw_okq (⟨"CakeCardsModel", "ownSize", "(II)I"⟩, 44) := ⟨⟨by decide +kernel, by decide +kernel⟩, List.mem_of_getElem? (i := 1206) (by decide +kernel), List.mem_of_getElem? (i := 1721) (by decide +kernel), List.mem_of_getElem? (i := 1722) (by decide +kernel)⟩
theorem lw_p79 : lw_okq (⟨"CakeCardsModel", "marredSize", "(II)I"⟩, 44) := ⟨⟨by decide +kernel, by decide +kernel⟩, List.mem_of_getElem? (i := 1206) (by decide +kernel), List.mem_of_getElem? (i := 1725) (by decide +kernel), List.mem_of_getElem? (i := 1726) (by decide +kernel)⟩
def lw_privs_5 : List (MethodName × Nat) := [(⟨"CakeCardsModel", "isAlike", "(III)Z"⟩, 44), (⟨"CakeCardsModel", "areEnds", "(I)Z"⟩, 44), (⟨"CakeCardsModel", "allTrees", "()I"⟩, 44), (⟨"CakeCardsModel", "seekTrees", "()V"⟩, 44), (⟨"CakeCardsModel", "layTree", "(I)V"⟩, 44), (⟨"CakeCardsModel", "putOn", "(III)V"⟩, 44), (⟨"CakeCardsModel", "changes", "()I"⟩, 44), (⟨"CakeCardsModel", "changesOf", "(I)I"⟩, 44), (⟨"CakeCardsModel", "layValues", "(I)V"⟩, 44), (⟨"CakeCardsModel", "isJoin", "(I)Z"⟩, 44), (⟨"CakeCardsModel", "has", "(II)Z"⟩, 44), (⟨"CakeCardsModel", "leftOut", "(II)I"⟩, 44), (⟨"CakeCardsModel", "lacks", "(II)Z"⟩, 44), (⟨"CakeCardsModel", "kindOf", "(I)I"⟩, 44), (⟨"CakeCardsModel", "ownSize", "(II)I"⟩, 44), (⟨"CakeCardsModel", "marredSize", "(II)I"⟩, 44)]
theorem lw_r5 : ∀ q ∈ lw_privs_5, lw_okq q := List.forall_mem_cons.mpr ⟨lw_p64, List.forall_mem_cons.mpr ⟨lw_p65, List.forall_mem_cons.mpr ⟨lw_p66, List.forall_mem_cons.mpr ⟨lw_p67, List.forall_mem_cons.mpr ⟨lw_p68, List.forall_mem_cons.mpr ⟨lw_p69, List.forall_mem_cons.mpr ⟨lw_p70, List.forall_mem_cons.mpr ⟨lw_p71, List.forall_mem_cons.mpr ⟨lw_p72, List.forall_mem_cons.mpr ⟨lw_p73, List.forall_mem_cons.mpr ⟨lw_p74, List.forall_mem_cons.mpr ⟨lw_p75, List.forall_mem_cons.mpr ⟨lw_p76, List.forall_mem_cons.mpr ⟨lw_p77, List.forall_mem_cons.mpr ⟨lw_p78, List.forall_mem_cons.mpr ⟨lw_p79, fun _ h => absurd h List.not_mem_nil⟩⟩⟩⟩⟩⟩⟩⟩⟩⟩⟩⟩⟩⟩⟩⟩
theorem lw_p80 : lw_okq (⟨"CakeCardsModel", "began", "(I)V"⟩, 44) := ⟨⟨by decide +kernel, by decide +kernel⟩, List.mem_of_getElem? (i := 1206) (by decide +kernel), List.mem_of_getElem? (i := 1729) (by decide +kernel), List.mem_of_getElem? (i := 1730) (by decide +kernel)⟩
theorem lw_p81 : lw_okq (⟨"CakeCardsModel", "things", "(I)I"⟩, 44) := ⟨⟨by decide +kernel, by decide +kernel⟩, List.mem_of_getElem? (i := 1206) (by decide +kernel), List.mem_of_getElem? (i := 1733) (by decide +kernel), List.mem_of_getElem? (i := 1734) (by decide +kernel)⟩
theorem lw_p82 : lw_okq (⟨"CakeCardsModel", "ownMark", "(II)I"⟩, 44) := ⟨⟨by decide +kernel, by decide +kernel⟩, List.mem_of_getElem? (i := 1206) (by decide +kernel), List.mem_of_getElem? (i := 1737) (by decide +kernel), List.mem_of_getElem? (i := 1738) (by decide +kernel)⟩
def lw_privs_6 : List (MethodName × Nat) := [(⟨"CakeCardsModel", "began", "(I)V"⟩, 44), (⟨"CakeCardsModel", "things", "(I)I"⟩, 44), (⟨"CakeCardsModel", "ownMark", "(II)I"⟩, 44)]
theorem lw_r6 : ∀ q ∈ lw_privs_6, lw_okq q := List.forall_mem_cons.mpr ⟨lw_p80, List.forall_mem_cons.mpr ⟨lw_p81, List.forall_mem_cons.mpr ⟨lw_p82, fun _ h => absurd h List.not_mem_nil⟩⟩⟩
def lw_privs : List (MethodName × Nat) := lw_privs_1 ++ (lw_privs_2 ++ (lw_privs_3 ++ (lw_privs_4 ++ (lw_privs_5 ++ (lw_privs_6)))))
def lw_tbl : List Cond := k2_sels lw_privs ++ tables_1
theorem lw_privs_ok : ∀ q ∈ lw_privs, lw_okq q := by
  show ∀ q ∈ lw_privs_1 ++ (lw_privs_2 ++ (lw_privs_3 ++ (lw_privs_4 ++ (lw_privs_5 ++ (lw_privs_6))))), lw_okq q
  exact List.forall_mem_append.mpr ⟨lw_r1, List.forall_mem_append.mpr ⟨lw_r2, List.forall_mem_append.mpr ⟨lw_r3, List.forall_mem_append.mpr ⟨lw_r4, List.forall_mem_append.mpr ⟨lw_r5, lw_r6⟩⟩⟩⟩⟩
def RX0 : String := "CakeCards$Asker"
def TX0 : u_T := fun k => match k with
  | 0 => ("CakeCards$Asker", "trace", "[I", true)
  | 1 => ("CakeCards$Asker", "traced", "I", false)
  | 2 => ("CakeCards$Asker", "number", "I", false)
  | 3 => ("CakeCards$Asker", "kind", "I", false)
  | 4 => ("CakeCards$Asker", "year", "I", false)
  | 5 => ("CakeCards$Asker", "things", "I", false)
  | 6 => ("CakeCards$Asker", "stains", "I", false)
  | _ => ("CakeCards$Asker", "rise", "I", false)
def tyX0 : Nat → FieldType := fun k => match k with
  | 0 => .array .int
  | 1 => .int
  | 2 => .int
  | 3 => .int
  | 4 => .int
  | 5 => .int
  | 6 => .int
  | _ => .int
theorem nmX0 : ∀ a, a < 8 → ∀ b, b < 8 → a ≠ b → (TX0 a).2.1 ≠ (TX0 b).2.1 := by decide +kernel
theorem tyX0_ok : ∀ k, k < 8 → parseFieldDescriptor (TX0 k).2.2.1 = some (tyX0 k) := by decide +kernel
def RX1 : String := "CakeCards$Deck"
def TX1 : u_T := fun k => match k with
  | 0 => ("CakeCards$Deck", "size", "I", false)
  | 1 => ("CakeCards$Deck", "lands", "[I", true)
  | 2 => ("CakeCards$Deck", "years", "[I", true)
  | 3 => ("CakeCards$Deck", "mothers", "[I", true)
  | _ => ("CakeCards$Deck", "marks", "[I", true)
def tyX1 : Nat → FieldType := fun k => match k with
  | 0 => .int
  | 1 => .array .int
  | 2 => .array .int
  | 3 => .array .int
  | _ => .array .int
theorem nmX1 : ∀ a, a < 5 → ∀ b, b < 5 → a ≠ b → (TX1 a).2.1 ≠ (TX1 b).2.1 := by decide +kernel
theorem tyX1_ok : ∀ k, k < 5 → parseFieldDescriptor (TX1 k).2.2.1 = some (tyX1 k) := by decide +kernel
def RX2 : String := "CakeCards$Forest"
def TX2 : u_T := fun k => match k with
  | 0 => ("CakeCards$Forest", "grove", "LCakeCards$Grove;", true)
  | 1 => ("CakeCards$Forest", "ends", "I", false)
  | 2 => ("CakeCards$Forest", "codes", "[I", true)
  | 3 => ("CakeCards$Forest", "parent", "[I", true)
  | 4 => ("CakeCards$Forest", "one", "[I", true)
  | 5 => ("CakeCards$Forest", "other", "[I", true)
  | 6 => ("CakeCards$Forest", "clade", "[I", true)
  | 7 => ("CakeCards$Forest", "order", "[I", true)
  | 8 => ("CakeCards$Forest", "forks", "I", false)
  | 9 => ("CakeCards$Forest", "varying", "[I", true)
  | 10 => ("CakeCards$Forest", "varyings", "I", false)
  | 11 => ("CakeCards$Forest", "changes", "I", false)
  | 12 => ("CakeCards$Forest", "least", "I", false)
  | 13 => ("CakeCards$Forest", "ways", "I", false)
  | 14 => ("CakeCards$Forest", "all", "I", false)
  | 15 => ("CakeCards$Forest", "sureJoins", "J", false)
  | _ => ("CakeCards$Forest", "may", "[I", true)
def tyX2 : Nat → FieldType := fun k => match k with
  | 0 => .object "CakeCards$Grove"
  | 1 => .int
  | 2 => .array .int
  | 3 => .array .int
  | 4 => .array .int
  | 5 => .array .int
  | 6 => .array .int
  | 7 => .array .int
  | 8 => .int
  | 9 => .array .int
  | 10 => .int
  | 11 => .int
  | 12 => .int
  | 13 => .int
  | 14 => .int
  | 15 => .long
  | _ => .array .int
theorem nmX2 : ∀ a, a < 17 → ∀ b, b < 17 → a ≠ b → (TX2 a).2.1 ≠ (TX2 b).2.1 := by decide +kernel
theorem tyX2_ok : ∀ k, k < 17 → parseFieldDescriptor (TX2 k).2.2.1 = some (tyX2 k) := by decide +kernel
def RX3 : String := "CakeCards$Grove"
def TX3 : u_T := fun k => match k with
  | 0 => ("CakeCards$Grove", "ends", "I", false)
  | 1 => ("CakeCards$Grove", "cards", "[I", true)
  | 2 => ("CakeCards$Grove", "values", "[I", true)
  | 3 => ("CakeCards$Grove", "known", "[I", true)
  | _ => ("CakeCards$Grove", "codes", "[I", true)
def tyX3 : Nat → FieldType := fun k => match k with
  | 0 => .int
  | 1 => .array .int
  | 2 => .array .int
  | 3 => .array .int
  | _ => .array .int
theorem nmX3 : ∀ a, a < 5 → ∀ b, b < 5 → a ≠ b → (TX3 a).2.1 ≠ (TX3 b).2.1 := by decide +kernel
theorem tyX3_ok : ∀ k, k < 5 → parseFieldDescriptor (TX3 k).2.2.1 = some (tyX3 k) := by decide +kernel
def RX4 : String := "CakeCards$Household"
def TX4 : u_T := fun k => match k with
  | 0 => ("CakeCards$Household", "kitchen", "LCakeCards$Kitchen;", true)
  | _ => ("CakeCards$Household", "deck", "LCakeCards$Deck;", true)
def tyX4 : Nat → FieldType := fun k => match k with
  | 0 => .object "CakeCards$Kitchen"
  | _ => .object "CakeCards$Deck"
theorem nmX4 : ∀ a, a < 2 → ∀ b, b < 2 → a ≠ b → (TX4 a).2.1 ≠ (TX4 b).2.1 := by decide +kernel
theorem tyX4_ok : ∀ k, k < 2 → parseFieldDescriptor (TX4 k).2.2.1 = some (tyX4 k) := by decide +kernel
def RX5 : String := "CakeCards$Kitchen"
def TX5 : u_T := fun k => match k with
  | 0 => ("CakeCards$Kitchen", "there", "Z", false)
  | 1 => ("CakeCards$Kitchen", "measures", "I", false)
  | 2 => ("CakeCards$Kitchen", "measureOf", "[I", true)
  | 3 => ("CakeCards$Kitchen", "measureLand", "[I", true)
  | 4 => ("CakeCards$Kitchen", "measureYear", "[I", true)
  | 5 => ("CakeCards$Kitchen", "measureGrains", "[I", true)
  | 6 => ("CakeCards$Kitchen", "packets", "I", false)
  | 7 => ("CakeCards$Kitchen", "packetThing", "[I", true)
  | 8 => ("CakeCards$Kitchen", "packetFrom", "[I", true)
  | 9 => ("CakeCards$Kitchen", "packetTill", "[I", true)
  | 10 => ("CakeCards$Kitchen", "lifts", "[I", true)
  | 11 => ("CakeCards$Kitchen", "heat", "I", false)
  | 12 => ("CakeCards$Kitchen", "longs", "I", false)
  | 13 => ("CakeCards$Kitchen", "beat", "I", false)
  | _ => ("CakeCards$Kitchen", "least", "I", false)
def tyX5 : Nat → FieldType := fun k => match k with
  | 0 => .boolean
  | 1 => .int
  | 2 => .array .int
  | 3 => .array .int
  | 4 => .array .int
  | 5 => .array .int
  | 6 => .int
  | 7 => .array .int
  | 8 => .array .int
  | 9 => .array .int
  | 10 => .array .int
  | 11 => .int
  | 12 => .int
  | 13 => .int
  | _ => .int
theorem nmX5 : ∀ a, a < 15 → ∀ b, b < 15 → a ≠ b → (TX5 a).2.1 ≠ (TX5 b).2.1 := by decide +kernel
theorem tyX5_ok : ∀ k, k < 15 → parseFieldDescriptor (TX5 k).2.2.1 = some (tyX5 k) := by decide +kernel
def RX6 : String := "CakeCards$Page"
def TX6 : u_T := fun k => match k with
  | 0 => ("CakeCards$Page", "land", "I", false)
  | 1 => ("CakeCards$Page", "year", "I", false)
  | 2 => ("CakeCards$Page", "marks", "[I", true)
  | 3 => ("CakeCards$Page", "seenThings", "I", false)
  | 4 => ("CakeCards$Page", "seenHeat", "Z", false)
  | _ => ("CakeCards$Page", "seenBeat", "Z", false)
def tyX6 : Nat → FieldType := fun k => match k with
  | 0 => .int
  | 1 => .int
  | 2 => .array .int
  | 3 => .int
  | 4 => .boolean
  | _ => .boolean
theorem nmX6 : ∀ a, a < 6 → ∀ b, b < 6 → a ≠ b → (TX6 a).2.1 ≠ (TX6 b).2.1 := by decide +kernel
theorem tyX6_ok : ∀ k, k < 6 → parseFieldDescriptor (TX6 k).2.2.1 = some (tyX6 k) := by decide +kernel
def RX7 : String := "CakeCards$Shelf"
def TX7 : u_T := fun k => match k with
  | 0 => ("CakeCards$Shelf", "lanes", "[I", true)
  | 1 => ("CakeCards$Shelf", "sizes", "[I", true)
  | _ => ("CakeCards$Shelf", "items", "[I", true)
def tyX7 : Nat → FieldType := fun k => match k with
  | 0 => .array .int
  | 1 => .array .int
  | _ => .array .int
theorem nmX7 : ∀ a, a < 3 → ∀ b, b < 3 → a ≠ b → (TX7 a).2.1 ≠ (TX7 b).2.1 := by decide +kernel
theorem tyX7_ok : ∀ k, k < 3 → parseFieldDescriptor (TX7 k).2.2.1 = some (tyX7 k) := by decide +kernel
def RX8 : String := "CakeCards$Subsets"
def TX8 : u_T := fun k => match k with
  | 0 => ("CakeCards$Subsets", "single", "[I", true)
  | 1 => ("CakeCards$Subsets", "together", "[I", true)
  | 2 => ("CakeCards$Subsets", "first", "I", false)
  | 3 => ("CakeCards$Subsets", "fewest", "I", false)
  | _ => ("CakeCards$Subsets", "ways", "I", false)
def tyX8 : Nat → FieldType := fun k => match k with
  | 0 => .array .int
  | 1 => .array .int
  | 2 => .int
  | 3 => .int
  | _ => .int
theorem nmX8 : ∀ a, a < 5 → ∀ b, b < 5 → a ≠ b → (TX8 a).2.1 ≠ (TX8 b).2.1 := by decide +kernel
theorem tyX8_ok : ∀ k, k < 5 → parseFieldDescriptor (TX8 k).2.2.1 = some (tyX8 k) := by decide +kernel
def RX9 : String := "CakeCards$Tape"
def TX9 : u_T := fun k => match k with
  | 0 => ("CakeCards$Tape", "bytes", "[B", true)
  | 1 => ("CakeCards$Tape", "size", "I", false)
  | 2 => ("CakeCards$Tape", "fault", "I", false)
  | 3 => ("CakeCards$Tape", "place", "I", false)
  | 4 => ("CakeCards$Tape", "failed", "Z", false)
  | 5 => ("CakeCards$Tape", "sort", "I", false)
  | 6 => ("CakeCards$Tape", "start", "I", false)
  | _ => ("CakeCards$Tape", "end", "I", false)
def tyX9 : Nat → FieldType := fun k => match k with
  | 0 => .array .byte
  | 1 => .int
  | 2 => .int
  | 3 => .int
  | 4 => .boolean
  | 5 => .int
  | 6 => .int
  | _ => .int
theorem nmX9 : ∀ a, a < 8 → ∀ b, b < 8 → a ≠ b → (TX9 a).2.1 ≠ (TX9 b).2.1 := by decide +kernel
theorem tyX9_ok : ∀ k, k < 8 → parseFieldDescriptor (TX9 k).2.2.1 = some (tyX9 k) := by decide +kernel
def RX10 : String := "CakeCards"
def TX10 : u_T := fun k => match k with
  | 0 => ("CakeCards", "shelf", "LCakeCards$Shelf;", true)
  | 1 => ("CakeCards", "tape", "LCakeCards$Tape;", true)
  | 2 => ("CakeCards", "now", "LCakeCards$Household;", true)
  | 3 => ("CakeCards", "image0", "LCakeCards$Household;", true)
  | 4 => ("CakeCards", "image1", "LCakeCards$Household;", true)
  | 5 => ("CakeCards", "draft", "LCakeCards$Kitchen;", true)
  | 6 => ("CakeCards", "page", "LCakeCards$Page;", true)
  | 7 => ("CakeCards", "subsets", "LCakeCards$Subsets;", true)
  | 8 => ("CakeCards", "forest", "LCakeCards$Forest;", true)
  | 9 => ("CakeCards", "asker", "LCakeCards$Asker;", true)
  | _ => ("CakeCards", "finding", "I", false)
def tyX10 : Nat → FieldType := fun k => match k with
  | 0 => .object "CakeCards$Shelf"
  | 1 => .object "CakeCards$Tape"
  | 2 => .object "CakeCards$Household"
  | 3 => .object "CakeCards$Household"
  | 4 => .object "CakeCards$Household"
  | 5 => .object "CakeCards$Kitchen"
  | 6 => .object "CakeCards$Page"
  | 7 => .object "CakeCards$Subsets"
  | 8 => .object "CakeCards$Forest"
  | 9 => .object "CakeCards$Asker"
  | _ => .int
theorem nmX10 : ∀ a, a < 11 → ∀ b, b < 11 → a ≠ b → (TX10 a).2.1 ≠ (TX10 b).2.1 := by decide +kernel
theorem tyX10_ok : ∀ k, k < 11 → parseFieldDescriptor (TX10 k).2.2.1 = some (tyX10 k) := by decide +kernel
def RX11 : String := "CakeCardsModel"
def TX11 : u_T := fun k => match k with
  | 0 => ("CakeCardsModel", "thrown", "I", false)
  | 1 => ("CakeCardsModel", "status", "I", false)
  | 2 => ("CakeCardsModel", "lane", "[I", true)
  | 3 => ("CakeCardsModel", "many", "[I", true)
  | 4 => ("CakeCardsModel", "item", "[I", true)
  | 5 => ("CakeCardsModel", "kitchen", "[I", true)
  | 6 => ("CakeCardsModel", "fresh", "[I", true)
  | 7 => ("CakeCardsModel", "isThere", "Z", false)
  | 8 => ("CakeCardsModel", "now", "[I", true)
  | 9 => ("CakeCardsModel", "tape", "[I", true)
  | 10 => ("CakeCardsModel", "taped", "I", false)
  | 11 => ("CakeCardsModel", "latest", "I", false)
  | 12 => ("CakeCardsModel", "length", "I", false)
  | 13 => ("CakeCardsModel", "cursor", "I", false)
  | 14 => ("CakeCardsModel", "token", "I", false)
  | 15 => ("CakeCardsModel", "from", "I", false)
  | 16 => ("CakeCardsModel", "till", "I", false)
  | 17 => ("CakeCardsModel", "fault", "I", false)
  | 18 => ("CakeCardsModel", "faultAt", "I", false)
  | 19 => ("CakeCardsModel", "draft", "[I", true)
  | 20 => ("CakeCardsModel", "had", "I", false)
  | 21 => ("CakeCardsModel", "least", "I", false)
  | 22 => ("CakeCardsModel", "leastMany", "I", false)
  | 23 => ("CakeCardsModel", "leastOne", "I", false)
  | 24 => ("CakeCardsModel", "ends", "[I", true)
  | 25 => ("CakeCardsModel", "endMany", "I", false)
  | 26 => ("CakeCardsModel", "below", "[I", true)
  | 27 => ("CakeCardsModel", "left", "[I", true)
  | 28 => ("CakeCardsModel", "right", "[I", true)
  | 29 => ("CakeCardsModel", "top", "I", false)
  | 30 => ("CakeCardsModel", "above", "[I", true)
  | 31 => ("CakeCardsModel", "may", "[I", true)
  | 32 => ("CakeCardsModel", "value", "[I", true)
  | 33 => ("CakeCardsModel", "values", "I", false)
  | 34 => ("CakeCardsModel", "fewest", "I", false)
  | 35 => ("CakeCardsModel", "fewestMany", "I", false)
  | 36 => ("CakeCardsModel", "isLeast", "[Z", true)
  | 37 => ("CakeCardsModel", "isSure", "[Z", true)
  | 38 => ("CakeCardsModel", "near", "[I", true)
  | 39 => ("CakeCardsModel", "isKept", "[Z", true)
  | 40 => ("CakeCardsModel", "keptKitchen", "[I", true)
  | 41 => ("CakeCardsModel", "keptNow", "[I", true)
  | 42 => ("CakeCardsModel", "trace", "[I", true)
  | _ => ("CakeCardsModel", "traced", "I", false)
def tyX11 : Nat → FieldType := fun k => match k with
  | 0 => .int
  | 1 => .int
  | 2 => .array .int
  | 3 => .array .int
  | 4 => .array .int
  | 5 => .array .int
  | 6 => .array .int
  | 7 => .boolean
  | 8 => .array .int
  | 9 => .array .int
  | 10 => .int
  | 11 => .int
  | 12 => .int
  | 13 => .int
  | 14 => .int
  | 15 => .int
  | 16 => .int
  | 17 => .int
  | 18 => .int
  | 19 => .array .int
  | 20 => .int
  | 21 => .int
  | 22 => .int
  | 23 => .int
  | 24 => .array .int
  | 25 => .int
  | 26 => .array .int
  | 27 => .array .int
  | 28 => .array .int
  | 29 => .int
  | 30 => .array .int
  | 31 => .array .int
  | 32 => .array .int
  | 33 => .int
  | 34 => .int
  | 35 => .int
  | 36 => .array .boolean
  | 37 => .array .boolean
  | 38 => .array .int
  | 39 => .array .boolean
  | 40 => .array .int
  | 41 => .array .int
  | 42 => .array .int
  | _ => .int
theorem nmX11 : ∀ a, a < 44 → ∀ b, b < 44 → a ≠ b → (TX11 a).2.1 ≠ (TX11 b).2.1 := by decide +kernel
theorem tyX11_ok : ∀ k, k < 44 → parseFieldDescriptor (TX11 k).2.2.1 = some (tyX11 k) := by decide +kernel
abbrev vwCl : List vw_C := [(RX0, TX0, 8), (RX1, TX1, 5), (RX2, TX2, 17), (RX3, TX3, 5), (RX4, TX4, 2), (RX5, TX5, 15), (RX6, TX6, 6), (RX7, TX7, 3), (RX8, TX8, 5), (RX9, TX9, 8), (RX10, TX10, 11), (RX11, TX11, 44)]
/-- the names by number: the twelve whose objects the worlds hold, the law, two of the JDK -/
def ax_cn (k : Nat) : String := [RX0, RX1, RX2, RX3, RX4, RX5, RX6, RX7, RX8, RX9, RX10, RX11, "CakeCardsLaw", "java/lang/Integer", "java/util/Arrays", "java/lang/String", "java/lang/StringLatin1", "jdk/internal/util/Preconditions"].getD k ""
/-- a method: name, bytes, how many places, what it answers, whose it is, static, parameters, and the places of its words: code, kind, selects, initialized -/
abbrev ax_R : Type := MethodName × ByteArray × Nat × Option FieldType × Nat × Bool × Nat × Nat × Nat × Nat × Nat
def ax_M0 : List ax_R := [
  (⟨RX10, "<init>", "()V"⟩, prog_1_method_1_code, 1, (Option.none : Option FieldType), 10, false, 0, 265, 264, 9999, 241),
  (⟨RX7, "<init>", "()V"⟩, prog_9_method_1_code, 1, (Option.none : Option FieldType), 7, false, 0, 273, 272, 9999, 242),
  (⟨"java/util/Arrays", "fill", "([II)V"⟩, prog_20_method_103_code, 4, (Option.none : Option FieldType), 14, true, 2, 277, 276, 9999, 243),
  (⟨RX9, "<init>", "()V"⟩, prog_11_method_1_code, 1, (Option.none : Option FieldType), 9, false, 0, 293, 292, 9999, 244),
  (⟨RX4, "<init>", "()V"⟩, prog_6_method_1_code, 1, (Option.none : Option FieldType), 4, false, 0, 325, 324, 9999, 245),
  (⟨RX5, "<init>", "()V"⟩, prog_7_method_1_code, 1, (Option.none : Option FieldType), 5, false, 0, 331, 330, 9999, 246),
  (⟨RX1, "<init>", "()V"⟩, prog_3_method_1_code, 1, (Option.none : Option FieldType), 1, false, 0, 383, 382, 9999, 247),
  (⟨RX6, "<init>", "()V"⟩, prog_8_method_1_code, 1, (Option.none : Option FieldType), 6, false, 0, 419, 418, 9999, 248),
  (⟨RX8, "<init>", "()V"⟩, prog_10_method_1_code, 1, (Option.none : Option FieldType), 8, false, 0, 444, 443, 9999, 249),
  (⟨RX2, "<init>", "()V"⟩, prog_4_method_1_code, 1, (Option.none : Option FieldType), 2, false, 0, 466, 465, 9999, 250),
  (⟨RX3, "<init>", "()V"⟩, prog_5_method_1_code, 1, (Option.none : Option FieldType), 3, false, 0, 472, 471, 9999, 251),
  (⟨RX0, "<init>", "()V"⟩, prog_2_method_1_code, 1, (Option.none : Option FieldType), 0, false, 0, 546, 545, 9999, 252),
  (⟨RX10, "row", "(III)J"⟩, prog_1_method_2_code, 4, (Option.some FieldType.long), 10, false, 3, 610, 608, 609, 241),
  (⟨RX10, "isRow", "(I)Z"⟩, prog_1_method_42_code, 1, (Option.some FieldType.boolean), 10, true, 1, 613, 612, 9999, 241),
  (⟨RX10, "found", "(I)J"⟩, prog_1_method_38_code, 2, (Option.some FieldType.long), 10, false, 1, 618, 617, 0, 241),
  (⟨RX7, "lay", "(III)V"⟩, prog_9_method_6_code, 5, (Option.none : Option FieldType), 7, false, 3, 623, 621, 622, 242),
  (⟨RX10, "clean", "(J)J"⟩, prog_1_method_39_code, 3, (Option.some FieldType.long), 10, false, 1, 628, 627, 1, 241),
  (⟨RX10, "set", "(III)J"⟩, prog_1_method_3_code, 4, (Option.some FieldType.long), 10, false, 3, 632, 630, 631, 241),
  (⟨RX7, "isMissing", "(I)Z"⟩, prog_9_method_4_code, 2, (Option.some FieldType.boolean), 7, false, 1, 636, 634, 635, 242),
  (⟨RX7, "sizeOf", "(I)I"⟩, prog_9_method_2_code, 2, (Option.some FieldType.int), 7, false, 1, 640, 638, 639, 242),
  (⟨RX7, "spans", "(III)Z"⟩, prog_9_method_5_code, 4, (Option.some FieldType.boolean), 7, false, 3, 644, 642, 643, 242),
  (⟨RX7, "put", "(III)I"⟩, prog_9_method_7_code, 6, (Option.some FieldType.int), 7, false, 3, 648, 646, 647, 242),
  (⟨RX10, "copy", "(IIIII)J"⟩, prog_1_method_4_code, 6, (Option.some FieldType.long), 10, false, 5, 653, 651, 652, 241),
  (⟨RX7, "laneOf", "(I)I"⟩, prog_9_method_3_code, 2, (Option.some FieldType.int), 7, false, 1, 657, 655, 656, 242),
  (⟨RX7, "carry", "(IIIII)V"⟩, prog_9_method_9_code, 6, (Option.none : Option FieldType), 7, false, 5, 661, 659, 660, 242),
  (⟨RX10, "drop", "(I)J"⟩, prog_1_method_5_code, 2, (Option.some FieldType.long), 10, false, 1, 668, 666, 667, 241),
  (⟨RX7, "remove", "(I)I"⟩, prog_9_method_10_code, 3, (Option.some FieldType.int), 7, false, 1, 672, 670, 671, 242),
  (⟨RX10, "feed", "(JI)J"⟩, prog_1_method_6_code, 4, (Option.some FieldType.long), 10, false, 2, 676, 674, 675, 241)]
def ax_M1 : List ax_R := [
  (⟨RX9, "hasRoom", "(I)Z"⟩, prog_11_method_3_code, 2, (Option.some FieldType.boolean), 9, false, 1, 680, 678, 679, 244),
  (⟨RX9, "append", "(JI)I"⟩, prog_11_method_4_code, 5, (Option.some FieldType.int), 9, false, 2, 685, 683, 684, 244),
  (⟨RX10, "kitchen", "()J"⟩, prog_1_method_7_code, 2, (Option.some FieldType.long), 10, false, 0, 689, 687, 688, 241),
  (⟨RX5, "readFrom", "(LCakeCards$Tape;)Z"⟩, prog_7_method_7_code, 3, (Option.some FieldType.boolean), 5, false, 1, 693, 691, 692, 246),
  (⟨RX9, "begin", "()V"⟩, prog_11_method_9_code, 1, (Option.none : Option FieldType), 9, false, 0, 697, 695, 696, 244),
  (⟨RX9, "step", "()V"⟩, prog_11_method_14_code, 2, (Option.none : Option FieldType), 9, false, 0, 701, 700, 2, 244),
  (⟨RX9, "byteAt", "(I)I"⟩, prog_11_method_10_code, 2, (Option.some FieldType.int), 9, false, 1, 705, 704, 3, 244),
  (⟨RX9, "isBlank", "(I)Z"⟩, prog_11_method_11_code, 1, (Option.some FieldType.boolean), 9, true, 1, 708, 707, 9999, 244),
  (⟨RX9, "isLetter", "(I)Z"⟩, prog_11_method_12_code, 1, (Option.some FieldType.boolean), 9, true, 1, 711, 710, 9999, 244),
  (⟨RX9, "isFigure", "(I)Z"⟩, prog_11_method_13_code, 1, (Option.some FieldType.boolean), 9, true, 1, 714, 713, 9999, 244),
  (⟨RX9, "isAtName", "(Ljava/lang/String;)Z"⟩, prog_11_method_18_code, 3, (Option.some FieldType.boolean), 9, false, 1, 719, 717, 718, 244),
  (⟨"java/lang/String", "length", "()I"⟩, prog_16_method_54_code, 1, (Option.some FieldType.int), 15, false, 0, 723, 721, 722, 255),
  (⟨"java/lang/String", "coder", "()B"⟩, prog_16_method_152_code, 1, (Option.some FieldType.byte), 15, false, 0, 727, 725, 726, 255),
  (⟨"java/lang/String", "charAt", "(I)C"⟩, prog_16_method_56_code, 2, (Option.some FieldType.char), 15, false, 1, 733, 731, 732, 255),
  (⟨"java/lang/String", "isLatin1", "()Z"⟩, prog_16_method_154_code, 1, (Option.some FieldType.boolean), 15, false, 0, 737, 735, 736, 255),
  (⟨"java/lang/StringLatin1", "charAt", "([BI)C"⟩, prog_17_method_2_code, 2, (Option.some FieldType.char), 16, true, 2, 740, 739, 9999, 256),
  (⟨"java/lang/String", "checkIndex", "(II)V"⟩, prog_16_method_155_code, 2, (Option.none : Option FieldType), 15, true, 2, 743, 742, 9999, 255),
  (⟨"jdk/internal/util/Preconditions", "checkIndex", "(IILjava/util/function/BiFunction;)I"⟩, prog_21_method_11_code, 3, (Option.some FieldType.int), 17, true, 3, 748, 747, 9999, 257),
  (⟨RX5, "readMeasure", "(LCakeCards$Tape;)V"⟩, prog_7_method_8_code, 2, (Option.none : Option FieldType), 5, false, 1, 771, 770, 4, 246),
  (⟨RX9, "blameHere", "(I)V"⟩, prog_11_method_16_code, 2, (Option.none : Option FieldType), 9, false, 1, 775, 773, 774, 244),
  (⟨RX9, "passName", "(Ljava/lang/String;)V"⟩, prog_11_method_21_code, 2, (Option.none : Option FieldType), 9, false, 1, 779, 777, 778, 244),
  (⟨RX9, "pass", "(Z)V"⟩, prog_11_method_20_code, 2, (Option.none : Option FieldType), 9, false, 1, 784, 783, 5, 244),
  (⟨RX9, "passNumber", "(II)I"⟩, prog_11_method_24_code, 4, (Option.some FieldType.int), 9, false, 2, 789, 787, 788, 244),
  (⟨RX9, "numberHere", "(II)I"⟩, prog_11_method_25_code, 4, (Option.some FieldType.int), 9, false, 2, 793, 791, 792, 244),
  (⟨RX9, "valueHere", "()I"⟩, prog_11_method_15_code, 3, (Option.some FieldType.int), 9, false, 0, 797, 796, 6, 244),
  (⟨RX9, "passStop", "()V"⟩, prog_11_method_22_code, 1, (Option.none : Option FieldType), 9, false, 0, 801, 799, 800, 244),
  (⟨RX9, "isAtSign", "(I)Z"⟩, prog_11_method_19_code, 2, (Option.some FieldType.boolean), 9, false, 1, 805, 804, 7, 244),
  (⟨RX5, "readPacket", "(LCakeCards$Tape;)V"⟩, prog_7_method_9_code, 2, (Option.none : Option FieldType), 5, false, 1, 810, 809, 8, 246)]
def ax_M2 : List ax_R := [
  (⟨RX5, "readRise", "(LCakeCards$Tape;)V"⟩, prog_7_method_10_code, 3, (Option.none : Option FieldType), 5, false, 1, 814, 813, 9, 246),
  (⟨RX9, "passEnd", "()V"⟩, prog_11_method_23_code, 1, (Option.none : Option FieldType), 9, false, 0, 819, 817, 818, 244),
  (⟨RX9, "isAtEnd", "()Z"⟩, prog_11_method_17_code, 1, (Option.some FieldType.boolean), 9, false, 0, 823, 821, 822, 244),
  (⟨RX9, "hasFailed", "()Z"⟩, prog_11_method_8_code, 1, (Option.some FieldType.boolean), 9, false, 0, 827, 825, 826, 244),
  (⟨RX9, "clear", "()V"⟩, prog_11_method_5_code, 1, (Option.none : Option FieldType), 9, false, 0, 831, 829, 830, 244),
  (⟨RX9, "faultPlace", "()I"⟩, prog_11_method_7_code, 1, (Option.some FieldType.int), 9, false, 0, 836, 834, 835, 244),
  (⟨RX5, "become", "(LCakeCards$Kitchen;)V"⟩, prog_7_method_6_code, 2, (Option.none : Option FieldType), 5, false, 1, 840, 838, 839, 246),
  (⟨RX1, "clear", "()V"⟩, prog_3_method_5_code, 1, (Option.none : Option FieldType), 1, false, 0, 845, 843, 844, 247),
  (⟨RX5, "measures", "()I"⟩, prog_7_method_3_code, 1, (Option.some FieldType.int), 5, false, 0, 849, 847, 848, 246),
  (⟨RX5, "packets", "()I"⟩, prog_7_method_4_code, 1, (Option.some FieldType.int), 5, false, 0, 853, 851, 852, 246),
  (⟨RX10, "card", "()J"⟩, prog_1_method_8_code, 2, (Option.some FieldType.long), 10, false, 0, 857, 855, 856, 241),
  (⟨RX5, "isThere", "()Z"⟩, prog_7_method_2_code, 1, (Option.some FieldType.boolean), 5, false, 0, 861, 859, 860, 246),
  (⟨RX1, "isFull", "()Z"⟩, prog_3_method_3_code, 1, (Option.some FieldType.boolean), 1, false, 0, 866, 864, 865, 247),
  (⟨RX6, "readFrom", "(LCakeCards$Tape;LCakeCards$Kitchen;)Z"⟩, prog_8_method_6_code, 4, (Option.some FieldType.boolean), 6, false, 2, 870, 868, 869, 248),
  (⟨RX6, "begin", "(II)V"⟩, prog_8_method_2_code, 3, (Option.none : Option FieldType), 6, false, 2, 874, 872, 873, 248),
  (⟨RX6, "readLine", "(LCakeCards$Tape;LCakeCards$Kitchen;)V"⟩, prog_8_method_7_code, 3, (Option.none : Option FieldType), 6, false, 2, 886, 885, 10, 248),
  (⟨RX6, "readAdd", "(LCakeCards$Tape;LCakeCards$Kitchen;)V"⟩, prog_8_method_8_code, 6, (Option.none : Option FieldType), 6, false, 2, 892, 891, 11, 248),
  (⟨RX9, "passMark", "(II)I"⟩, prog_11_method_26_code, 4, (Option.some FieldType.int), 9, false, 2, 898, 896, 897, 244),
  (⟨RX10, "isThing", "(I)Z"⟩, prog_1_method_45_code, 1, (Option.some FieldType.boolean), 10, true, 1, 902, 901, 9999, 241),
  (⟨RX5, "grainsOf", "(III)I"⟩, prog_7_method_11_code, 8, (Option.some FieldType.int), 5, false, 3, 907, 905, 906, 246),
  (⟨RX6, "readHeat", "(LCakeCards$Tape;)V"⟩, prog_8_method_9_code, 2, (Option.none : Option FieldType), 6, false, 1, 912, 911, 12, 248),
  (⟨RX6, "readBeat", "(LCakeCards$Tape;)V"⟩, prog_8_method_10_code, 2, (Option.none : Option FieldType), 6, false, 1, 917, 916, 13, 248),
  (⟨RX1, "add", "(LCakeCards$Page;I)I"⟩, prog_3_method_7_code, 5, (Option.some FieldType.int), 1, false, 2, 923, 921, 922, 247),
  (⟨RX6, "land", "()I"⟩, prog_8_method_3_code, 1, (Option.some FieldType.int), 6, false, 0, 929, 927, 928, 248),
  (⟨RX6, "year", "()I"⟩, prog_8_method_4_code, 1, (Option.some FieldType.int), 6, false, 0, 933, 931, 932, 248),
  (⟨RX6, "valueOf", "(I)I"⟩, prog_8_method_5_code, 2, (Option.some FieldType.int), 6, false, 1, 937, 935, 936, 248),
  (⟨RX10, "isMark", "(I)Z"⟩, prog_1_method_46_code, 1, (Option.some FieldType.boolean), 10, true, 1, 940, 939, 9999, 241),
  (⟨RX1, "putMark", "(III)V"⟩, prog_3_method_12_code, 4, (Option.none : Option FieldType), 1, false, 3, 944, 942, 943, 247)]
def ax_M3 : List ax_R := [
  (⟨RX1, "has", "(I)Z"⟩, prog_3_method_4_code, 2, (Option.some FieldType.boolean), 1, false, 1, 948, 946, 947, 247),
  (⟨RX10, "fault", "()I"⟩, prog_1_method_9_code, 1, (Option.some FieldType.int), 10, false, 0, 953, 951, 952, 241),
  (⟨RX9, "latestFault", "()I"⟩, prog_11_method_6_code, 1, (Option.some FieldType.int), 9, false, 0, 957, 955, 956, 244),
  (⟨RX10, "told", "(IIIII)J"⟩, prog_1_method_10_code, 6, (Option.some FieldType.long), 10, false, 5, 961, 959, 960, 241),
  (⟨RX10, "isLand", "(I)Z"⟩, prog_1_method_43_code, 1, (Option.some FieldType.boolean), 10, true, 1, 964, 963, 9999, 241),
  (⟨RX10, "isYear", "(I)Z"⟩, prog_1_method_44_code, 1, (Option.some FieldType.boolean), 10, true, 1, 967, 966, 9999, 241),
  (⟨RX1, "mayBeMother", "(II)Z"⟩, prog_3_method_13_code, 3, (Option.some FieldType.boolean), 1, false, 2, 971, 969, 970, 247),
  (⟨RX1, "yearOf", "(I)I"⟩, prog_3_method_9_code, 2, (Option.some FieldType.int), 1, false, 1, 975, 973, 974, 247),
  (⟨RX6, "takeItems", "(LCakeCards$Shelf;II)Z"⟩, prog_8_method_11_code, 6, (Option.some FieldType.boolean), 6, false, 3, 980, 978, 979, 248),
  (⟨RX7, "itemAt", "(II)I"⟩, prog_9_method_8_code, 3, (Option.some FieldType.int), 7, false, 2, 984, 982, 983, 242),
  (⟨RX6, "mostOf", "(I)I"⟩, prog_8_method_12_code, 1, (Option.some FieldType.int), 6, true, 1, 987, 986, 9999, 248),
  (⟨RX10, "copied", "(IIIIII)J"⟩, prog_1_method_11_code, 7, (Option.some FieldType.long), 10, false, 6, 991, 989, 990, 241),
  (⟨RX6, "takeMarks", "(LCakeCards$Deck;I)V"⟩, prog_8_method_13_code, 4, (Option.none : Option FieldType), 6, false, 2, 998, 996, 997, 248),
  (⟨RX1, "markAt", "(II)I"⟩, prog_3_method_11_code, 3, (Option.some FieldType.int), 1, false, 2, 1002, 1000, 1001, 247),
  (⟨RX6, "applyLaw", "(III)Z"⟩, prog_8_method_14_code, 4, (Option.some FieldType.boolean), 6, false, 3, 1006, 1004, 1005, 248),
  (⟨RX10, "mark", "(II)J"⟩, prog_1_method_12_code, 3, (Option.some FieldType.long), 10, false, 2, 1016, 1014, 1015, 241),
  (⟨RX10, "of", "(II)J"⟩, prog_1_method_13_code, 3, (Option.some FieldType.long), 10, false, 2, 1022, 1020, 1021, 241),
  (⟨RX1, "landOf", "(I)I"⟩, prog_3_method_8_code, 2, (Option.some FieldType.int), 1, false, 1, 1026, 1024, 1025, 247),
  (⟨RX1, "motherOf", "(I)I"⟩, prog_3_method_10_code, 2, (Option.some FieldType.int), 1, false, 1, 1030, 1028, 1029, 247),
  (⟨RX1, "stainsOf", "(I)I"⟩, prog_3_method_14_code, 4, (Option.some FieldType.int), 1, false, 1, 1034, 1032, 1033, 247),
  (⟨RX1, "daughtersOf", "(I)I"⟩, prog_3_method_16_code, 4, (Option.some FieldType.int), 1, false, 1, 1039, 1037, 1038, 247),
  (⟨RX10, "stain", "(II)J"⟩, prog_1_method_14_code, 3, (Option.some FieldType.long), 10, false, 2, 1044, 1042, 1043, 241),
  (⟨RX10, "grains", "(III)J"⟩, prog_1_method_15_code, 4, (Option.some FieldType.long), 10, false, 3, 1049, 1047, 1048, 241),
  (⟨RX10, "unlike", "(II)J"⟩, prog_1_method_16_code, 3, (Option.some FieldType.long), 10, false, 2, 1054, 1052, 1053, 241),
  (⟨RX1, "apart", "(II)I"⟩, prog_3_method_19_code, 5, (Option.some FieldType.int), 1, false, 2, 1058, 1056, 1057, 247),
  (⟨RX1, "isUnlike", "(III)Z"⟩, prog_3_method_18_code, 6, (Option.some FieldType.boolean), 1, false, 3, 1062, 1060, 1061, 247),
  (⟨RX10, "baked", "(II)J"⟩, prog_1_method_17_code, 3, (Option.some FieldType.long), 10, false, 2, 1066, 1064, 1065, 241),
  (⟨RX4, "riseOf", "(I)I"⟩, prog_6_method_3_code, 4, (Option.some FieldType.int), 4, false, 1, 1070, 1068, 1069, 245)]
def ax_M4 : List ax_R := [
  (⟨RX5, "liftOf", "(II)I"⟩, prog_7_method_12_code, 4, (Option.some FieldType.int), 5, false, 2, 1075, 1073, 1074, 246),
  (⟨RX4, "sinks", "(I)Z"⟩, prog_6_method_4_code, 2, (Option.some FieldType.boolean), 4, false, 1, 1085, 1083, 1084, 245),
  (⟨RX5, "least", "()I"⟩, prog_7_method_5_code, 1, (Option.some FieldType.int), 5, false, 0, 1090, 1088, 1089, 246),
  (⟨RX10, "blame", "(III)J"⟩, prog_1_method_18_code, 4, (Option.some FieldType.long), 10, false, 3, 1094, 1092, 1093, 241),
  (⟨RX8, "findBlame", "(LCakeCards$Household;II)V"⟩, prog_10_method_6_code, 8, (Option.none : Option FieldType), 8, false, 3, 1098, 1096, 1097, 249),
  (⟨RX8, "begin", "()V"⟩, prog_10_method_4_code, 1, (Option.none : Option FieldType), 8, false, 0, 1102, 1101, 14, 249),
  (⟨"java/lang/Integer", "numberOfTrailingZeros", "(I)I"⟩, prog_14_method_48_code, 2, (Option.some FieldType.int), 13, true, 1, 1111, 1110, 9999, 260),
  (⟨RX8, "take", "(I)V"⟩, prog_10_method_5_code, 3, (Option.none : Option FieldType), 8, false, 1, 1116, 1115, 15, 249),
  (⟨"java/lang/Integer", "bitCount", "(I)I"⟩, prog_14_method_49_code, 1, (Option.some FieldType.int), 13, true, 1, 1119, 1118, 9999, 260),
  (⟨RX8, "ways", "()I"⟩, prog_10_method_3_code, 1, (Option.some FieldType.int), 8, false, 0, 1126, 1124, 1125, 249),
  (⟨RX8, "firstSet", "()I"⟩, prog_10_method_2_code, 1, (Option.some FieldType.int), 8, false, 0, 1131, 1129, 1130, 249),
  (⟨RX10, "mothers", "(I)J"⟩, prog_1_method_19_code, 2, (Option.some FieldType.long), 10, false, 1, 1136, 1134, 1135, 241),
  (⟨RX1, "size", "()I"⟩, prog_3_method_2_code, 1, (Option.some FieldType.int), 1, false, 0, 1140, 1138, 1139, 247),
  (⟨RX1, "leastChanges", "()I"⟩, prog_3_method_22_code, 4, (Option.some FieldType.int), 1, false, 0, 1144, 1142, 1143, 247),
  (⟨RX1, "nearestMother", "(I)I"⟩, prog_3_method_21_code, 5, (Option.some FieldType.int), 1, false, 1, 1148, 1146, 1147, 247),
  (⟨RX1, "isEarlier", "(II)Z"⟩, prog_3_method_20_code, 5, (Option.some FieldType.boolean), 1, false, 2, 1152, 1151, 16, 247),
  (⟨RX1, "leastRows", "()J"⟩, prog_3_method_23_code, 5, (Option.some FieldType.long), 1, false, 0, 1157, 1155, 1156, 247),
  (⟨RX1, "asNear", "(II)I"⟩, prog_3_method_24_code, 5, (Option.some FieldType.int), 1, false, 2, 1161, 1160, 17, 247),
  (⟨RX10, "mother", "(I)J"⟩, prog_1_method_20_code, 2, (Option.some FieldType.long), 10, false, 1, 1165, 1163, 1164, 241),
  (⟨RX10, "two", "(II)J"⟩, prog_1_method_21_code, 3, (Option.some FieldType.long), 10, false, 2, 1170, 1168, 1169, 241),
  (⟨RX1, "costOfTwo", "(II)I"⟩, prog_3_method_25_code, 9, (Option.some FieldType.int), 1, false, 2, 1174, 1172, 1173, 247),
  (⟨RX1, "costOfPair", "(III)I"⟩, prog_3_method_26_code, 7, (Option.some FieldType.int), 1, false, 3, 1178, 1177, 18, 247),
  (⟨RX10, "trees", "(II)J"⟩, prog_1_method_22_code, 3, (Option.some FieldType.long), 10, false, 2, 1182, 1180, 1181, 241),
  (⟨RX10, "isGrove", "(I)Z"⟩, prog_1_method_41_code, 3, (Option.some FieldType.boolean), 10, false, 1, 1186, 1185, 19, 241),
  (⟨RX2, "grow", "(LCakeCards$Deck;I)V"⟩, prog_4_method_5_code, 4, (Option.none : Option FieldType), 2, false, 2, 1190, 1188, 1189, 250),
  (⟨RX3, "gather", "(LCakeCards$Deck;I)V"⟩, prog_5_method_3_code, 5, (Option.none : Option FieldType), 3, false, 2, 1194, 1192, 1193, 251),
  (⟨RX3, "meet", "(II)V"⟩, prog_5_method_4_code, 7, (Option.none : Option FieldType), 3, false, 2, 1200, 1199, 20, 251),
  (⟨RX3, "encode", "(II)I"⟩, prog_5_method_5_code, 5, (Option.some FieldType.int), 3, false, 2, 1205, 1204, 21, 251)]
def ax_M5 : List ax_R := [
  (⟨RX2, "plantEnds", "()Z"⟩, prog_4_method_6_code, 6, (Option.some FieldType.boolean), 2, false, 0, 1209, 1208, 22, 250),
  (⟨RX3, "ends", "()I"⟩, prog_5_method_2_code, 1, (Option.some FieldType.int), 3, false, 0, 1213, 1211, 1212, 251),
  (⟨RX2, "leafOf", "(I)I"⟩, prog_4_method_7_code, 1, (Option.some FieldType.int), 2, true, 1, 1216, 1215, 9999, 250),
  (⟨RX3, "codeAt", "(II)I"⟩, prog_5_method_6_code, 3, (Option.some FieldType.int), 3, false, 2, 1220, 1218, 1219, 251),
  (⟨RX2, "sortMarks", "()V"⟩, prog_4_method_8_code, 5, (Option.none : Option FieldType), 2, false, 0, 1225, 1224, 23, 250),
  (⟨RX2, "build", "(I)V"⟩, prog_4_method_9_code, 5, (Option.none : Option FieldType), 2, false, 1, 1229, 1228, 24, 250),
  (⟨RX2, "graft", "(II)V"⟩, prog_4_method_10_code, 6, (Option.none : Option FieldType), 2, false, 2, 1234, 1233, 25, 250),
  (⟨RX2, "countChanges", "()V"⟩, prog_4_method_11_code, 7, (Option.none : Option FieldType), 2, false, 0, 1238, 1237, 26, 250),
  (⟨RX2, "compare", "()V"⟩, prog_4_method_12_code, 5, (Option.none : Option FieldType), 2, false, 0, 1242, 1241, 27, 250),
  (⟨RX2, "joins", "()J"⟩, prog_4_method_13_code, 5, (Option.some FieldType.long), 2, false, 0, 1247, 1246, 28, 250),
  (⟨RX2, "leastChanges", "()I"⟩, prog_4_method_2_code, 1, (Option.some FieldType.int), 2, false, 0, 1251, 1249, 1250, 250),
  (⟨RX2, "leastTrees", "()I"⟩, prog_4_method_3_code, 1, (Option.some FieldType.int), 2, false, 0, 1255, 1253, 1254, 250),
  (⟨RX2, "allTrees", "()I"⟩, prog_4_method_4_code, 1, (Option.some FieldType.int), 2, false, 0, 1259, 1257, 1258, 250),
  (⟨RX10, "sure", "(II)J"⟩, prog_1_method_23_code, 3, (Option.some FieldType.long), 10, false, 2, 1263, 1261, 1262, 241),
  (⟨RX2, "sureJoin", "(I)J"⟩, prog_4_method_14_code, 4, (Option.some FieldType.long), 2, false, 1, 1267, 1265, 1266, 250),
  (⟨RX3, "cardsOf", "(I)I"⟩, prog_5_method_8_code, 4, (Option.some FieldType.int), 3, false, 1, 1271, 1269, 1270, 251),
  (⟨RX10, "first", "(III)J"⟩, prog_1_method_24_code, 4, (Option.some FieldType.long), 10, false, 3, 1276, 1274, 1275, 241),
  (⟨RX2, "firstValue", "(II)J"⟩, prog_4_method_15_code, 5, (Option.some FieldType.long), 2, false, 2, 1280, 1278, 1279, 250),
  (⟨RX3, "valueAt", "(II)I"⟩, prog_5_method_7_code, 3, (Option.some FieldType.int), 3, false, 2, 1285, 1283, 1284, 251),
  (⟨RX10, "years", "(II)J"⟩, prog_1_method_25_code, 5, (Option.some FieldType.long), 10, false, 2, 1289, 1287, 1288, 241),
  (⟨RX4, "latestFrom", "(I)I"⟩, prog_6_method_6_code, 4, (Option.some FieldType.int), 4, false, 1, 1293, 1291, 1292, 245),
  (⟨RX5, "latestFrom", "(I)I"⟩, prog_7_method_13_code, 4, (Option.some FieldType.int), 5, false, 1, 1298, 1296, 1297, 246),
  (⟨RX4, "earliestTill", "(I)I"⟩, prog_6_method_7_code, 4, (Option.some FieldType.int), 4, false, 1, 1304, 1302, 1303, 245),
  (⟨RX5, "earliestTill", "(I)I"⟩, prog_7_method_14_code, 4, (Option.some FieldType.int), 5, false, 1, 1308, 1306, 1307, 246),
  (⟨RX10, "left", "(II)J"⟩, prog_1_method_26_code, 3, (Option.some FieldType.long), 10, false, 2, 1313, 1311, 1312, 241),
  (⟨RX1, "leftOut", "(II)I"⟩, prog_3_method_27_code, 7, (Option.some FieldType.int), 1, false, 2, 1317, 1315, 1316, 247),
  (⟨RX10, "chance", "(III)J"⟩, prog_1_method_27_code, 8, (Option.some FieldType.long), 10, false, 3, 1321, 1319, 1320, 241),
  (⟨RX10, "mend", "(IIII)J"⟩, prog_1_method_28_code, 5, (Option.some FieldType.long), 10, false, 4, 1325, 1323, 1324, 241)]
def ax_M6 : List ax_R := [
  (⟨RX1, "mendFrom", "(IIII)I"⟩, prog_3_method_28_code, 8, (Option.some FieldType.int), 1, false, 4, 1329, 1327, 1328, 247),
  (⟨RX1, "agreed", "(III)I"⟩, prog_3_method_29_code, 3, (Option.some FieldType.int), 1, true, 3, 1332, 1331, 9999, 247),
  (⟨RX10, "book", "(I)J"⟩, prog_1_method_29_code, 2, (Option.some FieldType.long), 10, false, 1, 1336, 1334, 1335, 241),
  (⟨RX8, "findBook", "(LCakeCards$Deck;I)V"⟩, prog_10_method_7_code, 7, (Option.none : Option FieldType), 8, false, 2, 1340, 1338, 1339, 249),
  (⟨RX8, "nearTo", "(LCakeCards$Deck;II)I"⟩, prog_10_method_8_code, 5, (Option.some FieldType.int), 8, true, 3, 1344, 1343, 9999, 249),
  (⟨RX10, "image", "(I)J"⟩, prog_1_method_30_code, 2, (Option.some FieldType.long), 10, false, 1, 1349, 1347, 1348, 241),
  (⟨RX10, "imageOf", "(I)LCakeCards$Household;"⟩, prog_1_method_40_code, 2, (Option.some (FieldType.object "CakeCards$Household")), 10, false, 1, 1353, 1352, 29, 241),
  (⟨RX4, "become", "(LCakeCards$Household;)V"⟩, prog_6_method_2_code, 2, (Option.none : Option FieldType), 4, false, 1, 1357, 1355, 1356, 245),
  (⟨RX1, "become", "(LCakeCards$Deck;)V"⟩, prog_3_method_6_code, 2, (Option.none : Option FieldType), 1, false, 1, 1362, 1360, 1361, 247),
  (⟨RX10, "restore", "(I)J"⟩, prog_1_method_31_code, 2, (Option.some FieldType.long), 10, false, 1, 1367, 1365, 1366, 241),
  (⟨RX10, "kind", "(I)J"⟩, prog_1_method_32_code, 2, (Option.some FieldType.long), 10, false, 1, 1371, 1369, 1370, 241),
  (⟨RX4, "kindOf", "(I)I"⟩, prog_6_method_5_code, 3, (Option.some FieldType.int), 4, false, 1, 1375, 1373, 1374, 245),
  (⟨RX10, "as", "(II)J"⟩, prog_1_method_33_code, 3, (Option.some FieldType.long), 10, false, 2, 1383, 1381, 1382, 241),
  (⟨RX10, "isAlso", "(II)Z"⟩, prog_1_method_47_code, 2, (Option.some FieldType.boolean), 10, true, 2, 1386, 1385, 9999, 241),
  (⟨RX10, "ask", "(II)J"⟩, prog_1_method_34_code, 3, (Option.some FieldType.long), 10, false, 2, 1390, 1388, 1389, 241),
  (⟨RX0, "answer", "(LCakeCards$Household;II)I"⟩, prog_2_method_2_code, 4, (Option.some FieldType.int), 0, false, 3, 1394, 1392, 1393, 252),
  (⟨RX1, "thingsOf", "(I)I"⟩, prog_3_method_17_code, 4, (Option.some FieldType.int), 1, false, 1, 1400, 1398, 1399, 247),
  (⟨RX0, "bodyOf", "(I)I"⟩, prog_2_method_5_code, 2, (Option.some FieldType.int), 0, false, 1, 1406, 1405, 30, 252),
  (⟨RX0, "run", "(II)I"⟩, prog_2_method_6_code, 4, (Option.some FieldType.int), 0, false, 2, 1410, 1409, 31, 252),
  (⟨RX0, "leave", "(I)V"⟩, prog_2_method_4_code, 2, (Option.none : Option FieldType), 0, false, 1, 1414, 1413, 32, 252),
  (⟨RX10, "trace", "(I)I"⟩, prog_1_method_35_code, 2, (Option.some FieldType.int), 10, false, 1, 1418, 1416, 1417, 241),
  (⟨RX0, "traceAt", "(I)I"⟩, prog_2_method_3_code, 2, (Option.some FieldType.int), 0, false, 1, 1422, 1420, 1421, 252),
  (⟨RX10, "count", "(I)J"⟩, prog_1_method_36_code, 2, (Option.some FieldType.long), 10, false, 1, 1427, 1425, 1426, 241),
  (⟨RX7, "rows", "()I"⟩, prog_9_method_11_code, 6, (Option.some FieldType.int), 7, false, 0, 1431, 1429, 1430, 242),
  (⟨RX1, "allStains", "()I"⟩, prog_3_method_15_code, 3, (Option.some FieldType.int), 1, false, 0, 1435, 1433, 1434, 247),
  (⟨RX9, "size", "()I"⟩, prog_11_method_2_code, 1, (Option.some FieldType.int), 9, false, 0, 1440, 1438, 1439, 244),
  (⟨RX10, "status", "()I"⟩, prog_1_method_37_code, 1, (Option.some FieldType.int), 10, false, 0, 1444, 1442, 1443, 241),
  (⟨RX11, "<init>", "()V"⟩, prog_13_method_1_code, 1, (Option.none : Option FieldType), 11, false, 0, 1449, 1448, 9999, 253)]
def ax_M7 : List ax_R := [
  (⟨RX11, "row", "(III)J"⟩, prog_13_method_6_code, 5, (Option.some FieldType.long), 11, false, 3, 1588, 1586, 1587, 253),
  (⟨RX11, "isRow", "(I)Z"⟩, prog_13_method_5_code, 1, (Option.some FieldType.boolean), 11, true, 1, 1591, 1590, 9999, 253),
  (⟨RX11, "in", "(JJJ)Z"⟩, prog_13_method_3_code, 6, (Option.some FieldType.boolean), 11, true, 3, 1595, 1594, 9999, 253),
  (⟨RX11, "finding", "(I)J"⟩, prog_13_method_4_code, 2, (Option.some FieldType.long), 11, false, 1, 1601, 1600, 33, 253),
  (⟨RX11, "set", "(III)J"⟩, prog_13_method_7_code, 4, (Option.some FieldType.long), 11, false, 3, 1606, 1604, 1605, 253),
  (⟨RX11, "copy", "(IIIII)J"⟩, prog_13_method_8_code, 9, (Option.some FieldType.long), 11, false, 5, 1610, 1608, 1609, 253),
  (⟨RX11, "drop", "(I)J"⟩, prog_13_method_9_code, 2, (Option.some FieldType.long), 11, false, 1, 1614, 1612, 1613, 253),
  (⟨RX11, "feed", "(JI)J"⟩, prog_13_method_10_code, 5, (Option.some FieldType.long), 11, false, 2, 1618, 1616, 1617, 253),
  (⟨RX11, "kitchen", "()J"⟩, prog_13_method_27_code, 4, (Option.some FieldType.long), 11, false, 0, 1625, 1623, 1624, 253),
  (⟨RX11, "begins", "()V"⟩, prog_13_method_25_code, 1, (Option.none : Option FieldType), 11, false, 0, 1629, 1628, 34, 253),
  (⟨RX11, "next", "()V"⟩, prog_13_method_14_code, 2, (Option.none : Option FieldType), 11, false, 0, 1633, 1632, 35, 253),
  (⟨RX11, "byteAt", "(I)I"⟩, prog_13_method_11_code, 2, (Option.some FieldType.int), 11, false, 1, 1637, 1636, 36, 253),
  (⟨RX11, "isLetter", "(I)Z"⟩, prog_13_method_12_code, 1, (Option.some FieldType.boolean), 11, true, 1, 1641, 1640, 9999, 253),
  (⟨RX11, "isFigure", "(I)Z"⟩, prog_13_method_13_code, 1, (Option.some FieldType.boolean), 11, true, 1, 1644, 1643, 9999, 253),
  (⟨RX11, "word", "()J"⟩, prog_13_method_17_code, 4, (Option.some FieldType.long), 11, false, 0, 1648, 1647, 37, 253),
  (⟨RX11, "readMeasure", "()V"⟩, prog_13_method_23_code, 6, (Option.none : Option FieldType), 11, false, 0, 1653, 1652, 38, 253),
  (⟨RX11, "bad", "(I)V"⟩, prog_13_method_15_code, 2, (Option.none : Option FieldType), 11, false, 1, 1657, 1656, 39, 253),
  (⟨RX11, "must", "(Z)V"⟩, prog_13_method_16_code, 2, (Option.none : Option FieldType), 11, false, 1, 1661, 1660, 40, 253),
  (⟨RX11, "number", "(II)I"⟩, prog_13_method_19_code, 4, (Option.some FieldType.int), 11, false, 2, 1665, 1664, 41, 253),
  (⟨RX11, "here", "()I"⟩, prog_13_method_18_code, 3, (Option.some FieldType.int), 11, false, 0, 1669, 1668, 42, 253),
  (⟨RX11, "mustEnd", "()V"⟩, prog_13_method_21_code, 1, (Option.none : Option FieldType), 11, false, 0, 1673, 1672, 43, 253),
  (⟨RX11, "readPacket", "()V"⟩, prog_13_method_24_code, 5, (Option.none : Option FieldType), 11, false, 0, 1678, 1677, 44, 253),
  (⟨RX11, "ended", "()J"⟩, prog_13_method_26_code, 1, (Option.some FieldType.long), 11, false, 0, 1683, 1682, 45, 253),
  (⟨RX11, "card", "()J"⟩, prog_13_method_34_code, 5, (Option.some FieldType.long), 11, false, 0, 1688, 1686, 1687, 253),
  (⟨RX11, "clearDraft", "(III)V"⟩, prog_13_method_29_code, 5, (Option.none : Option FieldType), 11, false, 3, 1694, 1693, 46, 253),
  (⟨RX11, "readLine", "(II)V"⟩, prog_13_method_33_code, 8, (Option.none : Option FieldType), 11, false, 2, 1698, 1697, 47, 253),
  (⟨RX11, "readAdd", "(II)V"⟩, prog_13_method_32_code, 6, (Option.none : Option FieldType), 11, false, 2, 1703, 1702, 48, 253),
  (⟨RX11, "numberOrStain", "(II)I"⟩, prog_13_method_20_code, 3, (Option.some FieldType.int), 11, false, 2, 1707, 1706, 49, 253)]
def ax_M8 : List ax_R := [
  (⟨RX11, "grainsOf", "(III)I"⟩, prog_13_method_28_code, 8, (Option.some FieldType.int), 11, false, 3, 1711, 1710, 50, 253),
  (⟨RX11, "lay", "(II)V"⟩, prog_13_method_31_code, 3, (Option.none : Option FieldType), 11, false, 2, 1715, 1714, 51, 253),
  (⟨RX11, "keepDraft", "()I"⟩, prog_13_method_30_code, 3, (Option.some FieldType.int), 11, false, 0, 1721, 1720, 52, 253),
  (⟨RX11, "fault", "()I"⟩, prog_13_method_35_code, 1, (Option.some FieldType.int), 11, false, 0, 1725, 1723, 1724, 253),
  (⟨RX11, "told", "(IIIII)J"⟩, prog_13_method_41_code, 8, (Option.some FieldType.long), 11, false, 5, 1729, 1727, 1728, 253),
  (⟨RX11, "isLand", "(I)Z"⟩, prog_13_method_36_code, 1, (Option.some FieldType.boolean), 11, true, 1, 1732, 1731, 9999, 253),
  (⟨RX11, "isYear", "(I)Z"⟩, prog_13_method_22_code, 1, (Option.some FieldType.boolean), 11, true, 1, 1736, 1735, 9999, 253),
  (⟨RX11, "isCard", "(I)Z"⟩, prog_13_method_37_code, 2, (Option.some FieldType.boolean), 11, false, 1, 1742, 1741, 53, 253),
  (⟨RX11, "ofCard", "(II)I"⟩, prog_13_method_38_code, 3, (Option.some FieldType.int), 11, false, 2, 1746, 1745, 54, 253),
  (⟨RX11, "copied", "(IIIIII)J"⟩, prog_13_method_42_code, 8, (Option.some FieldType.long), 11, false, 6, 1755, 1753, 1754, 253),
  (⟨RX11, "isKnown", "(II)Z"⟩, prog_13_method_40_code, 3, (Option.some FieldType.boolean), 11, false, 2, 1760, 1759, 55, 253),
  (⟨RX11, "markOf", "(II)I"⟩, prog_13_method_39_code, 3, (Option.some FieldType.int), 11, false, 2, 1764, 1763, 56, 253),
  (⟨RX11, "mark", "(II)J"⟩, prog_13_method_44_code, 3, (Option.some FieldType.long), 11, false, 2, 1768, 1766, 1767, 253),
  (⟨RX11, "isMark", "(I)Z"⟩, prog_13_method_43_code, 1, (Option.some FieldType.boolean), 11, true, 1, 1771, 1770, 9999, 253),
  (⟨RX11, "of", "(II)J"⟩, prog_13_method_47_code, 5, (Option.some FieldType.long), 11, false, 2, 1777, 1775, 1776, 253),
  (⟨RX11, "mother", "(II)I"⟩, prog_13_method_46_code, 4, (Option.some FieldType.int), 11, false, 2, 1782, 1781, 57, 253),
  (⟨RX11, "bits", "(I)I"⟩, prog_13_method_45_code, 3, (Option.some FieldType.int), 11, true, 1, 1785, 1784, 9999, 253),
  (⟨RX11, "stain", "(II)J"⟩, prog_13_method_48_code, 4, (Option.some FieldType.long), 11, false, 2, 1789, 1787, 1788, 253),
  (⟨RX11, "grains", "(III)J"⟩, prog_13_method_49_code, 4, (Option.some FieldType.long), 11, false, 3, 1793, 1791, 1792, 253),
  (⟨RX11, "unlike", "(II)J"⟩, prog_13_method_52_code, 3, (Option.some FieldType.long), 11, false, 2, 1797, 1795, 1796, 253),
  (⟨RX11, "unlikeOf", "(II)I"⟩, prog_13_method_51_code, 5, (Option.some FieldType.int), 11, false, 2, 1801, 1800, 58, 253),
  (⟨RX11, "isUnlike", "(III)Z"⟩, prog_13_method_50_code, 4, (Option.some FieldType.boolean), 11, false, 3, 1805, 1804, 59, 253),
  (⟨RX11, "baked", "(II)J"⟩, prog_13_method_56_code, 3, (Option.some FieldType.long), 11, false, 2, 1809, 1807, 1808, 253),
  (⟨RX11, "riseOf", "(III)I"⟩, prog_13_method_54_code, 7, (Option.some FieldType.int), 11, false, 3, 1813, 1812, 60, 253),
  (⟨RX11, "size", "(I)I"⟩, prog_13_method_53_code, 1, (Option.some FieldType.int), 11, true, 1, 1816, 1815, 9999, 253),
  (⟨RX11, "sinks", "(III)Z"⟩, prog_13_method_55_code, 4, (Option.some FieldType.boolean), 11, false, 3, 1820, 1819, 61, 253),
  (⟨RX11, "blame", "(III)J"⟩, prog_13_method_57_code, 9, (Option.some FieldType.long), 11, false, 3, 1824, 1822, 1823, 253),
  (⟨RX11, "mothers", "(I)J"⟩, prog_13_method_60_code, 7, (Option.some FieldType.long), 11, false, 1, 1828, 1826, 1827, 253)]
def ax_M9 : List ax_R := [
  (⟨RX11, "seekMother", "(I)V"⟩, prog_13_method_59_code, 5, (Option.none : Option FieldType), 11, false, 1, 1832, 1831, 62, 253),
  (⟨RX11, "isEarlier", "(II)Z"⟩, prog_13_method_58_code, 5, (Option.some FieldType.boolean), 11, false, 2, 1836, 1835, 63, 253),
  (⟨RX11, "mother", "(I)J"⟩, prog_13_method_61_code, 2, (Option.some FieldType.long), 11, false, 1, 1840, 1838, 1839, 253),
  (⟨RX11, "two", "(II)J"⟩, prog_13_method_63_code, 10, (Option.some FieldType.long), 11, false, 2, 1844, 1842, 1843, 253),
  (⟨RX11, "isAlike", "(III)Z"⟩, prog_13_method_62_code, 4, (Option.some FieldType.boolean), 11, false, 3, 1848, 1847, 64, 253),
  (⟨RX11, "trees", "(II)J"⟩, prog_13_method_72_code, 3, (Option.some FieldType.long), 11, false, 2, 1852, 1850, 1851, 253),
  (⟨RX11, "areEnds", "(I)Z"⟩, prog_13_method_64_code, 3, (Option.some FieldType.boolean), 11, false, 1, 1856, 1855, 65, 253),
  (⟨RX11, "allTrees", "()I"⟩, prog_13_method_65_code, 3, (Option.some FieldType.int), 11, false, 0, 1860, 1859, 66, 253),
  (⟨RX11, "seekTrees", "()V"⟩, prog_13_method_71_code, 5, (Option.none : Option FieldType), 11, false, 0, 1864, 1863, 67, 253),
  (⟨RX11, "layTree", "(I)V"⟩, prog_13_method_67_code, 5, (Option.none : Option FieldType), 11, false, 1, 1868, 1867, 68, 253),
  (⟨RX11, "putOn", "(III)V"⟩, prog_13_method_66_code, 5, (Option.none : Option FieldType), 11, false, 3, 1872, 1871, 69, 253),
  (⟨RX11, "changes", "()I"⟩, prog_13_method_70_code, 3, (Option.some FieldType.int), 11, false, 0, 1876, 1875, 70, 253),
  (⟨RX11, "changesOf", "(I)I"⟩, prog_13_method_69_code, 6, (Option.some FieldType.int), 11, false, 1, 1880, 1879, 71, 253),
  (⟨RX11, "layValues", "(I)V"⟩, prog_13_method_68_code, 7, (Option.none : Option FieldType), 11, false, 1, 1884, 1883, 72, 253),
  (⟨RX11, "sure", "(II)J"⟩, prog_13_method_74_code, 6, (Option.some FieldType.long), 11, false, 2, 1888, 1886, 1887, 253),
  (⟨RX11, "isJoin", "(I)Z"⟩, prog_13_method_73_code, 4, (Option.some FieldType.boolean), 11, false, 1, 1892, 1891, 73, 253),
  (⟨RX11, "first", "(III)J"⟩, prog_13_method_75_code, 8, (Option.some FieldType.long), 11, false, 3, 1896, 1894, 1895, 253),
  (⟨RX11, "years", "(II)J"⟩, prog_13_method_78_code, 7, (Option.some FieldType.long), 11, false, 2, 1900, 1898, 1899, 253),
  (⟨RX11, "has", "(II)Z"⟩, prog_13_method_76_code, 3, (Option.some FieldType.boolean), 11, false, 2, 1904, 1903, 74, 253),
  (⟨RX11, "left", "(II)J"⟩, prog_13_method_81_code, 3, (Option.some FieldType.long), 11, false, 2, 1908, 1906, 1907, 253),
  (⟨RX11, "isThing", "(I)Z"⟩, prog_13_method_80_code, 1, (Option.some FieldType.boolean), 11, true, 1, 1911, 1910, 9999, 253),
  (⟨RX11, "leftOut", "(II)I"⟩, prog_13_method_79_code, 7, (Option.some FieldType.int), 11, false, 2, 1915, 1914, 75, 253),
  (⟨RX11, "lacks", "(II)Z"⟩, prog_13_method_77_code, 3, (Option.some FieldType.boolean), 11, false, 2, 1919, 1918, 76, 253),
  (⟨RX11, "chance", "(III)J"⟩, prog_13_method_82_code, 8, (Option.some FieldType.long), 11, false, 3, 1923, 1921, 1922, 253),
  (⟨RX11, "mend", "(IIII)J"⟩, prog_13_method_83_code, 8, (Option.some FieldType.long), 11, false, 4, 1927, 1925, 1926, 253),
  (⟨RX11, "book", "(I)J"⟩, prog_13_method_84_code, 7, (Option.some FieldType.long), 11, false, 1, 1931, 1929, 1930, 253),
  (⟨RX11, "image", "(I)J"⟩, prog_13_method_85_code, 3, (Option.some FieldType.long), 11, false, 1, 1935, 1933, 1934, 253),
  (⟨RX11, "restore", "(I)J"⟩, prog_13_method_86_code, 3, (Option.some FieldType.long), 11, false, 1, 1939, 1937, 1938, 253)]
def ax_M10 : List ax_R := [
  (⟨RX11, "kind", "(I)J"⟩, prog_13_method_89_code, 2, (Option.some FieldType.long), 11, false, 1, 1943, 1941, 1942, 253),
  (⟨RX11, "kindOf", "(I)I"⟩, prog_13_method_87_code, 3, (Option.some FieldType.int), 11, false, 1, 1947, 1946, 77, 253),
  (⟨RX11, "as", "(II)J"⟩, prog_13_method_90_code, 3, (Option.some FieldType.long), 11, false, 2, 1951, 1949, 1950, 253),
  (⟨RX11, "isOf", "(II)Z"⟩, prog_13_method_88_code, 2, (Option.some FieldType.boolean), 11, true, 2, 1955, 1954, 9999, 253),
  (⟨RX11, "ask", "(II)J"⟩, prog_13_method_96_code, 3, (Option.some FieldType.long), 11, false, 2, 1959, 1957, 1958, 253),
  (⟨RX11, "ownSize", "(II)I"⟩, prog_13_method_95_code, 4, (Option.some FieldType.int), 11, false, 2, 1963, 1962, 78, 253),
  (⟨RX11, "marredSize", "(II)I"⟩, prog_13_method_93_code, 3, (Option.some FieldType.int), 11, false, 2, 1967, 1966, 79, 253),
  (⟨RX11, "began", "(I)V"⟩, prog_13_method_91_code, 2, (Option.none : Option FieldType), 11, false, 1, 1971, 1970, 80, 253),
  (⟨RX11, "things", "(I)I"⟩, prog_13_method_92_code, 4, (Option.some FieldType.int), 11, false, 1, 1975, 1974, 81, 253),
  (⟨RX11, "ownMark", "(II)I"⟩, prog_13_method_94_code, 5, (Option.some FieldType.int), 11, false, 2, 1979, 1978, 82, 253),
  (⟨RX11, "trace", "(I)I"⟩, prog_13_method_97_code, 2, (Option.some FieldType.int), 11, false, 1, 1983, 1981, 1982, 253),
  (⟨RX11, "count", "(I)J"⟩, prog_13_method_98_code, 4, (Option.some FieldType.long), 11, false, 1, 1987, 1985, 1986, 253),
  (⟨RX11, "status", "()I"⟩, prog_13_method_99_code, 1, (Option.some FieldType.int), 11, false, 0, 1991, 1989, 1990, 253)]
def ax_M : List ax_R := ax_M0 ++ (ax_M1 ++ (ax_M2 ++ (ax_M3 ++ (ax_M4 ++ (ax_M5 ++ (ax_M6 ++ (ax_M7 ++ (ax_M8 ++ (ax_M9 ++ (ax_M10))))))))))
/-- the words in stretches of at most 240: a word is told by its stretch and its place -/
def ax_tb (c : Nat) : List Cond := match c with
  | 0 => k2_sels lw_privs
  | 1 => tables_1_1
  | 2 => tables_1_2
  | 3 => tables_1_3
  | 4 => tables_1_4
  | 5 => tables_1_5
  | 6 => tables_1_6
  | 7 => tables_1_7
  | 8 => tables_1_8
  | _ => []
def ax_w (i : Nat) : Option Cond := (ax_tb (i / 240))[i % 240]?
/-- the law itself stands behind them -/
def ax_law : Nat := 293
def ax_Tx : List (Nat × Nat × Nat) := [(30758, 2, 728), (31773, 3, 744), (30729, 0, 1993), (30735, 1, 1994)]
def ax_Tf : List (Nat × Nat × Nat) := [(14345, 448, 278), (14351, 449, 279), (14354, 450, 280), (18441, 576, 295), (18447, 577, 296), (18451, 578, 297), (18454, 579, 298), (18457, 580, 299), (18478, 581, 300), (18467, 582, 301), (18461, 583, 302), (10276, 320, 333), (10280, 321, 334), (10249, 322, 335), (10255, 323, 336), (10258, 324, 337), (10261, 325, 338), (10284, 326, 339), (10264, 327, 340), (10267, 328, 341), (10270, 329, 342), (10273, 330, 343), (10290, 331, 344), (10293, 332, 345), (10296, 333, 346), (10287, 334, 347), (2072, 64, 385), (2057, 65, 386), (2063, 66, 387), (2066, 67, 388), (2069, 68, 389), (8204, 256, 401), (8213, 257, 404), (12303, 384, 421), (12307, 385, 422), (12297, 386, 423), (12310, 387, 424), (12313, 388, 425), (12317, 389, 426), (16393, 512, 446), (16399, 513, 447), (16402, 514, 448), (16410, 515, 449), (16406, 516, 450), (6168, 192, 474), (6153, 193, 475), (6159, 194, 476), (6162, 195, 477), (6165, 196, 478), (4108, 128, 490), (4157, 129, 491), (4114, 130, 492), (4118, 131, 493), (4121, 132, 494), (4124, 133, 495), (4127, 134, 496), (4130, 135, 497), (4188, 136, 498), (4133, 137, 499), (4184, 138, 500), (4195, 139, 501), (4139, 140, 502), (4143, 141, 503), (4146, 142, 504), (4200, 143, 505), (4136, 144, 506), (11, 0, 548), (15, 1, 549), (19, 2, 550), (28, 3, 551), (40, 4, 552), (46, 5, 553), (52, 6, 554), (58, 7, 555), (20492, 640, 573), (20499, 641, 574), (20506, 642, 575), (20510, 643, 576), (20513, 644, 577), (20519, 645, 578), (20526, 646, 579), (20533, 647, 580), (20540, 648, 581), (20547, 649, 582), (20551, 650, 583), (22605, 704, 1451), (22609, 705, 1452), (22537, 706, 1453), (22541, 707, 1454), (22544, 708, 1455), (22547, 709, 1456), (22550, 710, 1457), (22726, 711, 1458), (22553, 712, 1459), (22556, 713, 1460), (22634, 714, 1461), (22699, 715, 1462), (22641, 716, 1463), (22645, 717, 1464), (22655, 718, 1465), (22652, 719, 1466), (22664, 720, 1467), (22667, 721, 1468), (22670, 722, 1469), (22559, 723, 1470), (22730, 724, 1471), (22831, 725, 1472), (22834, 726, 1473), (22837, 727, 1474), (22562, 728, 1475), (22849, 729, 1476), (22565, 730, 1477), (22568, 731, 1478), (22571, 732, 1479), (22852, 733, 1480), (22574, 734, 1481), (22577, 735, 1482), (22580, 736, 1483), (22858, 737, 1484), (22870, 738, 1485), (22873, 739, 1486), (22583, 740, 1487), (22587, 741, 1488), (22590, 742, 1489), (22593, 743, 1490), (22596, 744, 1491), (22599, 745, 1492), (22602, 746, 1493), (22911, 747, 1494)]
def ax_Tg : List (Nat × Nat × Nat) := [(16434, 256, 402), (20617, 256, 403), (31, 257, 405), (16422, 257, 406), (20624, 257, 407)]
def ax_Tm : List (Nat × Nat × Nat) := [(24585, 0, 263), (20491, 1, 271), (14357, 2, 275), (24589, 12, 607), (20555, 13, 611), (20561, 14, 615), (20565, 15, 620), (20569, 16, 625), (24594, 17, 629), (20573, 18, 633), (14367, 19, 637), (20576, 20, 641), (20580, 21, 645), (14371, 20, 649), (24598, 22, 650), (20584, 23, 654), (20588, 24, 658), (24603, 25, 665), (20592, 26, 669), (24610, 27, 673), (20595, 28, 677), (20600, 29, 682), (24615, 30, 686), (20604, 31, 690), (10305, 32, 694), (18464, 33, 698), (18470, 34, 702), (18474, 35, 706), (18481, 36, 709), (18484, 37, 712), (10312, 38, 716), (18487, 39, 720), (31055, 40, 724), (18493, 41, 730), (31212, 42, 734), (31215, 43, 738), (32777, 44, 741), (31779, 45, 746), (10316, 46, 768), (10335, 47, 772), (10339, 48, 776), (18501, 38, 780), (18505, 49, 781), (18497, 47, 785), (10343, 50, 786), (18516, 51, 790), (18520, 52, 794), (10347, 53, 798), (18509, 54, 802), (10322, 55, 807), (10325, 56, 811), (10328, 57, 816), (18512, 58, 820), (10331, 59, 824), (20608, 60, 828), (20613, 61, 833), (20620, 62, 837), (20628, 63, 842), (20631, 64, 846), (20634, 65, 850), (24620, 66, 854), (20637, 67, 858), (20643, 68, 863), (20646, 69, 867), (12331, 70, 871), (12320, 2, 875), (12335, 32, 876), (12341, 48, 878), (12345, 50, 879), (12349, 53, 880), (12352, 59, 881), (12356, 58, 882), (12359, 71, 883), (12368, 38, 888), (12372, 72, 889), (12390, 51, 893), (12386, 47, 894), (12393, 73, 895), (12399, 75, 904), (12377, 76, 909), (12383, 77, 914), (12363, 57, 918), (20650, 78, 920), (2082, 68, 924), (2087, 79, 926), (2093, 80, 930), (2096, 81, 934), (2100, 83, 941), (2104, 84, 945), (24624, 85, 950), (20654, 86, 954), (24629, 87, 958), (20657, 88, 962), (20660, 89, 965), (20663, 90, 968), (2111, 91, 972), (20667, 70, 976), (20671, 92, 977), (12405, 93, 981), (12410, 94, 985), (24633, 95, 988), (20675, 84, 992), (20678, 91, 993), (20681, 74, 994), (20684, 96, 995), (12414, 97, 999), (20688, 98, 1003), (24638, 99, 1013), (20691, 82, 1017), (20694, 97, 1018), (24643, 100, 1019), (20698, 101, 1023), (20701, 102, 1027), (20704, 103, 1031), (2114, 97, 1035), (20707, 104, 1036), (2121, 102, 1040), (24647, 105, 1041), (20710, 83, 1045), (24651, 106, 1046), (20713, 75, 1050), (24655, 107, 1051), (20716, 108, 1055), (2124, 109, 1059), (24659, 110, 1063), (20719, 111, 1067), (8224, 97, 1071), (8228, 112, 1072), (20722, 113, 1082), (8231, 111, 1086), (8235, 114, 1087), (24663, 115, 1091), (20725, 116, 1095), (16419, 117, 1099), (16428, 109, 1104), (16438, 97, 1105), (16442, 112, 1106), (16447, 114, 1107), (16451, 111, 1108), (16454, 118, 1109), (16457, 119, 1113), (16413, 120, 1117), (20729, 121, 1123), (20734, 122, 1128), (20737, 120, 1132), (24667, 123, 1133), (20742, 124, 1137), (20745, 125, 1141), (2135, 126, 1145), (2128, 127, 1149), (2132, 108, 1153), (20748, 128, 1154), (2138, 129, 1158), (24671, 130, 1162), (20752, 126, 1166), (24675, 131, 1167), (20755, 132, 1171), (2141, 133, 1175), (24679, 134, 1179), (20758, 135, 1183), (20761, 136, 1187), (4149, 137, 1191), (6172, 124, 1195), (6178, 97, 1196), (6182, 138, 1197), (6186, 139, 1202), (4153, 140, 1206), (4173, 141, 1210), (4176, 142, 1214), (4180, 143, 1217), (4160, 144, 1222), (4163, 145, 1226), (4191, 146, 1231), (4167, 147, 1235), (4170, 148, 1239), (4204, 149, 1244), (20764, 150, 1248), (20765, 151, 1252), (20768, 152, 1256), (24683, 153, 1260), (20771, 154, 1264), (4208, 155, 1268), (24687, 156, 1273), (20774, 157, 1277), (4217, 158, 1282), (24691, 159, 1286), (20778, 160, 1290), (8253, 161, 1295), (20781, 162, 1301), (8261, 163, 1305), (24695, 164, 1310), (20784, 165, 1314), (24699, 166, 1318), (24703, 167, 1322), (20787, 168, 1326), (2145, 169, 1330), (24708, 170, 1333), (20791, 171, 1337), (16461, 124, 1341), (16464, 172, 1342), (16468, 108, 1345), (24712, 173, 1346), (20794, 174, 1350), (20798, 175, 1354), (8217, 62, 1358), (8221, 176, 1359), (24716, 177, 1364), (24720, 178, 1368), (20801, 179, 1372), (8239, 103, 1376), (8242, 113, 1377), (8246, 102, 1378), (8250, 108, 1379), (24724, 180, 1380), (20804, 181, 1384), (24728, 182, 1387), (20807, 183, 1391), (22, 179, 1395), (35, 91, 1396), (43, 184, 1397), (49, 103, 1401), (55, 111, 1402), (61, 185, 1403), (64, 186, 1407), (69, 187, 1411), (24732, 188, 1415), (20811, 189, 1419), (24737, 190, 1424), (20814, 191, 1428), (20817, 192, 1432), (2118, 103, 1436), (20820, 193, 1437), (24741, 194, 1441), (24588, 195, 1447), (24593, 196, 1585), (22620, 197, 1589), (22616, 198, 1593), (22628, 199, 1598), (24597, 200, 1603), (24602, 201, 1607), (24607, 202, 1611), (24614, 203, 1615), (24619, 204, 1622), (22704, 205, 1626), (22677, 206, 1630), (22648, 207, 1634), (22658, 208, 1639), (22661, 209, 1642), (22707, 210, 1645), (22713, 211, 1650), (22673, 212, 1654), (22684, 213, 1658), (22688, 214, 1662), (22680, 215, 1666), (22696, 216, 1670), (22718, 217, 1675), (22723, 218, 1680), (24623, 219, 1685), (22757, 220, 1691), (22761, 221, 1695), (22746, 222, 1700), (22733, 223, 1704), (22736, 224, 1708), (22740, 225, 1712), (22764, 226, 1718), (24628, 227, 1722), (24632, 228, 1726), (22772, 229, 1730), (22775, 230, 1734), (22778, 231, 1739), (22769, 232, 1743), (24637, 233, 1752), (22793, 234, 1757), (22797, 235, 1761), (24642, 236, 1765), (22802, 237, 1769), (24646, 238, 1774), (22809, 239, 1779), (22812, 240, 1783), (24650, 241, 1786), (24654, 242, 1790), (24658, 243, 1794), (22819, 244, 1798), (22815, 245, 1802), (24662, 246, 1806), (22825, 247, 1810), (22822, 248, 1814), (22828, 249, 1817), (24666, 250, 1821), (24670, 251, 1825), (22843, 252, 1829), (22840, 253, 1833), (24674, 254, 1837), (24678, 255, 1841), (22846, 256, 1845), (24682, 257, 1849), (22882, 258, 1853), (22867, 259, 1857), (22885, 260, 1861), (22876, 261, 1865), (22855, 262, 1869), (22879, 263, 1873), (22864, 264, 1877), (22861, 265, 1881), (24686, 266, 1885), (22888, 267, 1889), (24690, 268, 1893), (24694, 269, 1897), (22891, 270, 1901), (24698, 271, 1905), (22897, 272, 1909), (22900, 273, 1912), (22894, 274, 1916), (24702, 275, 1920), (24707, 276, 1924), (24711, 277, 1928), (24715, 278, 1932), (24719, 279, 1936), (24723, 280, 1940), (22903, 281, 1944), (24727, 282, 1948), (22908, 283, 1953), (24731, 284, 1956), (22926, 285, 1960), (22920, 286, 1964), (22914, 287, 1968), (22917, 288, 1972), (22923, 289, 1976), (24736, 290, 1980), (24740, 291, 1984), (24744, 292, 1988)]
def ax_Tn : List (Nat × Nat × Nat) := [(20498, 3, 291), (20505, 4, 323), (8203, 5, 329), (8212, 6, 381), (20518, 5, 414), (20525, 7, 417), (20532, 8, 442), (20539, 9, 464), (4107, 10, 470), (20546, 11, 544), (14363, 13, 624), (12396, 74, 900), (12326, 82, 938), (2108, 82, 949), (10362, 74, 1081), (6190, 82, 1221), (4213, 82, 1281)]
def ax_Ti : List (Nat × Nat × Nat) := [(20483, 6, 266), (14339, 6, 274), (18435, 6, 294), (8195, 6, 326), (10243, 6, 332), (2051, 6, 384), (12291, 6, 420), (16387, 6, 445), (4099, 6, 467), (6147, 6, 473), (3, 6, 547), (14375, 3, 662), (10299, 3, 841), (12419, 1, 1007), (12424, 0, 1010), (10353, 2, 1077), (10359, 1, 1080), (10366, 0, 1299), (8256, 0, 1300), (8264, 1, 1309), (2076, 3, 1363), (22531, 6, 1450)]
def ax_Tc : List (Nat × Int × Nat) := [(18523, (-1000000), 899), (12330, (-1000000), 903), (20649, (-1000000), 919), (2086, (-1000000), 925), (10352, (-1000000), 1076), (16409, (-1000000), 1103), (26888, 65536, 1112), (26889, 1431655765, 1120), (26890, 858993459, 1121), (26891, 252645135, 1122), (6189, (-1000000), 1201), (4187, (-1000000), 1230), (8249, (-1000000), 1294), (68, (-1000000), 1423), (22644, (-1000000), 1638)]
def ax_Tl : List (Nat × Nat × Nat) := [(20559, 0, 614), (20821, 1, 619), (20598, 2, 681), (20611, 3, 832), (20641, 4, 862), (20732, 5, 1127), (4198, 6, 1243), (4211, 5, 1272), (22614, 7, 1592), (22624, 8, 1596), (22626, 0, 1597), (22612, 1, 1602), (22632, 9, 1619), (22637, 2, 1620), (22639, 10, 1621), (22711, 11, 1649), (22716, 12, 1674), (22721, 13, 1679), (22702, 3, 1684), (22753, 4, 1689), (22755, 14, 1690), (22744, 15, 1699), (22749, 16, 1716), (22751, 17, 1717), (22767, 18, 1733), (22692, 19, 1737), (22694, 20, 1738), (22781, 21, 1747), (22783, 6, 1748), (22785, 22, 1749), (22787, 23, 1750), (22789, 24, 1751), (22791, 25, 1756), (22800, 26, 1772), (22805, 5, 1773), (22807, 27, 1778), (22906, 28, 1952), (24608, 29, 1992)]
def ax_Ts : List (Nat × Nat × Nat) := [(10310, 0, 715), (10320, 1, 806), (10350, 2, 815), (12339, 3, 877), (12366, 4, 887), (12375, 5, 908), (12381, 6, 913)]
def ax_To : List (Nat × Nat × Nat) := [(24583, 10, 261), (20489, 7, 269), (20496, 9, 289), (20503, 4, 321), (8201, 5, 327), (8210, 1, 379), (20516, 5, 413), (20523, 6, 415), (20530, 8, 440), (20537, 2, 462), (4105, 3, 468), (20544, 0, 542), (24586, 11, 1445)]
def ax_LC : List Int64 := [-9000000000000000001, -9000000000000000010, -9000000000000000003, -9000000000000000100, -9000000000000000002, -1000000, -1, 7, 2, 8, 255, 30792241684771429, 123563582121332, 1919513445, 1667330660, 6382692, 1751474548, 1650811252, 3, 1800, 2000, 11, 9999, 9, 99, 6, 10, 4, 5, 4294967295]
/-- the texts of the constants, by their bytes -/
def ax_SB : List (List Int32) := [[109, 101, 97, 115, 117, 114, 101], [112, 97, 99, 107, 101, 116], [114, 105, 115, 101], [99, 97, 114, 100], [97, 100, 100], [104, 101, 97, 116], [98, 101, 97, 116]]
def ax_SK : List (String × Nat × String) := [("CakeCards$Kitchen", 70, "measure"), ("CakeCards$Kitchen", 80, "packet"), ("CakeCards$Kitchen", 110, "rise"), ("CakeCards$Page", 51, "card"), ("CakeCards$Page", 78, "add"), ("CakeCards$Page", 87, "heat"), ("CakeCards$Page", 93, "beat")]
