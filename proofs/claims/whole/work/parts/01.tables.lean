-- ===== PART A: goes FIRST, ahead of the names: the tables' words, and 'selects' of the private methods out of them =====
/-- a private method of a class that the tables say can be made, by its rows of tables_1 -/
def lw_okq (q : MethodName × Nat) : Prop := (q.1.cls ≠ "java/lang/invoke/MethodHandle" ∧ q.1.cls ≠ "java/lang/invoke/VarHandle") ∧ Cond.instantiable q.1.cls q.2 ∈ tables_1 ∧ Cond.privateMethod q.1 ∈ tables_1 ∧ Cond.instanceMethod q.1 ∈ tables_1
theorem lw_p0 : lw_okq (⟨"CakeCards", "found", "(I)J"⟩, 11) := ⟨⟨by decide +kernel, by decide +kernel⟩, List.mem_of_getElem? (i := 22) (by decide +kernel), List.mem_of_getElem? (i := 376) (by decide +kernel), List.mem_of_getElem? (i := 377) (by decide +kernel)⟩
theorem lw_p1 : lw_okq (⟨"CakeCards", "clean", "(J)J"⟩, 11) := ⟨⟨by decide +kernel, by decide +kernel⟩, List.mem_of_getElem? (i := 22) (by decide +kernel), List.mem_of_getElem? (i := 386) (by decide +kernel), List.mem_of_getElem? (i := 387) (by decide +kernel)⟩
theorem lw_p2 : lw_okq (⟨"CakeCards$Tape", "step", "()V"⟩, 8) := ⟨⟨by decide +kernel, by decide +kernel⟩, List.mem_of_getElem? (i := 50) (by decide +kernel), List.mem_of_getElem? (i := 459) (by decide +kernel), List.mem_of_getElem? (i := 460) (by decide +kernel)⟩
theorem lw_p3 : lw_okq (⟨"CakeCards$Tape", "byteAt", "(I)I"⟩, 8) := ⟨⟨by decide +kernel, by decide +kernel⟩, List.mem_of_getElem? (i := 50) (by decide +kernel), List.mem_of_getElem? (i := 463) (by decide +kernel), List.mem_of_getElem? (i := 464) (by decide +kernel)⟩
theorem lw_p4 : lw_okq (⟨"CakeCards$Kitchen", "readMeasure", "(LCakeCards$Tape;)V"⟩, 15) := ⟨⟨by decide +kernel, by decide +kernel⟩, List.mem_of_getElem? (i := 88) (by decide +kernel), List.mem_of_getElem? (i := 529) (by decide +kernel), List.mem_of_getElem? (i := 530) (by decide +kernel)⟩
theorem lw_p5 : lw_okq (⟨"CakeCards$Tape", "pass", "(Z)V"⟩, 8) := ⟨⟨by decide +kernel, by decide +kernel⟩, List.mem_of_getElem? (i := 50) (by decide +kernel), List.mem_of_getElem? (i := 542) (by decide +kernel), List.mem_of_getElem? (i := 543) (by decide +kernel)⟩
theorem lw_p6 : lw_okq (⟨"CakeCards$Tape", "valueHere", "()I"⟩, 8) := ⟨⟨by decide +kernel, by decide +kernel⟩, List.mem_of_getElem? (i := 50) (by decide +kernel), List.mem_of_getElem? (i := 555) (by decide +kernel), List.mem_of_getElem? (i := 556) (by decide +kernel)⟩
theorem lw_p7 : lw_okq (⟨"CakeCards$Tape", "isAtSign", "(I)Z"⟩, 8) := ⟨⟨by decide +kernel, by decide +kernel⟩, List.mem_of_getElem? (i := 50) (by decide +kernel), List.mem_of_getElem? (i := 563) (by decide +kernel), List.mem_of_getElem? (i := 564) (by decide +kernel)⟩
theorem lw_p8 : lw_okq (⟨"CakeCards$Kitchen", "readPacket", "(LCakeCards$Tape;)V"⟩, 15) := ⟨⟨by decide +kernel, by decide +kernel⟩, List.mem_of_getElem? (i := 88) (by decide +kernel), List.mem_of_getElem? (i := 568) (by decide +kernel), List.mem_of_getElem? (i := 569) (by decide +kernel)⟩
theorem lw_p9 : lw_okq (⟨"CakeCards$Kitchen", "readRise", "(LCakeCards$Tape;)V"⟩, 15) := ⟨⟨by decide +kernel, by decide +kernel⟩, List.mem_of_getElem? (i := 88) (by decide +kernel), List.mem_of_getElem? (i := 572) (by decide +kernel), List.mem_of_getElem? (i := 573) (by decide +kernel)⟩
theorem lw_p10 : lw_okq (⟨"CakeCards$Page", "readLine", "(LCakeCards$Tape;LCakeCards$Kitchen;)V"⟩, 6) := ⟨⟨by decide +kernel, by decide +kernel⟩, List.mem_of_getElem? (i := 176) (by decide +kernel), List.mem_of_getElem? (i := 644) (by decide +kernel), List.mem_of_getElem? (i := 645) (by decide +kernel)⟩
theorem lw_p11 : lw_okq (⟨"CakeCards$Page", "readAdd", "(LCakeCards$Tape;LCakeCards$Kitchen;)V"⟩, 6) := ⟨⟨by decide +kernel, by decide +kernel⟩, List.mem_of_getElem? (i := 176) (by decide +kernel), List.mem_of_getElem? (i := 650) (by decide +kernel), List.mem_of_getElem? (i := 651) (by decide +kernel)⟩
theorem lw_p12 : lw_okq (⟨"CakeCards$Page", "readHeat", "(LCakeCards$Tape;)V"⟩, 6) := ⟨⟨by decide +kernel, by decide +kernel⟩, List.mem_of_getElem? (i := 176) (by decide +kernel), List.mem_of_getElem? (i := 671) (by decide +kernel), List.mem_of_getElem? (i := 672) (by decide +kernel)⟩
theorem lw_p13 : lw_okq (⟨"CakeCards$Page", "readBeat", "(LCakeCards$Tape;)V"⟩, 6) := ⟨⟨by decide +kernel, by decide +kernel⟩, List.mem_of_getElem? (i := 176) (by decide +kernel), List.mem_of_getElem? (i := 676) (by decide +kernel), List.mem_of_getElem? (i := 677) (by decide +kernel)⟩
theorem lw_p14 : lw_okq (⟨"CakeCards$Subsets", "begin", "()V"⟩, 5) := ⟨⟨by decide +kernel, by decide +kernel⟩, List.mem_of_getElem? (i := 201) (by decide +kernel), List.mem_of_getElem? (i := 861) (by decide +kernel), List.mem_of_getElem? (i := 862) (by decide +kernel)⟩
theorem lw_p15 : lw_okq (⟨"CakeCards$Subsets", "take", "(I)V"⟩, 5) := ⟨⟨by decide +kernel, by decide +kernel⟩, List.mem_of_getElem? (i := 201) (by decide +kernel), List.mem_of_getElem? (i := 875) (by decide +kernel), List.mem_of_getElem? (i := 876) (by decide +kernel)⟩
def lw_privs_1 : List (MethodName × Nat) := [(⟨"CakeCards", "found", "(I)J"⟩, 11), (⟨"CakeCards", "clean", "(J)J"⟩, 11), (⟨"CakeCards$Tape", "step", "()V"⟩, 8), (⟨"CakeCards$Tape", "byteAt", "(I)I"⟩, 8), (⟨"CakeCards$Kitchen", "readMeasure", "(LCakeCards$Tape;)V"⟩, 15), (⟨"CakeCards$Tape", "pass", "(Z)V"⟩, 8), (⟨"CakeCards$Tape", "valueHere", "()I"⟩, 8), (⟨"CakeCards$Tape", "isAtSign", "(I)Z"⟩, 8), (⟨"CakeCards$Kitchen", "readPacket", "(LCakeCards$Tape;)V"⟩, 15), (⟨"CakeCards$Kitchen", "readRise", "(LCakeCards$Tape;)V"⟩, 15), (⟨"CakeCards$Page", "readLine", "(LCakeCards$Tape;LCakeCards$Kitchen;)V"⟩, 6), (⟨"CakeCards$Page", "readAdd", "(LCakeCards$Tape;LCakeCards$Kitchen;)V"⟩, 6), (⟨"CakeCards$Page", "readHeat", "(LCakeCards$Tape;)V"⟩, 6), (⟨"CakeCards$Page", "readBeat", "(LCakeCards$Tape;)V"⟩, 6), (⟨"CakeCards$Subsets", "begin", "()V"⟩, 5), (⟨"CakeCards$Subsets", "take", "(I)V"⟩, 5)]
theorem lw_r1 : ∀ q ∈ lw_privs_1, lw_okq q := List.forall_mem_cons.mpr ⟨lw_p0, List.forall_mem_cons.mpr ⟨lw_p1, List.forall_mem_cons.mpr ⟨lw_p2, List.forall_mem_cons.mpr ⟨lw_p3, List.forall_mem_cons.mpr ⟨lw_p4, List.forall_mem_cons.mpr ⟨lw_p5, List.forall_mem_cons.mpr ⟨lw_p6, List.forall_mem_cons.mpr ⟨lw_p7, List.forall_mem_cons.mpr ⟨lw_p8, List.forall_mem_cons.mpr ⟨lw_p9, List.forall_mem_cons.mpr ⟨lw_p10, List.forall_mem_cons.mpr ⟨lw_p11, List.forall_mem_cons.mpr ⟨lw_p12, List.forall_mem_cons.mpr ⟨lw_p13, List.forall_mem_cons.mpr ⟨lw_p14, List.forall_mem_cons.mpr ⟨lw_p15, fun _ h => absurd h List.not_mem_nil⟩⟩⟩⟩⟩⟩⟩⟩⟩⟩⟩⟩⟩⟩⟩⟩
theorem lw_p16 : lw_okq (⟨"CakeCards$Deck", "isEarlier", "(II)Z"⟩, 5) := ⟨⟨by decide +kernel, by decide +kernel⟩, List.mem_of_getElem? (i := 140) (by decide +kernel), List.mem_of_getElem? (i := 911) (by decide +kernel), List.mem_of_getElem? (i := 912) (by decide +kernel)⟩
theorem lw_p17 : lw_okq (⟨"CakeCards$Deck", "asNear", "(II)I"⟩, 5) := ⟨⟨by decide +kernel, by decide +kernel⟩, List.mem_of_getElem? (i := 140) (by decide +kernel), List.mem_of_getElem? (i := 920) (by decide +kernel), List.mem_of_getElem? (i := 921) (by decide +kernel)⟩
theorem lw_p18 : lw_okq (⟨"CakeCards$Deck", "costOfPair", "(III)I"⟩, 5) := ⟨⟨by decide +kernel, by decide +kernel⟩, List.mem_of_getElem? (i := 140) (by decide +kernel), List.mem_of_getElem? (i := 937) (by decide +kernel), List.mem_of_getElem? (i := 938) (by decide +kernel)⟩
theorem lw_p19 : lw_okq (⟨"CakeCards", "isGrove", "(I)Z"⟩, 11) := ⟨⟨by decide +kernel, by decide +kernel⟩, List.mem_of_getElem? (i := 22) (by decide +kernel), List.mem_of_getElem? (i := 945) (by decide +kernel), List.mem_of_getElem? (i := 946) (by decide +kernel)⟩
theorem lw_p20 : lw_okq (⟨"CakeCards$Grove", "meet", "(II)V"⟩, 5) := ⟨⟨by decide +kernel, by decide +kernel⟩, List.mem_of_getElem? (i := 229) (by decide +kernel), List.mem_of_getElem? (i := 959) (by decide +kernel), List.mem_of_getElem? (i := 960) (by decide +kernel)⟩
theorem lw_p21 : lw_okq (⟨"CakeCards$Grove", "encode", "(II)I"⟩, 5) := ⟨⟨by decide +kernel, by decide +kernel⟩, List.mem_of_getElem? (i := 229) (by decide +kernel), List.mem_of_getElem? (i := 964) (by decide +kernel), List.mem_of_getElem? (i := 965) (by decide +kernel)⟩
theorem lw_p22 : lw_okq (⟨"CakeCards$Forest", "plantEnds", "()Z"⟩, 17) := ⟨⟨by decide +kernel, by decide +kernel⟩, List.mem_of_getElem? (i := 223) (by decide +kernel), List.mem_of_getElem? (i := 968) (by decide +kernel), List.mem_of_getElem? (i := 969) (by decide +kernel)⟩
theorem lw_p23 : lw_okq (⟨"CakeCards$Forest", "sortMarks", "()V"⟩, 17) := ⟨⟨by decide +kernel, by decide +kernel⟩, List.mem_of_getElem? (i := 223) (by decide +kernel), List.mem_of_getElem? (i := 984) (by decide +kernel), List.mem_of_getElem? (i := 985) (by decide +kernel)⟩
theorem lw_p24 : lw_okq (⟨"CakeCards$Forest", "build", "(I)V"⟩, 17) := ⟨⟨by decide +kernel, by decide +kernel⟩, List.mem_of_getElem? (i := 223) (by decide +kernel), List.mem_of_getElem? (i := 988) (by decide +kernel), List.mem_of_getElem? (i := 989) (by decide +kernel)⟩
theorem lw_p25 : lw_okq (⟨"CakeCards$Forest", "graft", "(II)V"⟩, 17) := ⟨⟨by decide +kernel, by decide +kernel⟩, List.mem_of_getElem? (i := 223) (by decide +kernel), List.mem_of_getElem? (i := 993) (by decide +kernel), List.mem_of_getElem? (i := 994) (by decide +kernel)⟩
theorem lw_p26 : lw_okq (⟨"CakeCards$Forest", "countChanges", "()V"⟩, 17) := ⟨⟨by decide +kernel, by decide +kernel⟩, List.mem_of_getElem? (i := 223) (by decide +kernel), List.mem_of_getElem? (i := 997) (by decide +kernel), List.mem_of_getElem? (i := 998) (by decide +kernel)⟩
theorem lw_p27 : lw_okq (⟨"CakeCards$Forest", "compare", "()V"⟩, 17) := ⟨⟨by decide +kernel, by decide +kernel⟩, List.mem_of_getElem? (i := 223) (by decide +kernel), List.mem_of_getElem? (i := 1001) (by decide +kernel), List.mem_of_getElem? (i := 1002) (by decide +kernel)⟩
theorem lw_p28 : lw_okq (⟨"CakeCards$Forest", "joins", "()J"⟩, 17) := ⟨⟨by decide +kernel, by decide +kernel⟩, List.mem_of_getElem? (i := 223) (by decide +kernel), List.mem_of_getElem? (i := 1006) (by decide +kernel), List.mem_of_getElem? (i := 1007) (by decide +kernel)⟩
theorem lw_p29 : lw_okq (⟨"CakeCards", "imageOf", "(I)LCakeCards$Household;"⟩, 11) := ⟨⟨by decide +kernel, by decide +kernel⟩, List.mem_of_getElem? (i := 22) (by decide +kernel), List.mem_of_getElem? (i := 1112) (by decide +kernel), List.mem_of_getElem? (i := 1113) (by decide +kernel)⟩
theorem lw_p30 : lw_okq (⟨"CakeCards$Asker", "bodyOf", "(I)I"⟩, 8) := ⟨⟨by decide +kernel, by decide +kernel⟩, List.mem_of_getElem? (i := 303) (by decide +kernel), List.mem_of_getElem? (i := 1165) (by decide +kernel), List.mem_of_getElem? (i := 1166) (by decide +kernel)⟩
theorem lw_p31 : lw_okq (⟨"CakeCards$Asker", "run", "(II)I"⟩, 8) := ⟨⟨by decide +kernel, by decide +kernel⟩, List.mem_of_getElem? (i := 303) (by decide +kernel), List.mem_of_getElem? (i := 1169) (by decide +kernel), List.mem_of_getElem? (i := 1170) (by decide +kernel)⟩
def lw_privs_2 : List (MethodName × Nat) := [(⟨"CakeCards$Deck", "isEarlier", "(II)Z"⟩, 5), (⟨"CakeCards$Deck", "asNear", "(II)I"⟩, 5), (⟨"CakeCards$Deck", "costOfPair", "(III)I"⟩, 5), (⟨"CakeCards", "isGrove", "(I)Z"⟩, 11), (⟨"CakeCards$Grove", "meet", "(II)V"⟩, 5), (⟨"CakeCards$Grove", "encode", "(II)I"⟩, 5), (⟨"CakeCards$Forest", "plantEnds", "()Z"⟩, 17), (⟨"CakeCards$Forest", "sortMarks", "()V"⟩, 17), (⟨"CakeCards$Forest", "build", "(I)V"⟩, 17), (⟨"CakeCards$Forest", "graft", "(II)V"⟩, 17), (⟨"CakeCards$Forest", "countChanges", "()V"⟩, 17), (⟨"CakeCards$Forest", "compare", "()V"⟩, 17), (⟨"CakeCards$Forest", "joins", "()J"⟩, 17), (⟨"CakeCards", "imageOf", "(I)LCakeCards$Household;"⟩, 11), (⟨"CakeCards$Asker", "bodyOf", "(I)I"⟩, 8), (⟨"CakeCards$Asker", "run", "(II)I"⟩, 8)]
theorem lw_r2 : ∀ q ∈ lw_privs_2, lw_okq q := List.forall_mem_cons.mpr ⟨lw_p16, List.forall_mem_cons.mpr ⟨lw_p17, List.forall_mem_cons.mpr ⟨lw_p18, List.forall_mem_cons.mpr ⟨lw_p19, List.forall_mem_cons.mpr ⟨lw_p20, List.forall_mem_cons.mpr ⟨lw_p21, List.forall_mem_cons.mpr ⟨lw_p22, List.forall_mem_cons.mpr ⟨lw_p23, List.forall_mem_cons.mpr ⟨lw_p24, List.forall_mem_cons.mpr ⟨lw_p25, List.forall_mem_cons.mpr ⟨lw_p26, List.forall_mem_cons.mpr ⟨lw_p27, List.forall_mem_cons.mpr ⟨lw_p28, List.forall_mem_cons.mpr ⟨lw_p29, List.forall_mem_cons.mpr ⟨lw_p30, List.forall_mem_cons.mpr ⟨lw_p31, fun _ h => absurd h List.not_mem_nil⟩⟩⟩⟩⟩⟩⟩⟩⟩⟩⟩⟩⟩⟩⟩⟩
theorem lw_p32 : lw_okq (⟨"CakeCards$Asker", "leave", "(I)V"⟩, 8) := ⟨⟨by decide +kernel, by decide +kernel⟩, List.mem_of_getElem? (i := 303) (by decide +kernel), List.mem_of_getElem? (i := 1173) (by decide +kernel), List.mem_of_getElem? (i := 1174) (by decide +kernel)⟩
theorem lw_p33 : lw_okq (⟨"CakeCardsModel", "finding", "(I)J"⟩, 44) := ⟨⟨by decide +kernel, by decide +kernel⟩, List.mem_of_getElem? (i := 1207) (by decide +kernel), List.mem_of_getElem? (i := 1360) (by decide +kernel), List.mem_of_getElem? (i := 1361) (by decide +kernel)⟩
theorem lw_p34 : lw_okq (⟨"CakeCardsModel", "begins", "()V"⟩, 44) := ⟨⟨by decide +kernel, by decide +kernel⟩, List.mem_of_getElem? (i := 1207) (by decide +kernel), List.mem_of_getElem? (i := 1388) (by decide +kernel), List.mem_of_getElem? (i := 1389) (by decide +kernel)⟩
theorem lw_p35 : lw_okq (⟨"CakeCardsModel", "next", "()V"⟩, 44) := ⟨⟨by decide +kernel, by decide +kernel⟩, List.mem_of_getElem? (i := 1207) (by decide +kernel), List.mem_of_getElem? (i := 1392) (by decide +kernel), List.mem_of_getElem? (i := 1393) (by decide +kernel)⟩
theorem lw_p36 : lw_okq (⟨"CakeCardsModel", "byteAt", "(I)I"⟩, 44) := ⟨⟨by decide +kernel, by decide +kernel⟩, List.mem_of_getElem? (i := 1207) (by decide +kernel), List.mem_of_getElem? (i := 1396) (by decide +kernel), List.mem_of_getElem? (i := 1397) (by decide +kernel)⟩
theorem lw_p37 : lw_okq (⟨"CakeCardsModel", "word", "()J"⟩, 44) := ⟨⟨by decide +kernel, by decide +kernel⟩, List.mem_of_getElem? (i := 1207) (by decide +kernel), List.mem_of_getElem? (i := 1407) (by decide +kernel), List.mem_of_getElem? (i := 1408) (by decide +kernel)⟩
theorem lw_p38 : lw_okq (⟨"CakeCardsModel", "readMeasure", "()V"⟩, 44) := ⟨⟨by decide +kernel, by decide +kernel⟩, List.mem_of_getElem? (i := 1207) (by decide +kernel), List.mem_of_getElem? (i := 1412) (by decide +kernel), List.mem_of_getElem? (i := 1413) (by decide +kernel)⟩
theorem lw_p39 : lw_okq (⟨"CakeCardsModel", "bad", "(I)V"⟩, 44) := ⟨⟨by decide +kernel, by decide +kernel⟩, List.mem_of_getElem? (i := 1207) (by decide +kernel), List.mem_of_getElem? (i := 1416) (by decide +kernel), List.mem_of_getElem? (i := 1417) (by decide +kernel)⟩
theorem lw_p40 : lw_okq (⟨"CakeCardsModel", "must", "(Z)V"⟩, 44) := ⟨⟨by decide +kernel, by decide +kernel⟩, List.mem_of_getElem? (i := 1207) (by decide +kernel), List.mem_of_getElem? (i := 1420) (by decide +kernel), List.mem_of_getElem? (i := 1421) (by decide +kernel)⟩
theorem lw_p41 : lw_okq (⟨"CakeCardsModel", "number", "(II)I"⟩, 44) := ⟨⟨by decide +kernel, by decide +kernel⟩, List.mem_of_getElem? (i := 1207) (by decide +kernel), List.mem_of_getElem? (i := 1424) (by decide +kernel), List.mem_of_getElem? (i := 1425) (by decide +kernel)⟩
theorem lw_p42 : lw_okq (⟨"CakeCardsModel", "here", "()I"⟩, 44) := ⟨⟨by decide +kernel, by decide +kernel⟩, List.mem_of_getElem? (i := 1207) (by decide +kernel), List.mem_of_getElem? (i := 1428) (by decide +kernel), List.mem_of_getElem? (i := 1429) (by decide +kernel)⟩
theorem lw_p43 : lw_okq (⟨"CakeCardsModel", "mustEnd", "()V"⟩, 44) := ⟨⟨by decide +kernel, by decide +kernel⟩, List.mem_of_getElem? (i := 1207) (by decide +kernel), List.mem_of_getElem? (i := 1432) (by decide +kernel), List.mem_of_getElem? (i := 1433) (by decide +kernel)⟩
theorem lw_p44 : lw_okq (⟨"CakeCardsModel", "readPacket", "()V"⟩, 44) := ⟨⟨by decide +kernel, by decide +kernel⟩, List.mem_of_getElem? (i := 1207) (by decide +kernel), List.mem_of_getElem? (i := 1437) (by decide +kernel), List.mem_of_getElem? (i := 1438) (by decide +kernel)⟩
theorem lw_p45 : lw_okq (⟨"CakeCardsModel", "ended", "()J"⟩, 44) := ⟨⟨by decide +kernel, by decide +kernel⟩, List.mem_of_getElem? (i := 1207) (by decide +kernel), List.mem_of_getElem? (i := 1442) (by decide +kernel), List.mem_of_getElem? (i := 1443) (by decide +kernel)⟩
theorem lw_p46 : lw_okq (⟨"CakeCardsModel", "clearDraft", "(III)V"⟩, 44) := ⟨⟨by decide +kernel, by decide +kernel⟩, List.mem_of_getElem? (i := 1207) (by decide +kernel), List.mem_of_getElem? (i := 1453) (by decide +kernel), List.mem_of_getElem? (i := 1454) (by decide +kernel)⟩
theorem lw_p47 : lw_okq (⟨"CakeCardsModel", "readLine", "(II)V"⟩, 44) := ⟨⟨by decide +kernel, by decide +kernel⟩, List.mem_of_getElem? (i := 1207) (by decide +kernel), List.mem_of_getElem? (i := 1457) (by decide +kernel), List.mem_of_getElem? (i := 1458) (by decide +kernel)⟩
def lw_privs_3 : List (MethodName × Nat) := [(⟨"CakeCards$Asker", "leave", "(I)V"⟩, 8), (⟨"CakeCardsModel", "finding", "(I)J"⟩, 44), (⟨"CakeCardsModel", "begins", "()V"⟩, 44), (⟨"CakeCardsModel", "next", "()V"⟩, 44), (⟨"CakeCardsModel", "byteAt", "(I)I"⟩, 44), (⟨"CakeCardsModel", "word", "()J"⟩, 44), (⟨"CakeCardsModel", "readMeasure", "()V"⟩, 44), (⟨"CakeCardsModel", "bad", "(I)V"⟩, 44), (⟨"CakeCardsModel", "must", "(Z)V"⟩, 44), (⟨"CakeCardsModel", "number", "(II)I"⟩, 44), (⟨"CakeCardsModel", "here", "()I"⟩, 44), (⟨"CakeCardsModel", "mustEnd", "()V"⟩, 44), (⟨"CakeCardsModel", "readPacket", "()V"⟩, 44), (⟨"CakeCardsModel", "ended", "()J"⟩, 44), (⟨"CakeCardsModel", "clearDraft", "(III)V"⟩, 44), (⟨"CakeCardsModel", "readLine", "(II)V"⟩, 44)]
theorem lw_r3 : ∀ q ∈ lw_privs_3, lw_okq q := List.forall_mem_cons.mpr ⟨lw_p32, List.forall_mem_cons.mpr ⟨lw_p33, List.forall_mem_cons.mpr ⟨lw_p34, List.forall_mem_cons.mpr ⟨lw_p35, List.forall_mem_cons.mpr ⟨lw_p36, List.forall_mem_cons.mpr ⟨lw_p37, List.forall_mem_cons.mpr ⟨lw_p38, List.forall_mem_cons.mpr ⟨lw_p39, List.forall_mem_cons.mpr ⟨lw_p40, List.forall_mem_cons.mpr ⟨lw_p41, List.forall_mem_cons.mpr ⟨lw_p42, List.forall_mem_cons.mpr ⟨lw_p43, List.forall_mem_cons.mpr ⟨lw_p44, List.forall_mem_cons.mpr ⟨lw_p45, List.forall_mem_cons.mpr ⟨lw_p46, List.forall_mem_cons.mpr ⟨lw_p47, fun _ h => absurd h List.not_mem_nil⟩⟩⟩⟩⟩⟩⟩⟩⟩⟩⟩⟩⟩⟩⟩⟩
theorem lw_p48 : lw_okq (⟨"CakeCardsModel", "readAdd", "(II)V"⟩, 44) := ⟨⟨by decide +kernel, by decide +kernel⟩, List.mem_of_getElem? (i := 1207) (by decide +kernel), List.mem_of_getElem? (i := 1462) (by decide +kernel), List.mem_of_getElem? (i := 1463) (by decide +kernel)⟩
theorem lw_p49 : lw_okq (⟨"CakeCardsModel", "numberOrStain", "(II)I"⟩, 44) := ⟨⟨by decide +kernel, by decide +kernel⟩, List.mem_of_getElem? (i := 1207) (by decide +kernel), List.mem_of_getElem? (i := 1466) (by decide +kernel), List.mem_of_getElem? (i := 1467) (by decide +kernel)⟩
theorem lw_p50 : lw_okq (⟨"CakeCardsModel", "grainsOf", "(III)I"⟩, 44) := ⟨⟨by decide +kernel, by decide +kernel⟩, List.mem_of_getElem? (i := 1207) (by decide +kernel), List.mem_of_getElem? (i := 1470) (by decide +kernel), List.mem_of_getElem? (i := 1471) (by decide +kernel)⟩
theorem lw_p51 : lw_okq (⟨"CakeCardsModel", "lay", "(II)V"⟩, 44) := ⟨⟨by decide +kernel, by decide +kernel⟩, List.mem_of_getElem? (i := 1207) (by decide +kernel), List.mem_of_getElem? (i := 1474) (by decide +kernel), List.mem_of_getElem? (i := 1475) (by decide +kernel)⟩
theorem lw_p52 : lw_okq (⟨"CakeCardsModel", "keepDraft", "()I"⟩, 44) := ⟨⟨by decide +kernel, by decide +kernel⟩, List.mem_of_getElem? (i := 1207) (by decide +kernel), List.mem_of_getElem? (i := 1480) (by decide +kernel), List.mem_of_getElem? (i := 1481) (by decide +kernel)⟩
theorem lw_p53 : lw_okq (⟨"CakeCardsModel", "isCard", "(I)Z"⟩, 44) := ⟨⟨by decide +kernel, by decide +kernel⟩, List.mem_of_getElem? (i := 1207) (by decide +kernel), List.mem_of_getElem? (i := 1501) (by decide +kernel), List.mem_of_getElem? (i := 1502) (by decide +kernel)⟩
theorem lw_p54 : lw_okq (⟨"CakeCardsModel", "ofCard", "(II)I"⟩, 44) := ⟨⟨by decide +kernel, by decide +kernel⟩, List.mem_of_getElem? (i := 1207) (by decide +kernel), List.mem_of_getElem? (i := 1505) (by decide +kernel), List.mem_of_getElem? (i := 1506) (by decide +kernel)⟩
theorem lw_p55 : lw_okq (⟨"CakeCardsModel", "isKnown", "(II)Z"⟩, 44) := ⟨⟨by decide +kernel, by decide +kernel⟩, List.mem_of_getElem? (i := 1207) (by decide +kernel), List.mem_of_getElem? (i := 1519) (by decide +kernel), List.mem_of_getElem? (i := 1520) (by decide +kernel)⟩
theorem lw_p56 : lw_okq (⟨"CakeCardsModel", "markOf", "(II)I"⟩, 44) := ⟨⟨by decide +kernel, by decide +kernel⟩, List.mem_of_getElem? (i := 1207) (by decide +kernel), List.mem_of_getElem? (i := 1523) (by decide +kernel), List.mem_of_getElem? (i := 1524) (by decide +kernel)⟩
theorem lw_p57 : lw_okq (⟨"CakeCardsModel", "mother", "(II)I"⟩, 44) := ⟨⟨by decide +kernel, by decide +kernel⟩, List.mem_of_getElem? (i := 1207) (by decide +kernel), List.mem_of_getElem? (i := 1541) (by decide +kernel), List.mem_of_getElem? (i := 1542) (by decide +kernel)⟩
theorem lw_p58 : lw_okq (⟨"CakeCardsModel", "unlikeOf", "(II)I"⟩, 44) := ⟨⟨by decide +kernel, by decide +kernel⟩, List.mem_of_getElem? (i := 1207) (by decide +kernel), List.mem_of_getElem? (i := 1560) (by decide +kernel), List.mem_of_getElem? (i := 1561) (by decide +kernel)⟩
theorem lw_p59 : lw_okq (⟨"CakeCardsModel", "isUnlike", "(III)Z"⟩, 44) := ⟨⟨by decide +kernel, by decide +kernel⟩, List.mem_of_getElem? (i := 1207) (by decide +kernel), List.mem_of_getElem? (i := 1564) (by decide +kernel), List.mem_of_getElem? (i := 1565) (by decide +kernel)⟩
theorem lw_p60 : lw_okq (⟨"CakeCardsModel", "riseOf", "(III)I"⟩, 44) := ⟨⟨by decide +kernel, by decide +kernel⟩, List.mem_of_getElem? (i := 1207) (by decide +kernel), List.mem_of_getElem? (i := 1572) (by decide +kernel), List.mem_of_getElem? (i := 1573) (by decide +kernel)⟩
theorem lw_p61 : lw_okq (⟨"CakeCardsModel", "sinks", "(III)Z"⟩, 44) := ⟨⟨by decide +kernel, by decide +kernel⟩, List.mem_of_getElem? (i := 1207) (by decide +kernel), List.mem_of_getElem? (i := 1579) (by decide +kernel), List.mem_of_getElem? (i := 1580) (by decide +kernel)⟩
theorem lw_p62 : lw_okq (⟨"CakeCardsModel", "seekMother", "(I)V"⟩, 44) := ⟨⟨by decide +kernel, by decide +kernel⟩, List.mem_of_getElem? (i := 1207) (by decide +kernel), List.mem_of_getElem? (i := 1591) (by decide +kernel), List.mem_of_getElem? (i := 1592) (by decide +kernel)⟩
theorem lw_p63 : lw_okq (⟨"CakeCardsModel", "isEarlier", "(II)Z"⟩, 44) := ⟨⟨by decide +kernel, by decide +kernel⟩, List.mem_of_getElem? (i := 1207) (by decide +kernel), List.mem_of_getElem? (i := 1595) (by decide +kernel), List.mem_of_getElem? (i := 1596) (by decide +kernel)⟩
def lw_privs_4 : List (MethodName × Nat) := [(⟨"CakeCardsModel", "readAdd", "(II)V"⟩, 44), (⟨"CakeCardsModel", "numberOrStain", "(II)I"⟩, 44), (⟨"CakeCardsModel", "grainsOf", "(III)I"⟩, 44), (⟨"CakeCardsModel", "lay", "(II)V"⟩, 44), (⟨"CakeCardsModel", "keepDraft", "()I"⟩, 44), (⟨"CakeCardsModel", "isCard", "(I)Z"⟩, 44), (⟨"CakeCardsModel", "ofCard", "(II)I"⟩, 44), (⟨"CakeCardsModel", "isKnown", "(II)Z"⟩, 44), (⟨"CakeCardsModel", "markOf", "(II)I"⟩, 44), (⟨"CakeCardsModel", "mother", "(II)I"⟩, 44), (⟨"CakeCardsModel", "unlikeOf", "(II)I"⟩, 44), (⟨"CakeCardsModel", "isUnlike", "(III)Z"⟩, 44), (⟨"CakeCardsModel", "riseOf", "(III)I"⟩, 44), (⟨"CakeCardsModel", "sinks", "(III)Z"⟩, 44), (⟨"CakeCardsModel", "seekMother", "(I)V"⟩, 44), (⟨"CakeCardsModel", "isEarlier", "(II)Z"⟩, 44)]
theorem lw_r4 : ∀ q ∈ lw_privs_4, lw_okq q := List.forall_mem_cons.mpr ⟨lw_p48, List.forall_mem_cons.mpr ⟨lw_p49, List.forall_mem_cons.mpr ⟨lw_p50, List.forall_mem_cons.mpr ⟨lw_p51, List.forall_mem_cons.mpr ⟨lw_p52, List.forall_mem_cons.mpr ⟨lw_p53, List.forall_mem_cons.mpr ⟨lw_p54, List.forall_mem_cons.mpr ⟨lw_p55, List.forall_mem_cons.mpr ⟨lw_p56, List.forall_mem_cons.mpr ⟨lw_p57, List.forall_mem_cons.mpr ⟨lw_p58, List.forall_mem_cons.mpr ⟨lw_p59, List.forall_mem_cons.mpr ⟨lw_p60, List.forall_mem_cons.mpr ⟨lw_p61, List.forall_mem_cons.mpr ⟨lw_p62, List.forall_mem_cons.mpr ⟨lw_p63, fun _ h => absurd h List.not_mem_nil⟩⟩⟩⟩⟩⟩⟩⟩⟩⟩⟩⟩⟩⟩⟩⟩
theorem lw_p64 : lw_okq (⟨"CakeCardsModel", "isAlike", "(III)Z"⟩, 44) := ⟨⟨by decide +kernel, by decide +kernel⟩, List.mem_of_getElem? (i := 1207) (by decide +kernel), List.mem_of_getElem? (i := 1607) (by decide +kernel), List.mem_of_getElem? (i := 1608) (by decide +kernel)⟩
theorem lw_p65 : lw_okq (⟨"CakeCardsModel", "areEnds", "(I)Z"⟩, 44) := ⟨⟨by decide +kernel, by decide +kernel⟩, List.mem_of_getElem? (i := 1207) (by decide +kernel), List.mem_of_getElem? (i := 1615) (by decide +kernel), List.mem_of_getElem? (i := 1616) (by decide +kernel)⟩
theorem lw_p66 : lw_okq (⟨"CakeCardsModel", "allTrees", "()I"⟩, 44) := ⟨⟨by decide +kernel, by decide +kernel⟩, List.mem_of_getElem? (i := 1207) (by decide +kernel), List.mem_of_getElem? (i := 1619) (by decide +kernel), List.mem_of_getElem? (i := 1620) (by decide +kernel)⟩
theorem lw_p67 : lw_okq (⟨"CakeCardsModel", "seekTrees", "()V"⟩, 44) := ⟨⟨by decide +kernel, by decide +kernel⟩, List.mem_of_getElem? (i := 1207) (by decide +kernel), List.mem_of_getElem? (i := 1623) (by decide +kernel), List.mem_of_getElem? (i := 1624) (by decide +kernel)⟩
theorem lw_p68 : lw_okq (⟨"CakeCardsModel", "layTree", "(I)V"⟩, 44) := ⟨⟨by decide +kernel, by decide +kernel⟩, List.mem_of_getElem? (i := 1207) (by decide +kernel), List.mem_of_getElem? (i := 1627) (by decide +kernel), List.mem_of_getElem? (i := 1628) (by decide +kernel)⟩
theorem lw_p69 : lw_okq (⟨"CakeCardsModel", "putOn", "(III)V"⟩, 44) := ⟨⟨by decide +kernel, by decide +kernel⟩, List.mem_of_getElem? (i := 1207) (by decide +kernel), List.mem_of_getElem? (i := 1631) (by decide +kernel), List.mem_of_getElem? (i := 1632) (by decide +kernel)⟩
theorem lw_p70 : lw_okq (⟨"CakeCardsModel", "changes", "()I"⟩, 44) := ⟨⟨by decide +kernel, by decide +kernel⟩, List.mem_of_getElem? (i := 1207) (by decide +kernel), List.mem_of_getElem? (i := 1635) (by decide +kernel), List.mem_of_getElem? (i := 1636) (by decide +kernel)⟩
theorem lw_p71 : lw_okq (⟨"CakeCardsModel", "changesOf", "(I)I"⟩, 44) := ⟨⟨by decide +kernel, by decide +kernel⟩, List.mem_of_getElem? (i := 1207) (by decide +kernel), List.mem_of_getElem? (i := 1639) (by decide +kernel), List.mem_of_getElem? (i := 1640) (by decide +kernel)⟩
theorem lw_p72 : lw_okq (⟨"CakeCardsModel", "layValues", "(I)V"⟩, 44) := ⟨⟨by decide +kernel, by decide +kernel⟩, List.mem_of_getElem? (i := 1207) (by decide +kernel), List.mem_of_getElem? (i := 1643) (by decide +kernel), List.mem_of_getElem? (i := 1644) (by decide +kernel)⟩
theorem lw_p73 : lw_okq (⟨"CakeCardsModel", "isJoin", "(I)Z"⟩, 44) := ⟨⟨by decide +kernel, by decide +kernel⟩, List.mem_of_getElem? (i := 1207) (by decide +kernel), List.mem_of_getElem? (i := 1651) (by decide +kernel), List.mem_of_getElem? (i := 1652) (by decide +kernel)⟩
theorem lw_p74 : lw_okq (⟨"CakeCardsModel", "has", "(II)Z"⟩, 44) := ⟨⟨by decide +kernel, by decide +kernel⟩, List.mem_of_getElem? (i := 1207) (by decide +kernel), List.mem_of_getElem? (i := 1663) (by decide +kernel), List.mem_of_getElem? (i := 1664) (by decide +kernel)⟩
theorem lw_p75 : lw_okq (⟨"CakeCardsModel", "leftOut", "(II)I"⟩, 44) := ⟨⟨by decide +kernel, by decide +kernel⟩, List.mem_of_getElem? (i := 1207) (by decide +kernel), List.mem_of_getElem? (i := 1674) (by decide +kernel), List.mem_of_getElem? (i := 1675) (by decide +kernel)⟩
theorem lw_p76 : lw_okq (⟨"CakeCardsModel", "lacks", "(II)Z"⟩, 44) := ⟨⟨by decide +kernel, by decide +kernel⟩, List.mem_of_getElem? (i := 1207) (by decide +kernel), List.mem_of_getElem? (i := 1678) (by decide +kernel), List.mem_of_getElem? (i := 1679) (by decide +kernel)⟩
theorem lw_p77 : lw_okq (⟨"CakeCardsModel", "kindOf", "(I)I"⟩, 44) := ⟨⟨by decide +kernel, by decide +kernel⟩, List.mem_of_getElem? (i := 1207) (by decide +kernel), List.mem_of_getElem? (i := 1706) (by decide +kernel), List.mem_of_getElem? (i := 1707) (by decide +kernel)⟩
theorem lw_p78 : lw_okq (⟨"CakeCardsModel", "ownSize", "(II)I"⟩, 44) := ⟨⟨by decide +kernel, by decide +kernel⟩, List.mem_of_getElem? (i := 1207) (by decide +kernel), List.mem_of_getElem? (i := 1722) (by decide +kernel), List.mem_of_getElem? (i := 1723) (by decide +kernel)⟩
theorem lw_p79 : lw_okq (⟨"CakeCardsModel", "marredSize", "(II)I"⟩, 44) := ⟨⟨by decide +kernel, by decide +kernel⟩, List.mem_of_getElem? (i := 1207) (by decide +kernel), List.mem_of_getElem? (i := 1726) (by decide +kernel), List.mem_of_getElem? (i := 1727) (by decide +kernel)⟩
def lw_privs_5 : List (MethodName × Nat) := [(⟨"CakeCardsModel", "isAlike", "(III)Z"⟩, 44), (⟨"CakeCardsModel", "areEnds", "(I)Z"⟩, 44), (⟨"CakeCardsModel", "allTrees", "()I"⟩, 44), (⟨"CakeCardsModel", "seekTrees", "()V"⟩, 44), (⟨"CakeCardsModel", "layTree", "(I)V"⟩, 44), (⟨"CakeCardsModel", "putOn", "(III)V"⟩, 44), (⟨"CakeCardsModel", "changes", "()I"⟩, 44), (⟨"CakeCardsModel", "changesOf", "(I)I"⟩, 44), (⟨"CakeCardsModel", "layValues", "(I)V"⟩, 44), (⟨"CakeCardsModel", "isJoin", "(I)Z"⟩, 44), (⟨"CakeCardsModel", "has", "(II)Z"⟩, 44), (⟨"CakeCardsModel", "leftOut", "(II)I"⟩, 44), (⟨"CakeCardsModel", "lacks", "(II)Z"⟩, 44), (⟨"CakeCardsModel", "kindOf", "(I)I"⟩, 44), (⟨"CakeCardsModel", "ownSize", "(II)I"⟩, 44), (⟨"CakeCardsModel", "marredSize", "(II)I"⟩, 44)]
theorem lw_r5 : ∀ q ∈ lw_privs_5, lw_okq q := List.forall_mem_cons.mpr ⟨lw_p64, List.forall_mem_cons.mpr ⟨lw_p65, List.forall_mem_cons.mpr ⟨lw_p66, List.forall_mem_cons.mpr ⟨lw_p67, List.forall_mem_cons.mpr ⟨lw_p68, List.forall_mem_cons.mpr ⟨lw_p69, List.forall_mem_cons.mpr ⟨lw_p70, List.forall_mem_cons.mpr ⟨lw_p71, List.forall_mem_cons.mpr ⟨lw_p72, List.forall_mem_cons.mpr ⟨lw_p73, List.forall_mem_cons.mpr ⟨lw_p74, List.forall_mem_cons.mpr ⟨lw_p75, List.forall_mem_cons.mpr ⟨lw_p76, List.forall_mem_cons.mpr ⟨lw_p77, List.forall_mem_cons.mpr ⟨lw_p78, List.forall_mem_cons.mpr ⟨lw_p79, fun _ h => absurd h List.not_mem_nil⟩⟩⟩⟩⟩⟩⟩⟩⟩⟩⟩⟩⟩⟩⟩⟩
theorem lw_p80 : lw_okq (⟨"CakeCardsModel", "began", "(I)V"⟩, 44) := ⟨⟨by decide +kernel, by decide +kernel⟩, List.mem_of_getElem? (i := 1207) (by decide +kernel), List.mem_of_getElem? (i := 1730) (by decide +kernel), List.mem_of_getElem? (i := 1731) (by decide +kernel)⟩
theorem lw_p81 : lw_okq (⟨"CakeCardsModel", "things", "(I)I"⟩, 44) := ⟨⟨by decide +kernel, by decide +kernel⟩, List.mem_of_getElem? (i := 1207) (by decide +kernel), List.mem_of_getElem? (i := 1734) (by decide +kernel), List.mem_of_getElem? (i := 1735) (by decide +kernel)⟩
theorem lw_p82 : lw_okq (⟨"CakeCardsModel", "ownMark", "(II)I"⟩, 44) := ⟨⟨by decide +kernel, by decide +kernel⟩, List.mem_of_getElem? (i := 1207) (by decide +kernel), List.mem_of_getElem? (i := 1738) (by decide +kernel), List.mem_of_getElem? (i := 1739) (by decide +kernel)⟩
def lw_privs_6 : List (MethodName × Nat) := [(⟨"CakeCardsModel", "began", "(I)V"⟩, 44), (⟨"CakeCardsModel", "things", "(I)I"⟩, 44), (⟨"CakeCardsModel", "ownMark", "(II)I"⟩, 44)]
theorem lw_r6 : ∀ q ∈ lw_privs_6, lw_okq q := List.forall_mem_cons.mpr ⟨lw_p80, List.forall_mem_cons.mpr ⟨lw_p81, List.forall_mem_cons.mpr ⟨lw_p82, fun _ h => absurd h List.not_mem_nil⟩⟩⟩
def lw_privs : List (MethodName × Nat) := lw_privs_1 ++ (lw_privs_2 ++ (lw_privs_3 ++ (lw_privs_4 ++ (lw_privs_5 ++ (lw_privs_6)))))
def lw_tbl : List Cond := k2_sels lw_privs ++ tables_1
theorem lw_privs_ok : ∀ q ∈ lw_privs, lw_okq q := by
  show ∀ q ∈ lw_privs_1 ++ (lw_privs_2 ++ (lw_privs_3 ++ (lw_privs_4 ++ (lw_privs_5 ++ (lw_privs_6))))), lw_okq q
  exact List.forall_mem_append.mpr ⟨lw_r1, List.forall_mem_append.mpr ⟨lw_r2, List.forall_mem_append.mpr ⟨lw_r3, List.forall_mem_append.mpr ⟨lw_r4, List.forall_mem_append.mpr ⟨lw_r5, lw_r6⟩⟩⟩⟩⟩
def RX0 : String := "CakeCards$Asker"
def TX0 : u_T := fun k => match k with
  | 0 => ("CakeCards$Asker", "trace", "[I", true)
  | 1 => ("CakeCards$Asker", "traced", "I", false)
  | 2 => ("CakeCards$Asker", "number", "I", false)
  | 3 => ("CakeCards$Asker", "kind", "I", false)
  | 4 => ("CakeCards$Asker", "year", "I", false)
  | 5 => ("CakeCards$Asker", "things", "I", false)
  | 6 => ("CakeCards$Asker", "stains", "I", false)
  | _ => ("CakeCards$Asker", "rise", "I", false)
def tyX0 : Nat → FieldType := fun k => match k with
  | 0 => .array .int
  | 1 => .int
  | 2 => .int
  | 3 => .int
  | 4 => .int
  | 5 => .int
  | 6 => .int
  | _ => .int
theorem nmX0 : ∀ a, a < 8 → ∀ b, b < 8 → a ≠ b → (TX0 a).2.1 ≠ (TX0 b).2.1 := by decide +kernel
theorem tyX0_ok : ∀ k, k < 8 → parseFieldDescriptor (TX0 k).2.2.1 = some (tyX0 k) := by decide +kernel
def RX1 : String := "CakeCards$Deck"
def TX1 : u_T := fun k => match k with
  | 0 => ("CakeCards$Deck", "size", "I", false)
  | 1 => ("CakeCards$Deck", "lands", "[I", true)
  | 2 => ("CakeCards$Deck", "years", "[I", true)
  | 3 => ("CakeCards$Deck", "mothers", "[I", true)
  | _ => ("CakeCards$Deck", "marks", "[I", true)
def tyX1 : Nat → FieldType := fun k => match k with
  | 0 => .int
  | 1 => .array .int
  | 2 => .array .int
  | 3 => .array .int
  | _ => .array .int
theorem nmX1 : ∀ a, a < 5 → ∀ b, b < 5 → a ≠ b → (TX1 a).2.1 ≠ (TX1 b).2.1 := by decide +kernel
theorem tyX1_ok : ∀ k, k < 5 → parseFieldDescriptor (TX1 k).2.2.1 = some (tyX1 k) := by decide +kernel
def RX2 : String := "CakeCards$Forest"
def TX2 : u_T := fun k => match k with
  | 0 => ("CakeCards$Forest", "grove", "LCakeCards$Grove;", true)
  | 1 => ("CakeCards$Forest", "ends", "I", false)
  | 2 => ("CakeCards$Forest", "codes", "[I", true)
  | 3 => ("CakeCards$Forest", "parent", "[I", true)
  | 4 => ("CakeCards$Forest", "one", "[I", true)
  | 5 => ("CakeCards$Forest", "other", "[I", true)
  | 6 => ("CakeCards$Forest", "clade", "[I", true)
  | 7 => ("CakeCards$Forest", "order", "[I", true)
  | 8 => ("CakeCards$Forest", "forks", "I", false)
  | 9 => ("CakeCards$Forest", "varying", "[I", true)
  | 10 => ("CakeCards$Forest", "varyings", "I", false)
  | 11 => ("CakeCards$Forest", "changes", "I", false)
  | 12 => ("CakeCards$Forest", "least", "I", false)
  | 13 => ("CakeCards$Forest", "ways", "I", false)
  | 14 => ("CakeCards$Forest", "all", "I", false)
  | 15 => ("CakeCards$Forest", "sureJoins", "J", false)
  | _ => ("CakeCards$Forest", "may", "[I", true)
def tyX2 : Nat → FieldType := fun k => match k with
  | 0 => .object "CakeCards$Grove"
  | 1 => .int
  | 2 => .array .int
  | 3 => .array .int
  | 4 => .array .int
  | 5 => .array .int
  | 6 => .array .int
  | 7 => .array .int
  | 8 => .int
  | 9 => .array .int
  | 10 => .int
  | 11 => .int
  | 12 => .int
  | 13 => .int
  | 14 => .int
  | 15 => .long
  | _ => .array .int
theorem nmX2 : ∀ a, a < 17 → ∀ b, b < 17 → a ≠ b → (TX2 a).2.1 ≠ (TX2 b).2.1 := by decide +kernel
theorem tyX2_ok : ∀ k, k < 17 → parseFieldDescriptor (TX2 k).2.2.1 = some (tyX2 k) := by decide +kernel
def RX3 : String := "CakeCards$Grove"
def TX3 : u_T := fun k => match k with
  | 0 => ("CakeCards$Grove", "ends", "I", false)
  | 1 => ("CakeCards$Grove", "cards", "[I", true)
  | 2 => ("CakeCards$Grove", "values", "[I", true)
  | 3 => ("CakeCards$Grove", "known", "[I", true)
  | _ => ("CakeCards$Grove", "codes", "[I", true)
def tyX3 : Nat → FieldType := fun k => match k with
  | 0 => .int
  | 1 => .array .int
  | 2 => .array .int
  | 3 => .array .int
  | _ => .array .int
theorem nmX3 : ∀ a, a < 5 → ∀ b, b < 5 → a ≠ b → (TX3 a).2.1 ≠ (TX3 b).2.1 := by decide +kernel
theorem tyX3_ok : ∀ k, k < 5 → parseFieldDescriptor (TX3 k).2.2.1 = some (tyX3 k) := by decide +kernel
def RX4 : String := "CakeCards$Household"
def TX4 : u_T := fun k => match k with
  | 0 => ("CakeCards$Household", "kitchen", "LCakeCards$Kitchen;", true)
  | _ => ("CakeCards$Household", "deck", "LCakeCards$Deck;", true)
def tyX4 : Nat → FieldType := fun k => match k with
  | 0 => .object "CakeCards$Kitchen"
  | _ => .object "CakeCards$Deck"
theorem nmX4 : ∀ a, a < 2 → ∀ b, b < 2 → a ≠ b → (TX4 a).2.1 ≠ (TX4 b).2.1 := by decide +kernel
theorem tyX4_ok : ∀ k, k < 2 → parseFieldDescriptor (TX4 k).2.2.1 = some (tyX4 k) := by decide +kernel
def RX5 : String := "CakeCards$Kitchen"
def TX5 : u_T := fun k => match k with
  | 0 => ("CakeCards$Kitchen", "there", "Z", false)
  | 1 => ("CakeCards$Kitchen", "measures", "I", false)
  | 2 => ("CakeCards$Kitchen", "measureOf", "[I", true)
  | 3 => ("CakeCards$Kitchen", "measureLand", "[I", true)
  | 4 => ("CakeCards$Kitchen", "measureYear", "[I", true)
  | 5 => ("CakeCards$Kitchen", "measureGrains", "[I", true)
  | 6 => ("CakeCards$Kitchen", "packets", "I", false)
  | 7 => ("CakeCards$Kitchen", "packetThing", "[I", true)
  | 8 => ("CakeCards$Kitchen", "packetFrom", "[I", true)
  | 9 => ("CakeCards$Kitchen", "packetTill", "[I", true)
  | 10 => ("CakeCards$Kitchen", "lifts", "[I", true)
  | 11 => ("CakeCards$Kitchen", "heat", "I", false)
  | 12 => ("CakeCards$Kitchen", "longs", "I", false)
  | 13 => ("CakeCards$Kitchen", "beat", "I", false)
  | _ => ("CakeCards$Kitchen", "least", "I", false)
def tyX5 : Nat → FieldType := fun k => match k with
  | 0 => .boolean
  | 1 => .int
  | 2 => .array .int
  | 3 => .array .int
  | 4 => .array .int
  | 5 => .array .int
  | 6 => .int
  | 7 => .array .int
  | 8 => .array .int
  | 9 => .array .int
  | 10 => .array .int
  | 11 => .int
  | 12 => .int
  | 13 => .int
  | _ => .int
theorem nmX5 : ∀ a, a < 15 → ∀ b, b < 15 → a ≠ b → (TX5 a).2.1 ≠ (TX5 b).2.1 := by decide +kernel
theorem tyX5_ok : ∀ k, k < 15 → parseFieldDescriptor (TX5 k).2.2.1 = some (tyX5 k) := by decide +kernel
def RX6 : String := "CakeCards$Page"
def TX6 : u_T := fun k => match k with
  | 0 => ("CakeCards$Page", "land", "I", false)
  | 1 => ("CakeCards$Page", "year", "I", false)
  | 2 => ("CakeCards$Page", "marks", "[I", true)
  | 3 => ("CakeCards$Page", "seenThings", "I", false)
  | 4 => ("CakeCards$Page", "seenHeat", "Z", false)
  | _ => ("CakeCards$Page", "seenBeat", "Z", false)
def tyX6 : Nat → FieldType := fun k => match k with
  | 0 => .int
  | 1 => .int
  | 2 => .array .int
  | 3 => .int
  | 4 => .boolean
  | _ => .boolean
theorem nmX6 : ∀ a, a < 6 → ∀ b, b < 6 → a ≠ b → (TX6 a).2.1 ≠ (TX6 b).2.1 := by decide +kernel
theorem tyX6_ok : ∀ k, k < 6 → parseFieldDescriptor (TX6 k).2.2.1 = some (tyX6 k) := by decide +kernel
def RX7 : String := "CakeCards$Shelf"
def TX7 : u_T := fun k => match k with
  | 0 => ("CakeCards$Shelf", "lanes", "[I", true)
  | 1 => ("CakeCards$Shelf", "sizes", "[I", true)
  | _ => ("CakeCards$Shelf", "items", "[I", true)
def tyX7 : Nat → FieldType := fun k => match k with
  | 0 => .array .int
  | 1 => .array .int
  | _ => .array .int
theorem nmX7 : ∀ a, a < 3 → ∀ b, b < 3 → a ≠ b → (TX7 a).2.1 ≠ (TX7 b).2.1 := by decide +kernel
theorem tyX7_ok : ∀ k, k < 3 → parseFieldDescriptor (TX7 k).2.2.1 = some (tyX7 k) := by decide +kernel
def RX8 : String := "CakeCards$Subsets"
def TX8 : u_T := fun k => match k with
  | 0 => ("CakeCards$Subsets", "single", "[I", true)
  | 1 => ("CakeCards$Subsets", "together", "[I", true)
  | 2 => ("CakeCards$Subsets", "first", "I", false)
  | 3 => ("CakeCards$Subsets", "fewest", "I", false)
  | _ => ("CakeCards$Subsets", "ways", "I", false)
def tyX8 : Nat → FieldType := fun k => match k with
  | 0 => .array .int
  | 1 => .array .int
  | 2 => .int
  | 3 => .int
  | _ => .int
theorem nmX8 : ∀ a, a < 5 → ∀ b, b < 5 → a ≠ b → (TX8 a).2.1 ≠ (TX8 b).2.1 := by decide +kernel
theorem tyX8_ok : ∀ k, k < 5 → parseFieldDescriptor (TX8 k).2.2.1 = some (tyX8 k) := by decide +kernel
def RX9 : String := "CakeCards$Tape"
def TX9 : u_T := fun k => match k with
  | 0 => ("CakeCards$Tape", "bytes", "[B", true)
  | 1 => ("CakeCards$Tape", "size", "I", false)
  | 2 => ("CakeCards$Tape", "fault", "I", false)
  | 3 => ("CakeCards$Tape", "place", "I", false)
  | 4 => ("CakeCards$Tape", "failed", "Z", false)
  | 5 => ("CakeCards$Tape", "sort", "I", false)
  | 6 => ("CakeCards$Tape", "start", "I", false)
  | _ => ("CakeCards$Tape", "end", "I", false)
def tyX9 : Nat → FieldType := fun k => match k with
  | 0 => .array .byte
  | 1 => .int
  | 2 => .int
  | 3 => .int
  | 4 => .boolean
  | 5 => .int
  | 6 => .int
  | _ => .int
theorem nmX9 : ∀ a, a < 8 → ∀ b, b < 8 → a ≠ b → (TX9 a).2.1 ≠ (TX9 b).2.1 := by decide +kernel
theorem tyX9_ok : ∀ k, k < 8 → parseFieldDescriptor (TX9 k).2.2.1 = some (tyX9 k) := by decide +kernel
def RX10 : String := "CakeCards"
def TX10 : u_T := fun k => match k with
  | 0 => ("CakeCards", "shelf", "LCakeCards$Shelf;", true)
  | 1 => ("CakeCards", "tape", "LCakeCards$Tape;", true)
  | 2 => ("CakeCards", "now", "LCakeCards$Household;", true)
  | 3 => ("CakeCards", "image0", "LCakeCards$Household;", true)
  | 4 => ("CakeCards", "image1", "LCakeCards$Household;", true)
  | 5 => ("CakeCards", "draft", "LCakeCards$Kitchen;", true)
  | 6 => ("CakeCards", "page", "LCakeCards$Page;", true)
  | 7 => ("CakeCards", "subsets", "LCakeCards$Subsets;", true)
  | 8 => ("CakeCards", "forest", "LCakeCards$Forest;", true)
  | 9 => ("CakeCards", "asker", "LCakeCards$Asker;", true)
  | _ => ("CakeCards", "finding", "I", false)
def tyX10 : Nat → FieldType := fun k => match k with
  | 0 => .object "CakeCards$Shelf"
  | 1 => .object "CakeCards$Tape"
  | 2 => .object "CakeCards$Household"
  | 3 => .object "CakeCards$Household"
  | 4 => .object "CakeCards$Household"
  | 5 => .object "CakeCards$Kitchen"
  | 6 => .object "CakeCards$Page"
  | 7 => .object "CakeCards$Subsets"
  | 8 => .object "CakeCards$Forest"
  | 9 => .object "CakeCards$Asker"
  | _ => .int
theorem nmX10 : ∀ a, a < 11 → ∀ b, b < 11 → a ≠ b → (TX10 a).2.1 ≠ (TX10 b).2.1 := by decide +kernel
theorem tyX10_ok : ∀ k, k < 11 → parseFieldDescriptor (TX10 k).2.2.1 = some (tyX10 k) := by decide +kernel
def RX11 : String := "CakeCardsModel"
def TX11 : u_T := fun k => match k with
  | 0 => ("CakeCardsModel", "thrown", "I", false)
  | 1 => ("CakeCardsModel", "status", "I", false)
  | 2 => ("CakeCardsModel", "lane", "[I", true)
  | 3 => ("CakeCardsModel", "many", "[I", true)
  | 4 => ("CakeCardsModel", "item", "[I", true)
  | 5 => ("CakeCardsModel", "kitchen", "[I", true)
  | 6 => ("CakeCardsModel", "fresh", "[I", true)
  | 7 => ("CakeCardsModel", "isThere", "Z", false)
  | 8 => ("CakeCardsModel", "now", "[I", true)
  | 9 => ("CakeCardsModel", "tape", "[I", true)
  | 10 => ("CakeCardsModel", "taped", "I", false)
  | 11 => ("CakeCardsModel", "latest", "I", false)
  | 12 => ("CakeCardsModel", "length", "I", false)
  | 13 => ("CakeCardsModel", "cursor", "I", false)
  | 14 => ("CakeCardsModel", "token", "I", false)
  | 15 => ("CakeCardsModel", "from", "I", false)
  | 16 => ("CakeCardsModel", "till", "I", false)
  | 17 => ("CakeCardsModel", "fault", "I", false)
  | 18 => ("CakeCardsModel", "faultAt", "I", false)
  | 19 => ("CakeCardsModel", "draft", "[I", true)
  | 20 => ("CakeCardsModel", "had", "I", false)
  | 21 => ("CakeCardsModel", "least", "I", false)
  | 22 => ("CakeCardsModel", "leastMany", "I", false)
  | 23 => ("CakeCardsModel", "leastOne", "I", false)
  | 24 => ("CakeCardsModel", "ends", "[I", true)
  | 25 => ("CakeCardsModel", "endMany", "I", false)
  | 26 => ("CakeCardsModel", "below", "[I", true)
  | 27 => ("CakeCardsModel", "left", "[I", true)
  | 28 => ("CakeCardsModel", "right", "[I", true)
  | 29 => ("CakeCardsModel", "top", "I", false)
  | 30 => ("CakeCardsModel", "above", "[I", true)
  | 31 => ("CakeCardsModel", "may", "[I", true)
  | 32 => ("CakeCardsModel", "value", "[I", true)
  | 33 => ("CakeCardsModel", "values", "I", false)
  | 34 => ("CakeCardsModel", "fewest", "I", false)
  | 35 => ("CakeCardsModel", "fewestMany", "I", false)
  | 36 => ("CakeCardsModel", "isLeast", "[Z", true)
  | 37 => ("CakeCardsModel", "isSure", "[Z", true)
  | 38 => ("CakeCardsModel", "near", "[I", true)
  | 39 => ("CakeCardsModel", "isKept", "[Z", true)
  | 40 => ("CakeCardsModel", "keptKitchen", "[I", true)
  | 41 => ("CakeCardsModel", "keptNow", "[I", true)
  | 42 => ("CakeCardsModel", "trace", "[I", true)
  | _ => ("CakeCardsModel", "traced", "I", false)
def tyX11 : Nat → FieldType := fun k => match k with
  | 0 => .int
  | 1 => .int
  | 2 => .array .int
  | 3 => .array .int
  | 4 => .array .int
  | 5 => .array .int
  | 6 => .array .int
  | 7 => .boolean
  | 8 => .array .int
  | 9 => .array .int
  | 10 => .int
  | 11 => .int
  | 12 => .int
  | 13 => .int
  | 14 => .int
  | 15 => .int
  | 16 => .int
  | 17 => .int
  | 18 => .int
  | 19 => .array .int
  | 20 => .int
  | 21 => .int
  | 22 => .int
  | 23 => .int
  | 24 => .array .int
  | 25 => .int
  | 26 => .array .int
  | 27 => .array .int
  | 28 => .array .int
  | 29 => .int
  | 30 => .array .int
  | 31 => .array .int
  | 32 => .array .int
  | 33 => .int
  | 34 => .int
  | 35 => .int
  | 36 => .array .boolean
  | 37 => .array .boolean
  | 38 => .array .int
  | 39 => .array .boolean
  | 40 => .array .int
  | 41 => .array .int
  | 42 => .array .int
  | _ => .int
theorem nmX11 : ∀ a, a < 44 → ∀ b, b < 44 → a ≠ b → (TX11 a).2.1 ≠ (TX11 b).2.1 := by decide +kernel
theorem tyX11_ok : ∀ k, k < 44 → parseFieldDescriptor (TX11 k).2.2.1 = some (tyX11 k) := by decide +kernel
abbrev vwCl : List vw_C := [(RX0, TX0, 8), (RX1, TX1, 5), (RX2, TX2, 17), (RX3, TX3, 5), (RX4, TX4, 2), (RX5, TX5, 15), (RX6, TX6, 6), (RX7, TX7, 3), (RX8, TX8, 5), (RX9, TX9, 8), (RX10, TX10, 11), (RX11, TX11, 44)]
/-- the names by number: the twelve whose objects the worlds hold, the law, two of the JDK -/
def ax_cn (k : Nat) : String := [RX0, RX1, RX2, RX3, RX4, RX5, RX6, RX7, RX8, RX9, RX10, RX11, "CakeCardsLaw", "java/lang/Integer", "java/util/Arrays"].getD k ""
/-- a method: name, bytes, how many places, what it answers, whose it is, static, parameters, and the places of its words: code, kind, selects, initialized -/
abbrev ax_R : Type := MethodName × ByteArray × Nat × Option FieldType × Nat × Bool × Nat × Nat × Nat × Nat × Nat
def ax_M0 : List ax_R := [
  (⟨RX10, "<init>", "()V"⟩, prog_1_method_1_code, 1, (Option.none : Option FieldType), 10, false, 0, 108, 107, 9999, 84),
  (⟨RX7, "<init>", "()V"⟩, prog_9_method_1_code, 1, (Option.none : Option FieldType), 7, false, 0, 116, 115, 9999, 85),
  (⟨"java/util/Arrays", "fill", "([II)V"⟩, prog_20_method_103_code, 4, (Option.none : Option FieldType), 14, true, 2, 120, 119, 9999, 86),
  (⟨RX9, "<init>", "()V"⟩, prog_11_method_1_code, 1, (Option.none : Option FieldType), 9, false, 0, 136, 135, 9999, 87),
  (⟨RX4, "<init>", "()V"⟩, prog_6_method_1_code, 1, (Option.none : Option FieldType), 4, false, 0, 168, 167, 9999, 88),
  (⟨RX5, "<init>", "()V"⟩, prog_7_method_1_code, 1, (Option.none : Option FieldType), 5, false, 0, 174, 173, 9999, 89),
  (⟨RX1, "<init>", "()V"⟩, prog_3_method_1_code, 1, (Option.none : Option FieldType), 1, false, 0, 226, 225, 9999, 90),
  (⟨RX6, "<init>", "()V"⟩, prog_8_method_1_code, 1, (Option.none : Option FieldType), 6, false, 0, 262, 261, 9999, 91),
  (⟨RX8, "<init>", "()V"⟩, prog_10_method_1_code, 1, (Option.none : Option FieldType), 8, false, 0, 287, 286, 9999, 92),
  (⟨RX2, "<init>", "()V"⟩, prog_4_method_1_code, 1, (Option.none : Option FieldType), 2, false, 0, 309, 308, 9999, 93),
  (⟨RX3, "<init>", "()V"⟩, prog_5_method_1_code, 1, (Option.none : Option FieldType), 3, false, 0, 315, 314, 9999, 94),
  (⟨RX0, "<init>", "()V"⟩, prog_2_method_1_code, 1, (Option.none : Option FieldType), 0, false, 0, 389, 388, 9999, 95),
  (⟨RX10, "row", "(III)J"⟩, prog_1_method_2_code, 4, (Option.some FieldType.long), 10, false, 3, 453, 451, 452, 84),
  (⟨RX10, "isRow", "(I)Z"⟩, prog_1_method_42_code, 1, (Option.some FieldType.boolean), 10, true, 1, 456, 455, 9999, 84),
  (⟨RX10, "found", "(I)J"⟩, prog_1_method_38_code, 2, (Option.some FieldType.long), 10, false, 1, 461, 460, 0, 84),
  (⟨RX7, "lay", "(III)V"⟩, prog_9_method_6_code, 5, (Option.none : Option FieldType), 7, false, 3, 466, 464, 465, 85),
  (⟨RX10, "clean", "(J)J"⟩, prog_1_method_39_code, 3, (Option.some FieldType.long), 10, false, 1, 471, 470, 1, 84),
  (⟨RX10, "set", "(III)J"⟩, prog_1_method_3_code, 4, (Option.some FieldType.long), 10, false, 3, 475, 473, 474, 84),
  (⟨RX7, "isMissing", "(I)Z"⟩, prog_9_method_4_code, 2, (Option.some FieldType.boolean), 7, false, 1, 479, 477, 478, 85),
  (⟨RX7, "sizeOf", "(I)I"⟩, prog_9_method_2_code, 2, (Option.some FieldType.int), 7, false, 1, 483, 481, 482, 85),
  (⟨RX7, "spans", "(III)Z"⟩, prog_9_method_5_code, 4, (Option.some FieldType.boolean), 7, false, 3, 487, 485, 486, 85),
  (⟨RX7, "put", "(III)I"⟩, prog_9_method_7_code, 6, (Option.some FieldType.int), 7, false, 3, 491, 489, 490, 85),
  (⟨RX10, "copy", "(IIIII)J"⟩, prog_1_method_4_code, 6, (Option.some FieldType.long), 10, false, 5, 496, 494, 495, 84),
  (⟨RX7, "laneOf", "(I)I"⟩, prog_9_method_3_code, 2, (Option.some FieldType.int), 7, false, 1, 500, 498, 499, 85),
  (⟨RX7, "carry", "(IIIII)V"⟩, prog_9_method_9_code, 6, (Option.none : Option FieldType), 7, false, 5, 504, 502, 503, 85),
  (⟨RX10, "drop", "(I)J"⟩, prog_1_method_5_code, 2, (Option.some FieldType.long), 10, false, 1, 511, 509, 510, 84),
  (⟨RX7, "remove", "(I)I"⟩, prog_9_method_10_code, 3, (Option.some FieldType.int), 7, false, 1, 515, 513, 514, 85),
  (⟨RX10, "feed", "(JI)J"⟩, prog_1_method_6_code, 4, (Option.some FieldType.long), 10, false, 2, 519, 517, 518, 84)]
def ax_M1 : List ax_R := [
  (⟨RX9, "hasRoom", "(I)Z"⟩, prog_11_method_3_code, 2, (Option.some FieldType.boolean), 9, false, 1, 523, 521, 522, 87),
  (⟨RX9, "append", "(JI)I"⟩, prog_11_method_4_code, 5, (Option.some FieldType.int), 9, false, 2, 528, 526, 527, 87),
  (⟨RX10, "kitchen", "()J"⟩, prog_1_method_7_code, 2, (Option.some FieldType.long), 10, false, 0, 532, 530, 531, 84),
  (⟨RX5, "readFrom", "(LCakeCards$Tape;)Z"⟩, prog_7_method_7_code, 3, (Option.some FieldType.boolean), 5, false, 1, 536, 534, 535, 89),
  (⟨RX9, "begin", "()V"⟩, prog_11_method_9_code, 1, (Option.none : Option FieldType), 9, false, 0, 540, 538, 539, 87),
  (⟨RX9, "step", "()V"⟩, prog_11_method_14_code, 2, (Option.none : Option FieldType), 9, false, 0, 544, 543, 2, 87),
  (⟨RX9, "byteAt", "(I)I"⟩, prog_11_method_10_code, 2, (Option.some FieldType.int), 9, false, 1, 548, 547, 3, 87),
  (⟨RX9, "isBlank", "(I)Z"⟩, prog_11_method_11_code, 1, (Option.some FieldType.boolean), 9, true, 1, 551, 550, 9999, 87),
  (⟨RX9, "isLetter", "(I)Z"⟩, prog_11_method_12_code, 1, (Option.some FieldType.boolean), 9, true, 1, 554, 553, 9999, 87),
  (⟨RX9, "isFigure", "(I)Z"⟩, prog_11_method_13_code, 1, (Option.some FieldType.boolean), 9, true, 1, 557, 556, 9999, 87),
  (⟨RX9, "isAtName", "(Ljava/lang/String;)Z"⟩, prog_11_method_18_code, 3, (Option.some FieldType.boolean), 9, false, 1, 562, 560, 561, 87),
  (⟨RX5, "readMeasure", "(LCakeCards$Tape;)V"⟩, prog_7_method_8_code, 2, (Option.none : Option FieldType), 5, false, 1, 614, 613, 4, 89),
  (⟨RX9, "blameHere", "(I)V"⟩, prog_11_method_16_code, 2, (Option.none : Option FieldType), 9, false, 1, 618, 616, 617, 87),
  (⟨RX9, "passName", "(Ljava/lang/String;)V"⟩, prog_11_method_21_code, 2, (Option.none : Option FieldType), 9, false, 1, 622, 620, 621, 87),
  (⟨RX9, "pass", "(Z)V"⟩, prog_11_method_20_code, 2, (Option.none : Option FieldType), 9, false, 1, 627, 626, 5, 87),
  (⟨RX9, "passNumber", "(II)I"⟩, prog_11_method_24_code, 4, (Option.some FieldType.int), 9, false, 2, 632, 630, 631, 87),
  (⟨RX9, "numberHere", "(II)I"⟩, prog_11_method_25_code, 4, (Option.some FieldType.int), 9, false, 2, 636, 634, 635, 87),
  (⟨RX9, "valueHere", "()I"⟩, prog_11_method_15_code, 3, (Option.some FieldType.int), 9, false, 0, 640, 639, 6, 87),
  (⟨RX9, "passStop", "()V"⟩, prog_11_method_22_code, 1, (Option.none : Option FieldType), 9, false, 0, 644, 642, 643, 87),
  (⟨RX9, "isAtSign", "(I)Z"⟩, prog_11_method_19_code, 2, (Option.some FieldType.boolean), 9, false, 1, 648, 647, 7, 87),
  (⟨RX5, "readPacket", "(LCakeCards$Tape;)V"⟩, prog_7_method_9_code, 2, (Option.none : Option FieldType), 5, false, 1, 653, 652, 8, 89),
  (⟨RX5, "readRise", "(LCakeCards$Tape;)V"⟩, prog_7_method_10_code, 3, (Option.none : Option FieldType), 5, false, 1, 657, 656, 9, 89),
  (⟨RX9, "passEnd", "()V"⟩, prog_11_method_23_code, 1, (Option.none : Option FieldType), 9, false, 0, 662, 660, 661, 87),
  (⟨RX9, "isAtEnd", "()Z"⟩, prog_11_method_17_code, 1, (Option.some FieldType.boolean), 9, false, 0, 666, 664, 665, 87),
  (⟨RX9, "hasFailed", "()Z"⟩, prog_11_method_8_code, 1, (Option.some FieldType.boolean), 9, false, 0, 670, 668, 669, 87),
  (⟨RX9, "clear", "()V"⟩, prog_11_method_5_code, 1, (Option.none : Option FieldType), 9, false, 0, 674, 672, 673, 87),
  (⟨RX9, "faultPlace", "()I"⟩, prog_11_method_7_code, 1, (Option.some FieldType.int), 9, false, 0, 679, 677, 678, 87),
  (⟨RX5, "become", "(LCakeCards$Kitchen;)V"⟩, prog_7_method_6_code, 2, (Option.none : Option FieldType), 5, false, 1, 683, 681, 682, 89)]
def ax_M2 : List ax_R := [
  (⟨RX1, "clear", "()V"⟩, prog_3_method_5_code, 1, (Option.none : Option FieldType), 1, false, 0, 688, 686, 687, 90),
  (⟨RX5, "measures", "()I"⟩, prog_7_method_3_code, 1, (Option.some FieldType.int), 5, false, 0, 692, 690, 691, 89),
  (⟨RX5, "packets", "()I"⟩, prog_7_method_4_code, 1, (Option.some FieldType.int), 5, false, 0, 696, 694, 695, 89),
  (⟨RX10, "card", "()J"⟩, prog_1_method_8_code, 2, (Option.some FieldType.long), 10, false, 0, 700, 698, 699, 84),
  (⟨RX5, "isThere", "()Z"⟩, prog_7_method_2_code, 1, (Option.some FieldType.boolean), 5, false, 0, 704, 702, 703, 89),
  (⟨RX1, "isFull", "()Z"⟩, prog_3_method_3_code, 1, (Option.some FieldType.boolean), 1, false, 0, 709, 707, 708, 90),
  (⟨RX6, "readFrom", "(LCakeCards$Tape;LCakeCards$Kitchen;)Z"⟩, prog_8_method_6_code, 4, (Option.some FieldType.boolean), 6, false, 2, 713, 711, 712, 91),
  (⟨RX6, "begin", "(II)V"⟩, prog_8_method_2_code, 3, (Option.none : Option FieldType), 6, false, 2, 717, 715, 716, 91),
  (⟨RX6, "readLine", "(LCakeCards$Tape;LCakeCards$Kitchen;)V"⟩, prog_8_method_7_code, 3, (Option.none : Option FieldType), 6, false, 2, 729, 728, 10, 91),
  (⟨RX6, "readAdd", "(LCakeCards$Tape;LCakeCards$Kitchen;)V"⟩, prog_8_method_8_code, 6, (Option.none : Option FieldType), 6, false, 2, 735, 734, 11, 91),
  (⟨RX9, "passMark", "(II)I"⟩, prog_11_method_26_code, 3, (Option.some FieldType.int), 9, false, 2, 741, 739, 740, 87),
  (⟨RX10, "isThing", "(I)Z"⟩, prog_1_method_45_code, 1, (Option.some FieldType.boolean), 10, true, 1, 746, 745, 9999, 84),
  (⟨RX5, "grainsOf", "(III)I"⟩, prog_7_method_11_code, 8, (Option.some FieldType.int), 5, false, 3, 751, 749, 750, 89),
  (⟨RX6, "readHeat", "(LCakeCards$Tape;)V"⟩, prog_8_method_9_code, 2, (Option.none : Option FieldType), 6, false, 1, 756, 755, 12, 91),
  (⟨RX6, "readBeat", "(LCakeCards$Tape;)V"⟩, prog_8_method_10_code, 2, (Option.none : Option FieldType), 6, false, 1, 761, 760, 13, 91),
  (⟨RX1, "add", "(LCakeCards$Page;I)I"⟩, prog_3_method_7_code, 5, (Option.some FieldType.int), 1, false, 2, 767, 765, 766, 90),
  (⟨RX6, "land", "()I"⟩, prog_8_method_3_code, 1, (Option.some FieldType.int), 6, false, 0, 773, 771, 772, 91),
  (⟨RX6, "year", "()I"⟩, prog_8_method_4_code, 1, (Option.some FieldType.int), 6, false, 0, 777, 775, 776, 91),
  (⟨RX6, "valueOf", "(I)I"⟩, prog_8_method_5_code, 2, (Option.some FieldType.int), 6, false, 1, 781, 779, 780, 91),
  (⟨RX10, "isMark", "(I)Z"⟩, prog_1_method_46_code, 1, (Option.some FieldType.boolean), 10, true, 1, 784, 783, 9999, 84),
  (⟨RX1, "putMark", "(III)V"⟩, prog_3_method_12_code, 4, (Option.none : Option FieldType), 1, false, 3, 788, 786, 787, 90),
  (⟨RX1, "has", "(I)Z"⟩, prog_3_method_4_code, 2, (Option.some FieldType.boolean), 1, false, 1, 792, 790, 791, 90),
  (⟨RX10, "fault", "()I"⟩, prog_1_method_9_code, 1, (Option.some FieldType.int), 10, false, 0, 797, 795, 796, 84),
  (⟨RX9, "latestFault", "()I"⟩, prog_11_method_6_code, 1, (Option.some FieldType.int), 9, false, 0, 801, 799, 800, 87),
  (⟨RX10, "told", "(IIIII)J"⟩, prog_1_method_10_code, 6, (Option.some FieldType.long), 10, false, 5, 805, 803, 804, 84),
  (⟨RX10, "isLand", "(I)Z"⟩, prog_1_method_43_code, 1, (Option.some FieldType.boolean), 10, true, 1, 808, 807, 9999, 84),
  (⟨RX10, "isYear", "(I)Z"⟩, prog_1_method_44_code, 1, (Option.some FieldType.boolean), 10, true, 1, 811, 810, 9999, 84),
  (⟨RX1, "mayBeMother", "(II)Z"⟩, prog_3_method_13_code, 3, (Option.some FieldType.boolean), 1, false, 2, 815, 813, 814, 90)]
def ax_M3 : List ax_R := [
  (⟨RX1, "yearOf", "(I)I"⟩, prog_3_method_9_code, 2, (Option.some FieldType.int), 1, false, 1, 819, 817, 818, 90),
  (⟨RX6, "takeItems", "(LCakeCards$Shelf;II)Z"⟩, prog_8_method_11_code, 6, (Option.some FieldType.boolean), 6, false, 3, 824, 822, 823, 91),
  (⟨RX7, "itemAt", "(II)I"⟩, prog_9_method_8_code, 3, (Option.some FieldType.int), 7, false, 2, 828, 826, 827, 85),
  (⟨RX6, "mostOf", "(I)I"⟩, prog_8_method_12_code, 1, (Option.some FieldType.int), 6, true, 1, 831, 830, 9999, 91),
  (⟨RX10, "copied", "(IIIIII)J"⟩, prog_1_method_11_code, 7, (Option.some FieldType.long), 10, false, 6, 835, 833, 834, 84),
  (⟨RX6, "takeMarks", "(LCakeCards$Deck;I)V"⟩, prog_8_method_13_code, 4, (Option.none : Option FieldType), 6, false, 2, 842, 840, 841, 91),
  (⟨RX1, "markAt", "(II)I"⟩, prog_3_method_11_code, 3, (Option.some FieldType.int), 1, false, 2, 846, 844, 845, 90),
  (⟨RX6, "applyLaw", "(III)Z"⟩, prog_8_method_14_code, 4, (Option.some FieldType.boolean), 6, false, 3, 850, 848, 849, 91),
  (⟨RX10, "mark", "(II)J"⟩, prog_1_method_12_code, 3, (Option.some FieldType.long), 10, false, 2, 860, 858, 859, 84),
  (⟨RX10, "of", "(II)J"⟩, prog_1_method_13_code, 3, (Option.some FieldType.long), 10, false, 2, 866, 864, 865, 84),
  (⟨RX1, "landOf", "(I)I"⟩, prog_3_method_8_code, 2, (Option.some FieldType.int), 1, false, 1, 870, 868, 869, 90),
  (⟨RX1, "motherOf", "(I)I"⟩, prog_3_method_10_code, 2, (Option.some FieldType.int), 1, false, 1, 874, 872, 873, 90),
  (⟨RX1, "stainsOf", "(I)I"⟩, prog_3_method_14_code, 4, (Option.some FieldType.int), 1, false, 1, 878, 876, 877, 90),
  (⟨RX1, "daughtersOf", "(I)I"⟩, prog_3_method_16_code, 4, (Option.some FieldType.int), 1, false, 1, 883, 881, 882, 90),
  (⟨RX10, "stain", "(II)J"⟩, prog_1_method_14_code, 3, (Option.some FieldType.long), 10, false, 2, 888, 886, 887, 84),
  (⟨RX10, "grains", "(III)J"⟩, prog_1_method_15_code, 4, (Option.some FieldType.long), 10, false, 3, 893, 891, 892, 84),
  (⟨RX10, "unlike", "(II)J"⟩, prog_1_method_16_code, 3, (Option.some FieldType.long), 10, false, 2, 898, 896, 897, 84),
  (⟨RX1, "apart", "(II)I"⟩, prog_3_method_19_code, 5, (Option.some FieldType.int), 1, false, 2, 902, 900, 901, 90),
  (⟨RX1, "isUnlike", "(III)Z"⟩, prog_3_method_18_code, 6, (Option.some FieldType.boolean), 1, false, 3, 906, 904, 905, 90),
  (⟨RX10, "baked", "(II)J"⟩, prog_1_method_17_code, 3, (Option.some FieldType.long), 10, false, 2, 910, 908, 909, 84),
  (⟨RX4, "riseOf", "(I)I"⟩, prog_6_method_3_code, 4, (Option.some FieldType.int), 4, false, 1, 914, 912, 913, 88),
  (⟨RX5, "liftOf", "(II)I"⟩, prog_7_method_12_code, 4, (Option.some FieldType.int), 5, false, 2, 919, 917, 918, 89),
  (⟨RX4, "sinks", "(I)Z"⟩, prog_6_method_4_code, 2, (Option.some FieldType.boolean), 4, false, 1, 929, 927, 928, 88),
  (⟨RX5, "least", "()I"⟩, prog_7_method_5_code, 1, (Option.some FieldType.int), 5, false, 0, 934, 932, 933, 89),
  (⟨RX10, "blame", "(III)J"⟩, prog_1_method_18_code, 4, (Option.some FieldType.long), 10, false, 3, 938, 936, 937, 84),
  (⟨RX8, "findBlame", "(LCakeCards$Household;II)V"⟩, prog_10_method_6_code, 8, (Option.none : Option FieldType), 8, false, 3, 942, 940, 941, 92),
  (⟨RX8, "begin", "()V"⟩, prog_10_method_4_code, 1, (Option.none : Option FieldType), 8, false, 0, 946, 945, 14, 92),
  (⟨"java/lang/Integer", "numberOfTrailingZeros", "(I)I"⟩, prog_14_method_48_code, 2, (Option.some FieldType.int), 13, true, 1, 955, 954, 9999, 103)]
def ax_M4 : List ax_R := [
  (⟨RX8, "take", "(I)V"⟩, prog_10_method_5_code, 3, (Option.none : Option FieldType), 8, false, 1, 960, 959, 15, 92),
  (⟨"java/lang/Integer", "bitCount", "(I)I"⟩, prog_14_method_49_code, 1, (Option.some FieldType.int), 13, true, 1, 963, 962, 9999, 103),
  (⟨RX8, "ways", "()I"⟩, prog_10_method_3_code, 1, (Option.some FieldType.int), 8, false, 0, 970, 968, 969, 92),
  (⟨RX8, "firstSet", "()I"⟩, prog_10_method_2_code, 1, (Option.some FieldType.int), 8, false, 0, 975, 973, 974, 92),
  (⟨RX10, "mothers", "(I)J"⟩, prog_1_method_19_code, 2, (Option.some FieldType.long), 10, false, 1, 980, 978, 979, 84),
  (⟨RX1, "size", "()I"⟩, prog_3_method_2_code, 1, (Option.some FieldType.int), 1, false, 0, 984, 982, 983, 90),
  (⟨RX1, "leastChanges", "()I"⟩, prog_3_method_22_code, 4, (Option.some FieldType.int), 1, false, 0, 988, 986, 987, 90),
  (⟨RX1, "nearestMother", "(I)I"⟩, prog_3_method_21_code, 5, (Option.some FieldType.int), 1, false, 1, 992, 990, 991, 90),
  (⟨RX1, "isEarlier", "(II)Z"⟩, prog_3_method_20_code, 5, (Option.some FieldType.boolean), 1, false, 2, 996, 995, 16, 90),
  (⟨RX1, "leastRows", "()J"⟩, prog_3_method_23_code, 5, (Option.some FieldType.long), 1, false, 0, 1001, 999, 1000, 90),
  (⟨RX1, "asNear", "(II)I"⟩, prog_3_method_24_code, 5, (Option.some FieldType.int), 1, false, 2, 1005, 1004, 17, 90),
  (⟨RX10, "mother", "(I)J"⟩, prog_1_method_20_code, 2, (Option.some FieldType.long), 10, false, 1, 1009, 1007, 1008, 84),
  (⟨RX10, "two", "(II)J"⟩, prog_1_method_21_code, 3, (Option.some FieldType.long), 10, false, 2, 1014, 1012, 1013, 84),
  (⟨RX1, "costOfTwo", "(II)I"⟩, prog_3_method_25_code, 9, (Option.some FieldType.int), 1, false, 2, 1018, 1016, 1017, 90),
  (⟨RX1, "costOfPair", "(III)I"⟩, prog_3_method_26_code, 7, (Option.some FieldType.int), 1, false, 3, 1022, 1021, 18, 90),
  (⟨RX10, "trees", "(II)J"⟩, prog_1_method_22_code, 3, (Option.some FieldType.long), 10, false, 2, 1026, 1024, 1025, 84),
  (⟨RX10, "isGrove", "(I)Z"⟩, prog_1_method_41_code, 3, (Option.some FieldType.boolean), 10, false, 1, 1030, 1029, 19, 84),
  (⟨RX2, "grow", "(LCakeCards$Deck;I)V"⟩, prog_4_method_5_code, 4, (Option.none : Option FieldType), 2, false, 2, 1034, 1032, 1033, 93),
  (⟨RX3, "gather", "(LCakeCards$Deck;I)V"⟩, prog_5_method_3_code, 5, (Option.none : Option FieldType), 3, false, 2, 1038, 1036, 1037, 94),
  (⟨RX3, "meet", "(II)V"⟩, prog_5_method_4_code, 7, (Option.none : Option FieldType), 3, false, 2, 1044, 1043, 20, 94),
  (⟨RX3, "encode", "(II)I"⟩, prog_5_method_5_code, 5, (Option.some FieldType.int), 3, false, 2, 1049, 1048, 21, 94),
  (⟨RX2, "plantEnds", "()Z"⟩, prog_4_method_6_code, 6, (Option.some FieldType.boolean), 2, false, 0, 1053, 1052, 22, 93),
  (⟨RX3, "ends", "()I"⟩, prog_5_method_2_code, 1, (Option.some FieldType.int), 3, false, 0, 1057, 1055, 1056, 94),
  (⟨RX2, "leafOf", "(I)I"⟩, prog_4_method_7_code, 1, (Option.some FieldType.int), 2, true, 1, 1060, 1059, 9999, 93),
  (⟨RX3, "codeAt", "(II)I"⟩, prog_5_method_6_code, 3, (Option.some FieldType.int), 3, false, 2, 1064, 1062, 1063, 94),
  (⟨RX2, "sortMarks", "()V"⟩, prog_4_method_8_code, 5, (Option.none : Option FieldType), 2, false, 0, 1069, 1068, 23, 93),
  (⟨RX2, "build", "(I)V"⟩, prog_4_method_9_code, 5, (Option.none : Option FieldType), 2, false, 1, 1073, 1072, 24, 93),
  (⟨RX2, "graft", "(II)V"⟩, prog_4_method_10_code, 6, (Option.none : Option FieldType), 2, false, 2, 1078, 1077, 25, 93)]
def ax_M5 : List ax_R := [
  (⟨RX2, "countChanges", "()V"⟩, prog_4_method_11_code, 7, (Option.none : Option FieldType), 2, false, 0, 1082, 1081, 26, 93),
  (⟨RX2, "compare", "()V"⟩, prog_4_method_12_code, 5, (Option.none : Option FieldType), 2, false, 0, 1086, 1085, 27, 93),
  (⟨RX2, "joins", "()J"⟩, prog_4_method_13_code, 5, (Option.some FieldType.long), 2, false, 0, 1091, 1090, 28, 93),
  (⟨RX2, "leastChanges", "()I"⟩, prog_4_method_2_code, 1, (Option.some FieldType.int), 2, false, 0, 1095, 1093, 1094, 93),
  (⟨RX2, "leastTrees", "()I"⟩, prog_4_method_3_code, 1, (Option.some FieldType.int), 2, false, 0, 1099, 1097, 1098, 93),
  (⟨RX2, "allTrees", "()I"⟩, prog_4_method_4_code, 1, (Option.some FieldType.int), 2, false, 0, 1103, 1101, 1102, 93),
  (⟨RX10, "sure", "(II)J"⟩, prog_1_method_23_code, 3, (Option.some FieldType.long), 10, false, 2, 1107, 1105, 1106, 84),
  (⟨RX2, "sureJoin", "(I)J"⟩, prog_4_method_14_code, 4, (Option.some FieldType.long), 2, false, 1, 1111, 1109, 1110, 93),
  (⟨RX3, "cardsOf", "(I)I"⟩, prog_5_method_8_code, 4, (Option.some FieldType.int), 3, false, 1, 1115, 1113, 1114, 94),
  (⟨RX10, "first", "(III)J"⟩, prog_1_method_24_code, 4, (Option.some FieldType.long), 10, false, 3, 1120, 1118, 1119, 84),
  (⟨RX2, "firstValue", "(II)J"⟩, prog_4_method_15_code, 5, (Option.some FieldType.long), 2, false, 2, 1124, 1122, 1123, 93),
  (⟨RX3, "valueAt", "(II)I"⟩, prog_5_method_7_code, 3, (Option.some FieldType.int), 3, false, 2, 1129, 1127, 1128, 94),
  (⟨RX10, "years", "(II)J"⟩, prog_1_method_25_code, 5, (Option.some FieldType.long), 10, false, 2, 1133, 1131, 1132, 84),
  (⟨RX4, "latestFrom", "(I)I"⟩, prog_6_method_6_code, 4, (Option.some FieldType.int), 4, false, 1, 1137, 1135, 1136, 88),
  (⟨RX5, "latestFrom", "(I)I"⟩, prog_7_method_13_code, 4, (Option.some FieldType.int), 5, false, 1, 1142, 1140, 1141, 89),
  (⟨RX4, "earliestTill", "(I)I"⟩, prog_6_method_7_code, 4, (Option.some FieldType.int), 4, false, 1, 1148, 1146, 1147, 88),
  (⟨RX5, "earliestTill", "(I)I"⟩, prog_7_method_14_code, 4, (Option.some FieldType.int), 5, false, 1, 1152, 1150, 1151, 89),
  (⟨RX10, "left", "(II)J"⟩, prog_1_method_26_code, 3, (Option.some FieldType.long), 10, false, 2, 1157, 1155, 1156, 84),
  (⟨RX1, "leftOut", "(II)I"⟩, prog_3_method_27_code, 7, (Option.some FieldType.int), 1, false, 2, 1161, 1159, 1160, 90),
  (⟨RX10, "chance", "(III)J"⟩, prog_1_method_27_code, 8, (Option.some FieldType.long), 10, false, 3, 1165, 1163, 1164, 84),
  (⟨RX10, "mend", "(IIII)J"⟩, prog_1_method_28_code, 5, (Option.some FieldType.long), 10, false, 4, 1169, 1167, 1168, 84),
  (⟨RX1, "mendFrom", "(IIII)I"⟩, prog_3_method_28_code, 8, (Option.some FieldType.int), 1, false, 4, 1173, 1171, 1172, 90),
  (⟨RX1, "agreed", "(III)I"⟩, prog_3_method_29_code, 3, (Option.some FieldType.int), 1, true, 3, 1176, 1175, 9999, 90),
  (⟨RX10, "book", "(I)J"⟩, prog_1_method_29_code, 2, (Option.some FieldType.long), 10, false, 1, 1180, 1178, 1179, 84),
  (⟨RX8, "findBook", "(LCakeCards$Deck;I)V"⟩, prog_10_method_7_code, 7, (Option.none : Option FieldType), 8, false, 2, 1184, 1182, 1183, 92),
  (⟨RX8, "nearTo", "(LCakeCards$Deck;II)I"⟩, prog_10_method_8_code, 5, (Option.some FieldType.int), 8, true, 3, 1188, 1187, 9999, 92),
  (⟨RX10, "image", "(I)J"⟩, prog_1_method_30_code, 2, (Option.some FieldType.long), 10, false, 1, 1193, 1191, 1192, 84),
  (⟨RX10, "imageOf", "(I)LCakeCards$Household;"⟩, prog_1_method_40_code, 2, (Option.some (FieldType.object "CakeCards$Household")), 10, false, 1, 1197, 1196, 29, 84)]
def ax_M6 : List ax_R := [
  (⟨RX4, "become", "(LCakeCards$Household;)V"⟩, prog_6_method_2_code, 2, (Option.none : Option FieldType), 4, false, 1, 1201, 1199, 1200, 88),
  (⟨RX1, "become", "(LCakeCards$Deck;)V"⟩, prog_3_method_6_code, 2, (Option.none : Option FieldType), 1, false, 1, 1206, 1204, 1205, 90),
  (⟨RX10, "restore", "(I)J"⟩, prog_1_method_31_code, 2, (Option.some FieldType.long), 10, false, 1, 1211, 1209, 1210, 84),
  (⟨RX10, "kind", "(I)J"⟩, prog_1_method_32_code, 2, (Option.some FieldType.long), 10, false, 1, 1215, 1213, 1214, 84),
  (⟨RX4, "kindOf", "(I)I"⟩, prog_6_method_5_code, 3, (Option.some FieldType.int), 4, false, 1, 1219, 1217, 1218, 88),
  (⟨RX10, "as", "(II)J"⟩, prog_1_method_33_code, 3, (Option.some FieldType.long), 10, false, 2, 1227, 1225, 1226, 84),
  (⟨RX10, "isAlso", "(II)Z"⟩, prog_1_method_47_code, 2, (Option.some FieldType.boolean), 10, true, 2, 1230, 1229, 9999, 84),
  (⟨RX10, "ask", "(II)J"⟩, prog_1_method_34_code, 3, (Option.some FieldType.long), 10, false, 2, 1234, 1232, 1233, 84),
  (⟨RX0, "answer", "(LCakeCards$Household;II)I"⟩, prog_2_method_2_code, 4, (Option.some FieldType.int), 0, false, 3, 1238, 1236, 1237, 95),
  (⟨RX1, "thingsOf", "(I)I"⟩, prog_3_method_17_code, 4, (Option.some FieldType.int), 1, false, 1, 1244, 1242, 1243, 90),
  (⟨RX0, "bodyOf", "(I)I"⟩, prog_2_method_5_code, 2, (Option.some FieldType.int), 0, false, 1, 1250, 1249, 30, 95),
  (⟨RX0, "run", "(II)I"⟩, prog_2_method_6_code, 4, (Option.some FieldType.int), 0, false, 2, 1254, 1253, 31, 95),
  (⟨RX0, "leave", "(I)V"⟩, prog_2_method_4_code, 2, (Option.none : Option FieldType), 0, false, 1, 1258, 1257, 32, 95),
  (⟨RX10, "trace", "(I)I"⟩, prog_1_method_35_code, 2, (Option.some FieldType.int), 10, false, 1, 1262, 1260, 1261, 84),
  (⟨RX0, "traceAt", "(I)I"⟩, prog_2_method_3_code, 2, (Option.some FieldType.int), 0, false, 1, 1266, 1264, 1265, 95),
  (⟨RX10, "count", "(I)J"⟩, prog_1_method_36_code, 2, (Option.some FieldType.long), 10, false, 1, 1271, 1269, 1270, 84),
  (⟨RX7, "rows", "()I"⟩, prog_9_method_11_code, 6, (Option.some FieldType.int), 7, false, 0, 1275, 1273, 1274, 85),
  (⟨RX1, "allStains", "()I"⟩, prog_3_method_15_code, 3, (Option.some FieldType.int), 1, false, 0, 1279, 1277, 1278, 90),
  (⟨RX9, "size", "()I"⟩, prog_11_method_2_code, 1, (Option.some FieldType.int), 9, false, 0, 1284, 1282, 1283, 87),
  (⟨RX10, "status", "()I"⟩, prog_1_method_37_code, 1, (Option.some FieldType.int), 10, false, 0, 1288, 1286, 1287, 84),
  (⟨RX11, "<init>", "()V"⟩, prog_13_method_1_code, 1, (Option.none : Option FieldType), 11, false, 0, 1293, 1292, 9999, 96),
  (⟨RX11, "row", "(III)J"⟩, prog_13_method_6_code, 5, (Option.some FieldType.long), 11, false, 3, 1432, 1430, 1431, 96),
  (⟨RX11, "isRow", "(I)Z"⟩, prog_13_method_5_code, 1, (Option.some FieldType.boolean), 11, true, 1, 1435, 1434, 9999, 96),
  (⟨RX11, "in", "(JJJ)Z"⟩, prog_13_method_3_code, 6, (Option.some FieldType.boolean), 11, true, 3, 1439, 1438, 9999, 96),
  (⟨RX11, "finding", "(I)J"⟩, prog_13_method_4_code, 2, (Option.some FieldType.long), 11, false, 1, 1445, 1444, 33, 96),
  (⟨RX11, "set", "(III)J"⟩, prog_13_method_7_code, 4, (Option.some FieldType.long), 11, false, 3, 1450, 1448, 1449, 96),
  (⟨RX11, "copy", "(IIIII)J"⟩, prog_13_method_8_code, 9, (Option.some FieldType.long), 11, false, 5, 1454, 1452, 1453, 96),
  (⟨RX11, "drop", "(I)J"⟩, prog_13_method_9_code, 2, (Option.some FieldType.long), 11, false, 1, 1458, 1456, 1457, 96)]
def ax_M7 : List ax_R := [
  (⟨RX11, "feed", "(JI)J"⟩, prog_13_method_10_code, 5, (Option.some FieldType.long), 11, false, 2, 1462, 1460, 1461, 96),
  (⟨RX11, "kitchen", "()J"⟩, prog_13_method_27_code, 4, (Option.some FieldType.long), 11, false, 0, 1469, 1467, 1468, 96),
  (⟨RX11, "begins", "()V"⟩, prog_13_method_25_code, 1, (Option.none : Option FieldType), 11, false, 0, 1473, 1472, 34, 96),
  (⟨RX11, "next", "()V"⟩, prog_13_method_14_code, 2, (Option.none : Option FieldType), 11, false, 0, 1477, 1476, 35, 96),
  (⟨RX11, "byteAt", "(I)I"⟩, prog_13_method_11_code, 2, (Option.some FieldType.int), 11, false, 1, 1481, 1480, 36, 96),
  (⟨RX11, "isLetter", "(I)Z"⟩, prog_13_method_12_code, 1, (Option.some FieldType.boolean), 11, true, 1, 1485, 1484, 9999, 96),
  (⟨RX11, "isFigure", "(I)Z"⟩, prog_13_method_13_code, 1, (Option.some FieldType.boolean), 11, true, 1, 1488, 1487, 9999, 96),
  (⟨RX11, "word", "()J"⟩, prog_13_method_17_code, 4, (Option.some FieldType.long), 11, false, 0, 1492, 1491, 37, 96),
  (⟨RX11, "readMeasure", "()V"⟩, prog_13_method_23_code, 6, (Option.none : Option FieldType), 11, false, 0, 1497, 1496, 38, 96),
  (⟨RX11, "bad", "(I)V"⟩, prog_13_method_15_code, 2, (Option.none : Option FieldType), 11, false, 1, 1501, 1500, 39, 96),
  (⟨RX11, "must", "(Z)V"⟩, prog_13_method_16_code, 2, (Option.none : Option FieldType), 11, false, 1, 1505, 1504, 40, 96),
  (⟨RX11, "number", "(II)I"⟩, prog_13_method_19_code, 4, (Option.some FieldType.int), 11, false, 2, 1509, 1508, 41, 96),
  (⟨RX11, "here", "()I"⟩, prog_13_method_18_code, 3, (Option.some FieldType.int), 11, false, 0, 1513, 1512, 42, 96),
  (⟨RX11, "mustEnd", "()V"⟩, prog_13_method_21_code, 1, (Option.none : Option FieldType), 11, false, 0, 1517, 1516, 43, 96),
  (⟨RX11, "readPacket", "()V"⟩, prog_13_method_24_code, 5, (Option.none : Option FieldType), 11, false, 0, 1522, 1521, 44, 96),
  (⟨RX11, "ended", "()J"⟩, prog_13_method_26_code, 1, (Option.some FieldType.long), 11, false, 0, 1527, 1526, 45, 96),
  (⟨RX11, "card", "()J"⟩, prog_13_method_34_code, 5, (Option.some FieldType.long), 11, false, 0, 1532, 1530, 1531, 96),
  (⟨RX11, "clearDraft", "(III)V"⟩, prog_13_method_29_code, 5, (Option.none : Option FieldType), 11, false, 3, 1538, 1537, 46, 96),
  (⟨RX11, "readLine", "(II)V"⟩, prog_13_method_33_code, 8, (Option.none : Option FieldType), 11, false, 2, 1542, 1541, 47, 96),
  (⟨RX11, "readAdd", "(II)V"⟩, prog_13_method_32_code, 6, (Option.none : Option FieldType), 11, false, 2, 1547, 1546, 48, 96),
  (⟨RX11, "numberOrStain", "(II)I"⟩, prog_13_method_20_code, 3, (Option.some FieldType.int), 11, false, 2, 1551, 1550, 49, 96),
  (⟨RX11, "grainsOf", "(III)I"⟩, prog_13_method_28_code, 8, (Option.some FieldType.int), 11, false, 3, 1555, 1554, 50, 96),
  (⟨RX11, "lay", "(II)V"⟩, prog_13_method_31_code, 3, (Option.none : Option FieldType), 11, false, 2, 1559, 1558, 51, 96),
  (⟨RX11, "keepDraft", "()I"⟩, prog_13_method_30_code, 3, (Option.some FieldType.int), 11, false, 0, 1565, 1564, 52, 96),
  (⟨RX11, "fault", "()I"⟩, prog_13_method_35_code, 1, (Option.some FieldType.int), 11, false, 0, 1569, 1567, 1568, 96),
  (⟨RX11, "told", "(IIIII)J"⟩, prog_13_method_41_code, 8, (Option.some FieldType.long), 11, false, 5, 1573, 1571, 1572, 96),
  (⟨RX11, "isLand", "(I)Z"⟩, prog_13_method_36_code, 1, (Option.some FieldType.boolean), 11, true, 1, 1576, 1575, 9999, 96),
  (⟨RX11, "isYear", "(I)Z"⟩, prog_13_method_22_code, 1, (Option.some FieldType.boolean), 11, true, 1, 1580, 1579, 9999, 96)]
def ax_M8 : List ax_R := [
  (⟨RX11, "isCard", "(I)Z"⟩, prog_13_method_37_code, 2, (Option.some FieldType.boolean), 11, false, 1, 1586, 1585, 53, 96),
  (⟨RX11, "ofCard", "(II)I"⟩, prog_13_method_38_code, 3, (Option.some FieldType.int), 11, false, 2, 1590, 1589, 54, 96),
  (⟨RX11, "copied", "(IIIIII)J"⟩, prog_13_method_42_code, 8, (Option.some FieldType.long), 11, false, 6, 1599, 1597, 1598, 96),
  (⟨RX11, "isKnown", "(II)Z"⟩, prog_13_method_40_code, 3, (Option.some FieldType.boolean), 11, false, 2, 1604, 1603, 55, 96),
  (⟨RX11, "markOf", "(II)I"⟩, prog_13_method_39_code, 3, (Option.some FieldType.int), 11, false, 2, 1608, 1607, 56, 96),
  (⟨RX11, "mark", "(II)J"⟩, prog_13_method_44_code, 3, (Option.some FieldType.long), 11, false, 2, 1612, 1610, 1611, 96),
  (⟨RX11, "isMark", "(I)Z"⟩, prog_13_method_43_code, 1, (Option.some FieldType.boolean), 11, true, 1, 1615, 1614, 9999, 96),
  (⟨RX11, "of", "(II)J"⟩, prog_13_method_47_code, 5, (Option.some FieldType.long), 11, false, 2, 1621, 1619, 1620, 96),
  (⟨RX11, "mother", "(II)I"⟩, prog_13_method_46_code, 4, (Option.some FieldType.int), 11, false, 2, 1626, 1625, 57, 96),
  (⟨RX11, "bits", "(I)I"⟩, prog_13_method_45_code, 3, (Option.some FieldType.int), 11, true, 1, 1629, 1628, 9999, 96),
  (⟨RX11, "stain", "(II)J"⟩, prog_13_method_48_code, 4, (Option.some FieldType.long), 11, false, 2, 1633, 1631, 1632, 96),
  (⟨RX11, "grains", "(III)J"⟩, prog_13_method_49_code, 4, (Option.some FieldType.long), 11, false, 3, 1637, 1635, 1636, 96),
  (⟨RX11, "unlike", "(II)J"⟩, prog_13_method_52_code, 3, (Option.some FieldType.long), 11, false, 2, 1641, 1639, 1640, 96),
  (⟨RX11, "unlikeOf", "(II)I"⟩, prog_13_method_51_code, 5, (Option.some FieldType.int), 11, false, 2, 1645, 1644, 58, 96),
  (⟨RX11, "isUnlike", "(III)Z"⟩, prog_13_method_50_code, 4, (Option.some FieldType.boolean), 11, false, 3, 1649, 1648, 59, 96),
  (⟨RX11, "baked", "(II)J"⟩, prog_13_method_56_code, 3, (Option.some FieldType.long), 11, false, 2, 1653, 1651, 1652, 96),
  (⟨RX11, "riseOf", "(III)I"⟩, prog_13_method_54_code, 7, (Option.some FieldType.int), 11, false, 3, 1657, 1656, 60, 96),
  (⟨RX11, "size", "(I)I"⟩, prog_13_method_53_code, 1, (Option.some FieldType.int), 11, true, 1, 1660, 1659, 9999, 96),
  (⟨RX11, "sinks", "(III)Z"⟩, prog_13_method_55_code, 4, (Option.some FieldType.boolean), 11, false, 3, 1664, 1663, 61, 96),
  (⟨RX11, "blame", "(III)J"⟩, prog_13_method_57_code, 9, (Option.some FieldType.long), 11, false, 3, 1668, 1666, 1667, 96),
  (⟨RX11, "mothers", "(I)J"⟩, prog_13_method_60_code, 7, (Option.some FieldType.long), 11, false, 1, 1672, 1670, 1671, 96),
  (⟨RX11, "seekMother", "(I)V"⟩, prog_13_method_59_code, 5, (Option.none : Option FieldType), 11, false, 1, 1676, 1675, 62, 96),
  (⟨RX11, "isEarlier", "(II)Z"⟩, prog_13_method_58_code, 5, (Option.some FieldType.boolean), 11, false, 2, 1680, 1679, 63, 96),
  (⟨RX11, "mother", "(I)J"⟩, prog_13_method_61_code, 2, (Option.some FieldType.long), 11, false, 1, 1684, 1682, 1683, 96),
  (⟨RX11, "two", "(II)J"⟩, prog_13_method_63_code, 10, (Option.some FieldType.long), 11, false, 2, 1688, 1686, 1687, 96),
  (⟨RX11, "isAlike", "(III)Z"⟩, prog_13_method_62_code, 4, (Option.some FieldType.boolean), 11, false, 3, 1692, 1691, 64, 96),
  (⟨RX11, "trees", "(II)J"⟩, prog_13_method_72_code, 3, (Option.some FieldType.long), 11, false, 2, 1696, 1694, 1695, 96),
  (⟨RX11, "areEnds", "(I)Z"⟩, prog_13_method_64_code, 3, (Option.some FieldType.boolean), 11, false, 1, 1700, 1699, 65, 96)]
def ax_M9 : List ax_R := [
  (⟨RX11, "allTrees", "()I"⟩, prog_13_method_65_code, 3, (Option.some FieldType.int), 11, false, 0, 1704, 1703, 66, 96),
  (⟨RX11, "seekTrees", "()V"⟩, prog_13_method_71_code, 5, (Option.none : Option FieldType), 11, false, 0, 1708, 1707, 67, 96),
  (⟨RX11, "layTree", "(I)V"⟩, prog_13_method_67_code, 5, (Option.none : Option FieldType), 11, false, 1, 1712, 1711, 68, 96),
  (⟨RX11, "putOn", "(III)V"⟩, prog_13_method_66_code, 5, (Option.none : Option FieldType), 11, false, 3, 1716, 1715, 69, 96),
  (⟨RX11, "changes", "()I"⟩, prog_13_method_70_code, 3, (Option.some FieldType.int), 11, false, 0, 1720, 1719, 70, 96),
  (⟨RX11, "changesOf", "(I)I"⟩, prog_13_method_69_code, 6, (Option.some FieldType.int), 11, false, 1, 1724, 1723, 71, 96),
  (⟨RX11, "layValues", "(I)V"⟩, prog_13_method_68_code, 7, (Option.none : Option FieldType), 11, false, 1, 1728, 1727, 72, 96),
  (⟨RX11, "sure", "(II)J"⟩, prog_13_method_74_code, 6, (Option.some FieldType.long), 11, false, 2, 1732, 1730, 1731, 96),
  (⟨RX11, "isJoin", "(I)Z"⟩, prog_13_method_73_code, 4, (Option.some FieldType.boolean), 11, false, 1, 1736, 1735, 73, 96),
  (⟨RX11, "first", "(III)J"⟩, prog_13_method_75_code, 8, (Option.some FieldType.long), 11, false, 3, 1740, 1738, 1739, 96),
  (⟨RX11, "years", "(II)J"⟩, prog_13_method_78_code, 7, (Option.some FieldType.long), 11, false, 2, 1744, 1742, 1743, 96),
  (⟨RX11, "has", "(II)Z"⟩, prog_13_method_76_code, 3, (Option.some FieldType.boolean), 11, false, 2, 1748, 1747, 74, 96),
  (⟨RX11, "left", "(II)J"⟩, prog_13_method_81_code, 3, (Option.some FieldType.long), 11, false, 2, 1752, 1750, 1751, 96),
  (⟨RX11, "isThing", "(I)Z"⟩, prog_13_method_80_code, 1, (Option.some FieldType.boolean), 11, true, 1, 1755, 1754, 9999, 96),
  (⟨RX11, "leftOut", "(II)I"⟩, prog_13_method_79_code, 7, (Option.some FieldType.int), 11, false, 2, 1759, 1758, 75, 96),
  (⟨RX11, "lacks", "(II)Z"⟩, prog_13_method_77_code, 3, (Option.some FieldType.boolean), 11, false, 2, 1763, 1762, 76, 96),
  (⟨RX11, "chance", "(III)J"⟩, prog_13_method_82_code, 8, (Option.some FieldType.long), 11, false, 3, 1767, 1765, 1766, 96),
  (⟨RX11, "mend", "(IIII)J"⟩, prog_13_method_83_code, 8, (Option.some FieldType.long), 11, false, 4, 1771, 1769, 1770, 96),
  (⟨RX11, "book", "(I)J"⟩, prog_13_method_84_code, 7, (Option.some FieldType.long), 11, false, 1, 1775, 1773, 1774, 96),
  (⟨RX11, "image", "(I)J"⟩, prog_13_method_85_code, 3, (Option.some FieldType.long), 11, false, 1, 1779, 1777, 1778, 96),
  (⟨RX11, "restore", "(I)J"⟩, prog_13_method_86_code, 3, (Option.some FieldType.long), 11, false, 1, 1783, 1781, 1782, 96),
  (⟨RX11, "kind", "(I)J"⟩, prog_13_method_89_code, 2, (Option.some FieldType.long), 11, false, 1, 1787, 1785, 1786, 96),
  (⟨RX11, "kindOf", "(I)I"⟩, prog_13_method_87_code, 3, (Option.some FieldType.int), 11, false, 1, 1791, 1790, 77, 96),
  (⟨RX11, "as", "(II)J"⟩, prog_13_method_90_code, 3, (Option.some FieldType.long), 11, false, 2, 1795, 1793, 1794, 96),
  (⟨RX11, "isOf", "(II)Z"⟩, prog_13_method_88_code, 2, (Option.some FieldType.boolean), 11, true, 2, 1799, 1798, 9999, 96),
  (⟨RX11, "ask", "(II)J"⟩, prog_13_method_96_code, 3, (Option.some FieldType.long), 11, false, 2, 1803, 1801, 1802, 96),
  (⟨RX11, "ownSize", "(II)I"⟩, prog_13_method_95_code, 4, (Option.some FieldType.int), 11, false, 2, 1807, 1806, 78, 96),
  (⟨RX11, "marredSize", "(II)I"⟩, prog_13_method_93_code, 3, (Option.some FieldType.int), 11, false, 2, 1811, 1810, 79, 96)]
def ax_M10 : List ax_R := [
  (⟨RX11, "began", "(I)V"⟩, prog_13_method_91_code, 2, (Option.none : Option FieldType), 11, false, 1, 1815, 1814, 80, 96),
  (⟨RX11, "things", "(I)I"⟩, prog_13_method_92_code, 4, (Option.some FieldType.int), 11, false, 1, 1819, 1818, 81, 96),
  (⟨RX11, "ownMark", "(II)I"⟩, prog_13_method_94_code, 5, (Option.some FieldType.int), 11, false, 2, 1823, 1822, 82, 96),
  (⟨RX11, "trace", "(I)I"⟩, prog_13_method_97_code, 2, (Option.some FieldType.int), 11, false, 1, 1827, 1825, 1826, 96),
  (⟨RX11, "count", "(I)J"⟩, prog_13_method_98_code, 4, (Option.some FieldType.long), 11, false, 1, 1831, 1829, 1830, 96),
  (⟨RX11, "status", "()I"⟩, prog_13_method_99_code, 1, (Option.some FieldType.int), 11, false, 0, 1835, 1833, 1834, 96)]
def ax_M : List ax_R := ax_M0 ++ (ax_M1 ++ (ax_M2 ++ (ax_M3 ++ (ax_M4 ++ (ax_M5 ++ (ax_M6 ++ (ax_M7 ++ (ax_M8 ++ (ax_M9 ++ (ax_M10))))))))))
/-- the law itself stands behind them -/
def ax_law : Nat := 286
def ax_Tf : List (Nat × Nat × Nat) := [(14345, 448, 121), (14351, 449, 122), (14354, 450, 123), (18441, 576, 138), (18447, 577, 139), (18451, 578, 140), (18454, 579, 141), (18457, 580, 142), (18478, 581, 143), (18467, 582, 144), (18461, 583, 145), (10276, 320, 176), (10280, 321, 177), (10249, 322, 178), (10255, 323, 179), (10258, 324, 180), (10261, 325, 181), (10284, 326, 182), (10264, 327, 183), (10267, 328, 184), (10270, 329, 185), (10273, 330, 186), (10290, 331, 187), (10293, 332, 188), (10296, 333, 189), (10287, 334, 190), (2072, 64, 228), (2057, 65, 229), (2063, 66, 230), (2066, 67, 231), (2069, 68, 232), (8204, 256, 244), (8213, 257, 247), (12303, 384, 264), (12307, 385, 265), (12297, 386, 266), (12310, 387, 267), (12313, 388, 268), (12317, 389, 269), (16393, 512, 289), (16399, 513, 290), (16402, 514, 291), (16410, 515, 292), (16406, 516, 293), (6168, 192, 317), (6153, 193, 318), (6159, 194, 319), (6162, 195, 320), (6165, 196, 321), (4108, 128, 333), (4157, 129, 334), (4114, 130, 335), (4118, 131, 336), (4121, 132, 337), (4124, 133, 338), (4127, 134, 339), (4130, 135, 340), (4188, 136, 341), (4133, 137, 342), (4184, 138, 343), (4195, 139, 344), (4139, 140, 345), (4143, 141, 346), (4146, 142, 347), (4200, 143, 348), (4136, 144, 349), (11, 0, 391), (15, 1, 392), (19, 2, 393), (28, 3, 394), (40, 4, 395), (46, 5, 396), (52, 6, 397), (58, 7, 398), (20492, 640, 416), (20499, 641, 417), (20506, 642, 418), (20510, 643, 419), (20513, 644, 420), (20519, 645, 421), (20526, 646, 422), (20533, 647, 423), (20540, 648, 424), (20547, 649, 425), (20551, 650, 426), (22605, 704, 1295), (22609, 705, 1296), (22537, 706, 1297), (22541, 707, 1298), (22544, 708, 1299), (22547, 709, 1300), (22550, 710, 1301), (22726, 711, 1302), (22553, 712, 1303), (22556, 713, 1304), (22634, 714, 1305), (22699, 715, 1306), (22641, 716, 1307), (22645, 717, 1308), (22655, 718, 1309), (22652, 719, 1310), (22664, 720, 1311), (22667, 721, 1312), (22670, 722, 1313), (22559, 723, 1314), (22730, 724, 1315), (22831, 725, 1316), (22834, 726, 1317), (22837, 727, 1318), (22562, 728, 1319), (22849, 729, 1320), (22565, 730, 1321), (22568, 731, 1322), (22571, 732, 1323), (22852, 733, 1324), (22574, 734, 1325), (22577, 735, 1326), (22580, 736, 1327), (22858, 737, 1328), (22870, 738, 1329), (22873, 739, 1330), (22583, 740, 1331), (22587, 741, 1332), (22590, 742, 1333), (22593, 743, 1334), (22596, 744, 1335), (22599, 745, 1336), (22602, 746, 1337), (22911, 747, 1338)]
def ax_Tg : List (Nat × Nat × Nat) := [(16434, 256, 245), (20617, 256, 246), (31, 257, 248), (16422, 257, 249), (20624, 257, 250)]
def ax_Tm : List (Nat × Nat × Nat) := [(24585, 0, 106), (20491, 1, 114), (14357, 2, 118), (24589, 12, 450), (20555, 13, 454), (20561, 14, 458), (20565, 15, 463), (20569, 16, 468), (24594, 17, 472), (20573, 18, 476), (14367, 19, 480), (20576, 20, 484), (20580, 21, 488), (14371, 20, 492), (24598, 22, 493), (20584, 23, 497), (20588, 24, 501), (24603, 25, 508), (20592, 26, 512), (24610, 27, 516), (20595, 28, 520), (20600, 29, 525), (24615, 30, 529), (20604, 31, 533), (10305, 32, 537), (18464, 33, 541), (18470, 34, 545), (18474, 35, 549), (18481, 36, 552), (18484, 37, 555), (10312, 38, 559), (10316, 39, 611), (10335, 40, 615), (10339, 41, 619), (18501, 38, 623), (18505, 42, 624), (18497, 40, 628), (10343, 43, 629), (18516, 44, 633), (18520, 45, 637), (10347, 46, 641), (18509, 47, 645), (10322, 48, 650), (10325, 49, 654), (10328, 50, 659), (18512, 51, 663), (10331, 52, 667), (20608, 53, 671), (20613, 54, 676), (20620, 55, 680), (20628, 56, 685), (20631, 57, 689), (20634, 58, 693), (24620, 59, 697), (20637, 60, 701), (20643, 61, 706), (20646, 62, 710), (12331, 63, 714), (12320, 2, 718), (12335, 32, 719), (12341, 41, 721), (12345, 43, 722), (12349, 46, 723), (12352, 52, 724), (12356, 51, 725), (12359, 64, 726), (12368, 38, 731), (12372, 65, 732), (12390, 44, 736), (12386, 40, 737), (12393, 66, 738), (18523, 43, 742), (12399, 68, 748), (12377, 69, 753), (12383, 70, 758), (12363, 50, 762), (20650, 71, 764), (2082, 61, 768), (2087, 72, 770), (2093, 73, 774), (2096, 74, 778), (2100, 76, 785), (2104, 77, 789), (24624, 78, 794), (20654, 79, 798), (24629, 80, 802), (20657, 81, 806), (20660, 82, 809), (20663, 83, 812), (2111, 84, 816), (20667, 63, 820), (20671, 85, 821), (12405, 86, 825), (12410, 87, 829), (24633, 88, 832), (20675, 77, 836), (20678, 84, 837), (20681, 67, 838), (20684, 89, 839), (12414, 90, 843), (20688, 91, 847), (24638, 92, 857), (20691, 75, 861), (20694, 90, 862), (24643, 93, 863), (20698, 94, 867), (20701, 95, 871), (20704, 96, 875), (2114, 90, 879), (20707, 97, 880), (2121, 95, 884), (24647, 98, 885), (20710, 76, 889), (24651, 99, 890), (20713, 68, 894), (24655, 100, 895), (20716, 101, 899), (2124, 102, 903), (24659, 103, 907), (20719, 104, 911), (8224, 90, 915), (8228, 105, 916), (20722, 106, 926), (8231, 104, 930), (8235, 107, 931), (24663, 108, 935), (20725, 109, 939), (16419, 110, 943), (16428, 102, 948), (16438, 90, 949), (16442, 105, 950), (16447, 107, 951), (16451, 104, 952), (16454, 111, 953), (16457, 112, 957), (16413, 113, 961), (20729, 114, 967), (20734, 115, 972), (20737, 113, 976), (24667, 116, 977), (20742, 117, 981), (20745, 118, 985), (2135, 119, 989), (2128, 120, 993), (2132, 101, 997), (20748, 121, 998), (2138, 122, 1002), (24671, 123, 1006), (20752, 119, 1010), (24675, 124, 1011), (20755, 125, 1015), (2141, 126, 1019), (24679, 127, 1023), (20758, 128, 1027), (20761, 129, 1031), (4149, 130, 1035), (6172, 117, 1039), (6178, 90, 1040), (6182, 131, 1041), (6186, 132, 1046), (4153, 133, 1050), (4173, 134, 1054), (4176, 135, 1058), (4180, 136, 1061), (4160, 137, 1066), (4163, 138, 1070), (4191, 139, 1075), (4167, 140, 1079), (4170, 141, 1083), (4204, 142, 1088), (20764, 143, 1092), (20765, 144, 1096), (20768, 145, 1100), (24683, 146, 1104), (20771, 147, 1108), (4208, 148, 1112), (24687, 149, 1117), (20774, 150, 1121), (4217, 151, 1126), (24691, 152, 1130), (20778, 153, 1134), (8253, 154, 1139), (20781, 155, 1145), (8261, 156, 1149), (24695, 157, 1154), (20784, 158, 1158), (24699, 159, 1162), (24703, 160, 1166), (20787, 161, 1170), (2145, 162, 1174), (24708, 163, 1177), (20791, 164, 1181), (16461, 117, 1185), (16464, 165, 1186), (16468, 101, 1189), (24712, 166, 1190), (20794, 167, 1194), (20798, 168, 1198), (8217, 55, 1202), (8221, 169, 1203), (24716, 170, 1208), (24720, 171, 1212), (20801, 172, 1216), (8239, 96, 1220), (8242, 106, 1221), (8246, 95, 1222), (8250, 101, 1223), (24724, 173, 1224), (20804, 174, 1228), (24728, 175, 1231), (20807, 176, 1235), (22, 172, 1239), (35, 84, 1240), (43, 177, 1241), (49, 96, 1245), (55, 104, 1246), (61, 178, 1247), (64, 179, 1251), (69, 180, 1255), (24732, 181, 1259), (20811, 182, 1263), (24737, 183, 1268), (20814, 184, 1272), (20817, 185, 1276), (2118, 96, 1280), (20820, 186, 1281), (24741, 187, 1285), (24588, 188, 1291), (24593, 189, 1429), (22620, 190, 1433), (22616, 191, 1437), (22628, 192, 1442), (24597, 193, 1447), (24602, 194, 1451), (24607, 195, 1455), (24614, 196, 1459), (24619, 197, 1466), (22704, 198, 1470), (22677, 199, 1474), (22648, 200, 1478), (22658, 201, 1483), (22661, 202, 1486), (22707, 203, 1489), (22713, 204, 1494), (22673, 205, 1498), (22684, 206, 1502), (22688, 207, 1506), (22680, 208, 1510), (22696, 209, 1514), (22718, 210, 1519), (22723, 211, 1524), (24623, 212, 1529), (22757, 213, 1535), (22761, 214, 1539), (22746, 215, 1544), (22733, 216, 1548), (22736, 217, 1552), (22740, 218, 1556), (22764, 219, 1562), (24628, 220, 1566), (24632, 221, 1570), (22772, 222, 1574), (22775, 223, 1578), (22778, 224, 1583), (22769, 225, 1587), (24637, 226, 1596), (22793, 227, 1601), (22797, 228, 1605), (24642, 229, 1609), (22802, 230, 1613), (24646, 231, 1618), (22809, 232, 1623), (22812, 233, 1627), (24650, 234, 1630), (24654, 235, 1634), (24658, 236, 1638), (22819, 237, 1642), (22815, 238, 1646), (24662, 239, 1650), (22825, 240, 1654), (22822, 241, 1658), (22828, 242, 1661), (24666, 243, 1665), (24670, 244, 1669), (22843, 245, 1673), (22840, 246, 1677), (24674, 247, 1681), (24678, 248, 1685), (22846, 249, 1689), (24682, 250, 1693), (22882, 251, 1697), (22867, 252, 1701), (22885, 253, 1705), (22876, 254, 1709), (22855, 255, 1713), (22879, 256, 1717), (22864, 257, 1721), (22861, 258, 1725), (24686, 259, 1729), (22888, 260, 1733), (24690, 261, 1737), (24694, 262, 1741), (22891, 263, 1745), (24698, 264, 1749), (22897, 265, 1753), (22900, 266, 1756), (22894, 267, 1760), (24702, 268, 1764), (24707, 269, 1768), (24711, 270, 1772), (24715, 271, 1776), (24719, 272, 1780), (24723, 273, 1784), (22903, 274, 1788), (24727, 275, 1792), (22908, 276, 1797), (24731, 277, 1800), (22926, 278, 1804), (22920, 279, 1808), (22914, 280, 1812), (22917, 281, 1816), (22923, 282, 1820), (24736, 283, 1824), (24740, 284, 1828), (24744, 285, 1832)]
def ax_Tn : List (Nat × Nat × Nat) := [(20498, 3, 134), (20505, 4, 166), (8203, 5, 172), (8212, 6, 224), (20518, 5, 257), (20525, 7, 260), (20532, 8, 285), (20539, 9, 307), (4107, 10, 313), (20546, 11, 387), (14363, 13, 467), (12396, 67, 744), (12326, 75, 782), (2108, 75, 793), (10362, 67, 925), (6190, 75, 1065), (4213, 75, 1125)]
def ax_Ti : List (Nat × Nat × Nat) := [(20483, 6, 109), (14339, 6, 117), (18435, 6, 137), (8195, 6, 169), (10243, 6, 175), (2051, 6, 227), (12291, 6, 263), (16387, 6, 288), (4099, 6, 310), (6147, 6, 316), (3, 6, 390), (14375, 3, 505), (18487, 4, 563), (18493, 5, 573), (10299, 3, 684), (12419, 1, 851), (12424, 0, 854), (10353, 2, 921), (10359, 1, 924), (10366, 0, 1143), (8256, 0, 1144), (8264, 1, 1153), (2076, 3, 1207), (22531, 6, 1294)]
def ax_Tc : List (Nat × Int × Nat) := [(18526, (-1000000), 743), (12330, (-1000000), 747), (20649, (-1000000), 763), (2086, (-1000000), 769), (10352, (-1000000), 920), (16409, (-1000000), 947), (26888, 65536, 956), (26889, 1431655765, 964), (26890, 858993459, 965), (26891, 252645135, 966), (6189, (-1000000), 1045), (4187, (-1000000), 1074), (8249, (-1000000), 1138), (68, (-1000000), 1267), (22644, (-1000000), 1482)]
def ax_Tl : List (Nat × Nat × Nat) := [(20559, 0, 457), (20821, 1, 462), (20598, 2, 524), (20611, 3, 675), (20641, 4, 705), (20732, 5, 971), (4198, 6, 1087), (4211, 5, 1116), (22614, 7, 1436), (22624, 8, 1440), (22626, 0, 1441), (22612, 1, 1446), (22632, 9, 1463), (22637, 2, 1464), (22639, 10, 1465), (22711, 11, 1493), (22716, 12, 1518), (22721, 13, 1523), (22702, 3, 1528), (22753, 4, 1533), (22755, 14, 1534), (22744, 15, 1543), (22749, 16, 1560), (22751, 17, 1561), (22767, 18, 1577), (22692, 19, 1581), (22694, 20, 1582), (22781, 21, 1591), (22783, 6, 1592), (22785, 22, 1593), (22787, 23, 1594), (22789, 24, 1595), (22791, 25, 1600), (22800, 26, 1616), (22805, 5, 1617), (22807, 27, 1622), (22906, 28, 1796), (24608, 29, 1836)]
def ax_Ts : List (Nat × Nat × Nat) := [(10310, 0, 558), (10320, 1, 649), (10350, 2, 658), (12339, 3, 720), (12366, 4, 730), (12375, 5, 752), (12381, 6, 757)]
def ax_To : List (Nat × Nat × Nat) := [(24583, 10, 104), (20489, 7, 112), (20496, 9, 132), (20503, 4, 164), (8201, 5, 170), (8210, 1, 222), (20516, 5, 256), (20523, 6, 258), (20530, 8, 283), (20537, 2, 305), (4105, 3, 311), (20544, 0, 385), (24586, 11, 1289)]
def ax_LC : List Int64 := [-9000000000000000001, -9000000000000000010, -9000000000000000003, -9000000000000000100, -9000000000000000002, -1000000, -1, 7, 2, 8, 255, 30792241684771429, 123563582121332, 1919513445, 1667330660, 6382692, 1751474548, 1650811252, 3, 1800, 2000, 11, 9999, 9, 99, 6, 10, 4, 5, 4294967295]
/-- the texts of the constants, by their bytes -/
def ax_SB : List (List Int32) := [[109, 101, 97, 115, 117, 114, 101], [112, 97, 99, 107, 101, 116], [114, 105, 115, 101], [99, 97, 114, 100], [97, 100, 100], [104, 101, 97, 116], [98, 101, 97, 116]]
def ax_SK : List (String × Nat × String) := [("CakeCards$Kitchen", 70, "measure"), ("CakeCards$Kitchen", 80, "packet"), ("CakeCards$Kitchen", 110, "rise"), ("CakeCards$Page", 51, "card"), ("CakeCards$Page", 78, "add"), ("CakeCards$Page", 87, "heat"), ("CakeCards$Page", 93, "beat")]
