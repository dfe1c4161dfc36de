-- ===== PART A: goes FIRST, ahead of the names: the tables' words, and 'selects' of the private methods out of them =====
/-- a private method of a class that the tables say can be made, by its rows of tables_1 -/
def lw_okq (q : MethodName × Nat) : Prop := (q.1.cls ≠ "java/lang/invoke/MethodHandle" ∧ q.1.cls ≠ "java/lang/invoke/VarHandle") ∧ Cond.instantiable q.1.cls q.2 ∈ tables_1 ∧ Cond.privateMethod q.1 ∈ tables_1 ∧ Cond.instanceMethod q.1 ∈ tables_1
theorem lw_p0 : lw_okq (⟨"ForgetStream", "refuse", "(I)Z"⟩, 18) := ⟨⟨by decide +kernel, by decide +kernel⟩, List.mem_of_getElem? (i := 22) (by decide +kernel), List.mem_of_getElem? (i := 568) (by decide +kernel), List.mem_of_getElem? (i := 569) (by decide +kernel)⟩
theorem lw_p1 : lw_okq (⟨"ForgetStream", "accept", "()Z"⟩, 18) := ⟨⟨by decide +kernel, by decide +kernel⟩, List.mem_of_getElem? (i := 22) (by decide +kernel), List.mem_of_getElem? (i := 576) (by decide +kernel), List.mem_of_getElem? (i := 577) (by decide +kernel)⟩
theorem lw_p2 : lw_okq (⟨"ForgetStream", "whyNoPlace", "(II)I"⟩, 18) := ⟨⟨by decide +kernel, by decide +kernel⟩, List.mem_of_getElem? (i := 22) (by decide +kernel), List.mem_of_getElem? (i := 584) (by decide +kernel), List.mem_of_getElem? (i := 585) (by decide +kernel)⟩
theorem lw_p3 : lw_okq (⟨"ForgetStream", "refused", "(I)I"⟩, 18) := ⟨⟨by decide +kernel, by decide +kernel⟩, List.mem_of_getElem? (i := 22) (by decide +kernel), List.mem_of_getElem? (i := 631) (by decide +kernel), List.mem_of_getElem? (i := 632) (by decide +kernel)⟩
theorem lw_p4 : lw_okq (⟨"ForgetStream$Text", "takeWord", "()V"⟩, 11) := ⟨⟨by decide +kernel, by decide +kernel⟩, List.mem_of_getElem? (i := 53) (by decide +kernel), List.mem_of_getElem? (i := 652) (by decide +kernel), List.mem_of_getElem? (i := 653) (by decide +kernel)⟩
theorem lw_p5 : lw_okq (⟨"ForgetStream$Text", "takeNumber", "()V"⟩, 11) := ⟨⟨by decide +kernel, by decide +kernel⟩, List.mem_of_getElem? (i := 53) (by decide +kernel), List.mem_of_getElem? (i := 659) (by decide +kernel), List.mem_of_getElem? (i := 660) (by decide +kernel)⟩
theorem lw_p6 : lw_okq (⟨"ForgetStream$GlenReader", "readPart", "()V"⟩, 3) := ⟨⟨by decide +kernel, by decide +kernel⟩, List.mem_of_getElem? (i := 345) (by decide +kernel), List.mem_of_getElem? (i := 672) (by decide +kernel), List.mem_of_getElem? (i := 673) (by decide +kernel)⟩
theorem lw_p7 : lw_okq (⟨"ForgetStream$GlenReader", "readLong", "()V"⟩, 3) := ⟨⟨by decide +kernel, by decide +kernel⟩, List.mem_of_getElem? (i := 345) (by decide +kernel), List.mem_of_getElem? (i := 680) (by decide +kernel), List.mem_of_getElem? (i := 681) (by decide +kernel)⟩
theorem lw_p8 : lw_okq (⟨"ForgetStream$GlenReader", "wasTold", "(I)Z"⟩, 3) := ⟨⟨by decide +kernel, by decide +kernel⟩, List.mem_of_getElem? (i := 345) (by decide +kernel), List.mem_of_getElem? (i := 684) (by decide +kernel), List.mem_of_getElem? (i := 685) (by decide +kernel)⟩
theorem lw_p9 : lw_okq (⟨"ForgetStream$GlenReader", "takeOnce", "(I)V"⟩, 3) := ⟨⟨by decide +kernel, by decide +kernel⟩, List.mem_of_getElem? (i := 345) (by decide +kernel), List.mem_of_getElem? (i := 692) (by decide +kernel), List.mem_of_getElem? (i := 693) (by decide +kernel)⟩
theorem lw_p10 : lw_okq (⟨"ForgetStream$GlenReader", "readStream", "()V"⟩, 3) := ⟨⟨by decide +kernel, by decide +kernel⟩, List.mem_of_getElem? (i := 345) (by decide +kernel), List.mem_of_getElem? (i := 702) (by decide +kernel), List.mem_of_getElem? (i := 703) (by decide +kernel)⟩
theorem lw_p11 : lw_okq (⟨"ForgetStream$GlenReader", "readThing", "()V"⟩, 3) := ⟨⟨by decide +kernel, by decide +kernel⟩, List.mem_of_getElem? (i := 345) (by decide +kernel), List.mem_of_getElem? (i := 710) (by decide +kernel), List.mem_of_getElem? (i := 711) (by decide +kernel)⟩
theorem lw_p12 : lw_okq (⟨"ForgetStream$GlenReader", "takeNewName", "()J"⟩, 3) := ⟨⟨by decide +kernel, by decide +kernel⟩, List.mem_of_getElem? (i := 345) (by decide +kernel), List.mem_of_getElem? (i := 719) (by decide +kernel), List.mem_of_getElem? (i := 720) (by decide +kernel)⟩
theorem lw_p13 : lw_okq (⟨"ForgetStream$Things", "place", "(III)V"⟩, 9) := ⟨⟨by decide +kernel, by decide +kernel⟩, List.mem_of_getElem? (i := 157) (by decide +kernel), List.mem_of_getElem? (i := 743) (by decide +kernel), List.mem_of_getElem? (i := 744) (by decide +kernel)⟩
theorem lw_p14 : lw_okq (⟨"ForgetStream$GlenReader", "readMill", "()V"⟩, 3) := ⟨⟨by decide +kernel, by decide +kernel⟩, List.mem_of_getElem? (i := 345) (by decide +kernel), List.mem_of_getElem? (i := 751) (by decide +kernel), List.mem_of_getElem? (i := 752) (by decide +kernel)⟩
theorem lw_p15 : lw_okq (⟨"ForgetStream$GlenReader", "takeKind", "()I"⟩, 3) := ⟨⟨by decide +kernel, by decide +kernel⟩, List.mem_of_getElem? (i := 345) (by decide +kernel), List.mem_of_getElem? (i := 755) (by decide +kernel), List.mem_of_getElem? (i := 756) (by decide +kernel)⟩
def lw_privs_1 : List (MethodName × Nat) := [(⟨"ForgetStream", "refuse", "(I)Z"⟩, 18), (⟨"ForgetStream", "accept", "()Z"⟩, 18), (⟨"ForgetStream", "whyNoPlace", "(II)I"⟩, 18), (⟨"ForgetStream", "refused", "(I)I"⟩, 18), (⟨"ForgetStream$Text", "takeWord", "()V"⟩, 11), (⟨"ForgetStream$Text", "takeNumber", "()V"⟩, 11), (⟨"ForgetStream$GlenReader", "readPart", "()V"⟩, 3), (⟨"ForgetStream$GlenReader", "readLong", "()V"⟩, 3), (⟨"ForgetStream$GlenReader", "wasTold", "(I)Z"⟩, 3), (⟨"ForgetStream$GlenReader", "takeOnce", "(I)V"⟩, 3), (⟨"ForgetStream$GlenReader", "readStream", "()V"⟩, 3), (⟨"ForgetStream$GlenReader", "readThing", "()V"⟩, 3), (⟨"ForgetStream$GlenReader", "takeNewName", "()J"⟩, 3), (⟨"ForgetStream$Things", "place", "(III)V"⟩, 9), (⟨"ForgetStream$GlenReader", "readMill", "()V"⟩, 3), (⟨"ForgetStream$GlenReader", "takeKind", "()I"⟩, 3)]
theorem lw_r1 : ∀ q ∈ lw_privs_1, lw_okq q := List.forall_mem_cons.mpr ⟨lw_p0, List.forall_mem_cons.mpr ⟨lw_p1, List.forall_mem_cons.mpr ⟨lw_p2, List.forall_mem_cons.mpr ⟨lw_p3, List.forall_mem_cons.mpr ⟨lw_p4, List.forall_mem_cons.mpr ⟨lw_p5, List.forall_mem_cons.mpr ⟨lw_p6, List.forall_mem_cons.mpr ⟨lw_p7, List.forall_mem_cons.mpr ⟨lw_p8, List.forall_mem_cons.mpr ⟨lw_p9, List.forall_mem_cons.mpr ⟨lw_p10, List.forall_mem_cons.mpr ⟨lw_p11, List.forall_mem_cons.mpr ⟨lw_p12, List.forall_mem_cons.mpr ⟨lw_p13, List.forall_mem_cons.mpr ⟨lw_p14, List.forall_mem_cons.mpr ⟨lw_p15, fun _ h => absurd h List.not_mem_nil⟩⟩⟩⟩⟩⟩⟩⟩⟩⟩⟩⟩⟩⟩⟩⟩
theorem lw_p16 : lw_okq (⟨"ForgetStream", "given", "(I)I"⟩, 18) := ⟨⟨by decide +kernel, by decide +kernel⟩, List.mem_of_getElem? (i := 22) (by decide +kernel), List.mem_of_getElem? (i := 793) (by decide +kernel), List.mem_of_getElem? (i := 794) (by decide +kernel)⟩
theorem lw_p17 : lw_okq (⟨"ForgetStream$DaysReader", "closeLatest", "()V"⟩, 5) := ⟨⟨by decide +kernel, by decide +kernel⟩, List.mem_of_getElem? (i := 361) (by decide +kernel), List.mem_of_getElem? (i := 810) (by decide +kernel), List.mem_of_getElem? (i := 811) (by decide +kernel)⟩
theorem lw_p18 : lw_okq (⟨"ForgetStream$DaysReader", "lookAtStep", "(I)V"⟩, 5) := ⟨⟨by decide +kernel, by decide +kernel⟩, List.mem_of_getElem? (i := 361) (by decide +kernel), List.mem_of_getElem? (i := 822) (by decide +kernel), List.mem_of_getElem? (i := 823) (by decide +kernel)⟩
theorem lw_p19 : lw_okq (⟨"ForgetStream$DaysReader", "readRest", "(I)I"⟩, 5) := ⟨⟨by decide +kernel, by decide +kernel⟩, List.mem_of_getElem? (i := 361) (by decide +kernel), List.mem_of_getElem? (i := 833) (by decide +kernel), List.mem_of_getElem? (i := 834) (by decide +kernel)⟩
theorem lw_p20 : lw_okq (⟨"ForgetStream$DaysReader", "takeThing", "()I"⟩, 5) := ⟨⟨by decide +kernel, by decide +kernel⟩, List.mem_of_getElem? (i := 361) (by decide +kernel), List.mem_of_getElem? (i := 838) (by decide +kernel), List.mem_of_getElem? (i := 839) (by decide +kernel)⟩
theorem lw_p21 : lw_okq (⟨"ForgetStream$DaysReader", "readTest", "()I"⟩, 5) := ⟨⟨by decide +kernel, by decide +kernel⟩, List.mem_of_getElem? (i := 361) (by decide +kernel), List.mem_of_getElem? (i := 844) (by decide +kernel), List.mem_of_getElem? (i := 845) (by decide +kernel)⟩
theorem lw_p22 : lw_okq (⟨"ForgetStream$DaysReader", "takeWay", "()I"⟩, 5) := ⟨⟨by decide +kernel, by decide +kernel⟩, List.mem_of_getElem? (i := 361) (by decide +kernel), List.mem_of_getElem? (i := 851) (by decide +kernel), List.mem_of_getElem? (i := 852) (by decide +kernel)⟩
theorem lw_p23 : lw_okq (⟨"ForgetStream$DaysReader", "takeMill", "()I"⟩, 5) := ⟨⟨by decide +kernel, by decide +kernel⟩, List.mem_of_getElem? (i := 361) (by decide +kernel), List.mem_of_getElem? (i := 855) (by decide +kernel), List.mem_of_getElem? (i := 856) (by decide +kernel)⟩
theorem lw_p24 : lw_okq (⟨"ForgetStream$DaysReader", "takeCompares", "()I"⟩, 5) := ⟨⟨by decide +kernel, by decide +kernel⟩, List.mem_of_getElem? (i := 361) (by decide +kernel), List.mem_of_getElem? (i := 860) (by decide +kernel), List.mem_of_getElem? (i := 861) (by decide +kernel)⟩
theorem lw_p25 : lw_okq (⟨"ForgetStream$DaysReader", "addStep", "(II)V"⟩, 5) := ⟨⟨by decide +kernel, by decide +kernel⟩, List.mem_of_getElem? (i := 361) (by decide +kernel), List.mem_of_getElem? (i := 864) (by decide +kernel), List.mem_of_getElem? (i := 865) (by decide +kernel)⟩
theorem lw_p26 : lw_okq (⟨"ForgetStream", "isThing", "(I)Z"⟩, 18) := ⟨⟨by decide +kernel, by decide +kernel⟩, List.mem_of_getElem? (i := 22) (by decide +kernel), List.mem_of_getElem? (i := 902) (by decide +kernel), List.mem_of_getElem? (i := 903) (by decide +kernel)⟩
theorem lw_p27 : lw_okq (⟨"ForgetStream", "isMill", "(I)Z"⟩, 18) := ⟨⟨by decide +kernel, by decide +kernel⟩, List.mem_of_getElem? (i := 22) (by decide +kernel), List.mem_of_getElem? (i := 922) (by decide +kernel), List.mem_of_getElem? (i := 923) (by decide +kernel)⟩
theorem lw_p28 : lw_okq (⟨"ForgetStream", "isCell", "(I)Z"⟩, 18) := ⟨⟨by decide +kernel, by decide +kernel⟩, List.mem_of_getElem? (i := 22) (by decide +kernel), List.mem_of_getElem? (i := 973) (by decide +kernel), List.mem_of_getElem? (i := 974) (by decide +kernel)⟩
theorem lw_p29 : lw_okq (⟨"ForgetStream", "givenOrNone", "(I)I"⟩, 18) := ⟨⟨by decide +kernel, by decide +kernel⟩, List.mem_of_getElem? (i := 22) (by decide +kernel), List.mem_of_getElem? (i := 1021) (by decide +kernel), List.mem_of_getElem? (i := 1022) (by decide +kernel)⟩
theorem lw_p30 : lw_okq (⟨"ForgetStream", "whyNotSoonest", "(I)I"⟩, 18) := ⟨⟨by decide +kernel, by decide +kernel⟩, List.mem_of_getElem? (i := 22) (by decide +kernel), List.mem_of_getElem? (i := 1088) (by decide +kernel), List.mem_of_getElem? (i := 1089) (by decide +kernel)⟩
theorem lw_p31 : lw_okq (⟨"ForgetStream", "whyNotDriven", "(IIII)I"⟩, 18) := ⟨⟨by decide +kernel, by decide +kernel⟩, List.mem_of_getElem? (i := 22) (by decide +kernel), List.mem_of_getElem? (i := 1105) (by decide +kernel), List.mem_of_getElem? (i := 1106) (by decide +kernel)⟩
def lw_privs_2 : List (MethodName × Nat) := [(⟨"ForgetStream", "given", "(I)I"⟩, 18), (⟨"ForgetStream$DaysReader", "closeLatest", "()V"⟩, 5), (⟨"ForgetStream$DaysReader", "lookAtStep", "(I)V"⟩, 5), (⟨"ForgetStream$DaysReader", "readRest", "(I)I"⟩, 5), (⟨"ForgetStream$DaysReader", "takeThing", "()I"⟩, 5), (⟨"ForgetStream$DaysReader", "readTest", "()I"⟩, 5), (⟨"ForgetStream$DaysReader", "takeWay", "()I"⟩, 5), (⟨"ForgetStream$DaysReader", "takeMill", "()I"⟩, 5), (⟨"ForgetStream$DaysReader", "takeCompares", "()I"⟩, 5), (⟨"ForgetStream$DaysReader", "addStep", "(II)V"⟩, 5), (⟨"ForgetStream", "isThing", "(I)Z"⟩, 18), (⟨"ForgetStream", "isMill", "(I)Z"⟩, 18), (⟨"ForgetStream", "isCell", "(I)Z"⟩, 18), (⟨"ForgetStream", "givenOrNone", "(I)I"⟩, 18), (⟨"ForgetStream", "whyNotSoonest", "(I)I"⟩, 18), (⟨"ForgetStream", "whyNotDriven", "(IIII)I"⟩, 18)]
theorem lw_r2 : ∀ q ∈ lw_privs_2, lw_okq q := List.forall_mem_cons.mpr ⟨lw_p16, List.forall_mem_cons.mpr ⟨lw_p17, List.forall_mem_cons.mpr ⟨lw_p18, List.forall_mem_cons.mpr ⟨lw_p19, List.forall_mem_cons.mpr ⟨lw_p20, List.forall_mem_cons.mpr ⟨lw_p21, List.forall_mem_cons.mpr ⟨lw_p22, List.forall_mem_cons.mpr ⟨lw_p23, List.forall_mem_cons.mpr ⟨lw_p24, List.forall_mem_cons.mpr ⟨lw_p25, List.forall_mem_cons.mpr ⟨lw_p26, List.forall_mem_cons.mpr ⟨lw_p27, List.forall_mem_cons.mpr ⟨lw_p28, List.forall_mem_cons.mpr ⟨lw_p29, List.forall_mem_cons.mpr ⟨lw_p30, List.forall_mem_cons.mpr ⟨lw_p31, fun _ h => absurd h List.not_mem_nil⟩⟩⟩⟩⟩⟩⟩⟩⟩⟩⟩⟩⟩⟩⟩⟩
theorem lw_p32 : lw_okq (⟨"ForgetStream", "whyNotMinded", "(III)I"⟩, 18) := ⟨⟨by decide +kernel, by decide +kernel⟩, List.mem_of_getElem? (i := 22) (by decide +kernel), List.mem_of_getElem? (i := 1122) (by decide +kernel), List.mem_of_getElem? (i := 1123) (by decide +kernel)⟩
theorem lw_p33 : lw_okq (⟨"ForgetStream", "whyTooFew", "(II)I"⟩, 18) := ⟨⟨by decide +kernel, by decide +kernel⟩, List.mem_of_getElem? (i := 22) (by decide +kernel), List.mem_of_getElem? (i := 1126) (by decide +kernel), List.mem_of_getElem? (i := 1127) (by decide +kernel)⟩
theorem lw_p34 : lw_okq (⟨"ForgetStream$Ahead", "countTurning", "(I)I"⟩, 8) := ⟨⟨by decide +kernel, by decide +kernel⟩, List.mem_of_getElem? (i := 386) (by decide +kernel), List.mem_of_getElem? (i := 1166) (by decide +kernel), List.mem_of_getElem? (i := 1167) (by decide +kernel)⟩
theorem lw_p35 : lw_okq (⟨"ForgetStream$Game", "weighMove", "(II)V"⟩, 9) := ⟨⟨by decide +kernel, by decide +kernel⟩, List.mem_of_getElem? (i := 422) (by decide +kernel), List.mem_of_getElem? (i := 1217) (by decide +kernel), List.mem_of_getElem? (i := 1218) (by decide +kernel)⟩
theorem lw_p36 : lw_okq (⟨"ForgetStream$Game", "leadIn", "(LForgetStream$Glen;)I"⟩, 9) := ⟨⟨by decide +kernel, by decide +kernel⟩, List.mem_of_getElem? (i := 422) (by decide +kernel), List.mem_of_getElem? (i := 1227) (by decide +kernel), List.mem_of_getElem? (i := 1228) (by decide +kernel)⟩
theorem lw_p37 : lw_okq (⟨"ForgetStream$Game", "worstReply", "()I"⟩, 9) := ⟨⟨by decide +kernel, by decide +kernel⟩, List.mem_of_getElem? (i := 422) (by decide +kernel), List.mem_of_getElem? (i := 1231) (by decide +kernel), List.mem_of_getElem? (i := 1232) (by decide +kernel)⟩
theorem lw_p38 : lw_okq (⟨"ForgetStream$Game", "comesToMindTooLate", "(I)Z"⟩, 9) := ⟨⟨by decide +kernel, by decide +kernel⟩, List.mem_of_getElem? (i := 422) (by decide +kernel), List.mem_of_getElem? (i := 1235) (by decide +kernel), List.mem_of_getElem? (i := 1236) (by decide +kernel)⟩
theorem lw_p39 : lw_okq (⟨"ForgetStream", "tellFraction", "(JJ)Z"⟩, 18) := ⟨⟨by decide +kernel, by decide +kernel⟩, List.mem_of_getElem? (i := 22) (by decide +kernel), List.mem_of_getElem? (i := 1252) (by decide +kernel), List.mem_of_getElem? (i := 1253) (by decide +kernel)⟩
theorem lw_p40 : lw_okq (⟨"ForgetStream$Life", "behindEnd", "(I)I"⟩, 7) := ⟨⟨by decide +kernel, by decide +kernel⟩, List.mem_of_getElem? (i := 461) (by decide +kernel), List.mem_of_getElem? (i := 1287) (by decide +kernel), List.mem_of_getElem? (i := 1288) (by decide +kernel)⟩
theorem lw_p41 : lw_okq (⟨"ForgetStream$Life", "behindStep", "(I)I"⟩, 7) := ⟨⟨by decide +kernel, by decide +kernel⟩, List.mem_of_getElem? (i := 461) (by decide +kernel), List.mem_of_getElem? (i := 1291) (by decide +kernel), List.mem_of_getElem? (i := 1292) (by decide +kernel)⟩
theorem lw_p42 : lw_okq (⟨"ForgetStream$Life", "letPass", "(I)V"⟩, 7) := ⟨⟨by decide +kernel, by decide +kernel⟩, List.mem_of_getElem? (i := 461) (by decide +kernel), List.mem_of_getElem? (i := 1295) (by decide +kernel), List.mem_of_getElem? (i := 1296) (by decide +kernel)⟩
theorem lw_p43 : lw_okq (⟨"ForgetStream$Life", "throwThing", "(II)V"⟩, 7) := ⟨⟨by decide +kernel, by decide +kernel⟩, List.mem_of_getElem? (i := 461) (by decide +kernel), List.mem_of_getElem? (i := 1300) (by decide +kernel), List.mem_of_getElem? (i := 1301) (by decide +kernel)⟩
theorem lw_p44 : lw_okq (⟨"ForgetStream$Life", "fetchThing", "(I)V"⟩, 7) := ⟨⟨by decide +kernel, by decide +kernel⟩, List.mem_of_getElem? (i := 461) (by decide +kernel), List.mem_of_getElem? (i := 1306) (by decide +kernel), List.mem_of_getElem? (i := 1307) (by decide +kernel)⟩
theorem lw_p45 : lw_okq (⟨"ForgetStream$Life", "throwAny", "()V"⟩, 7) := ⟨⟨by decide +kernel, by decide +kernel⟩, List.mem_of_getElem? (i := 461) (by decide +kernel), List.mem_of_getElem? (i := 1312) (by decide +kernel), List.mem_of_getElem? (i := 1313) (by decide +kernel)⟩
theorem lw_p46 : lw_okq (⟨"ForgetStream$Life", "draw", "(I)I"⟩, 7) := ⟨⟨by decide +kernel, by decide +kernel⟩, List.mem_of_getElem? (i := 461) (by decide +kernel), List.mem_of_getElem? (i := 1316) (by decide +kernel), List.mem_of_getElem? (i := 1317) (by decide +kernel)⟩
theorem lw_p47 : lw_okq (⟨"ForgetStream$Life", "holds", "(I)Z"⟩, 7) := ⟨⟨by decide +kernel, by decide +kernel⟩, List.mem_of_getElem? (i := 461) (by decide +kernel), List.mem_of_getElem? (i := 1321) (by decide +kernel), List.mem_of_getElem? (i := 1322) (by decide +kernel)⟩
def lw_privs_3 : List (MethodName × Nat) := [(⟨"ForgetStream", "whyNotMinded", "(III)I"⟩, 18), (⟨"ForgetStream", "whyTooFew", "(II)I"⟩, 18), (⟨"ForgetStream$Ahead", "countTurning", "(I)I"⟩, 8), (⟨"ForgetStream$Game", "weighMove", "(II)V"⟩, 9), (⟨"ForgetStream$Game", "leadIn", "(LForgetStream$Glen;)I"⟩, 9), (⟨"ForgetStream$Game", "worstReply", "()I"⟩, 9), (⟨"ForgetStream$Game", "comesToMindTooLate", "(I)Z"⟩, 9), (⟨"ForgetStream", "tellFraction", "(JJ)Z"⟩, 18), (⟨"ForgetStream$Life", "behindEnd", "(I)I"⟩, 7), (⟨"ForgetStream$Life", "behindStep", "(I)I"⟩, 7), (⟨"ForgetStream$Life", "letPass", "(I)V"⟩, 7), (⟨"ForgetStream$Life", "throwThing", "(II)V"⟩, 7), (⟨"ForgetStream$Life", "fetchThing", "(I)V"⟩, 7), (⟨"ForgetStream$Life", "throwAny", "()V"⟩, 7), (⟨"ForgetStream$Life", "draw", "(I)I"⟩, 7), (⟨"ForgetStream$Life", "holds", "(I)Z"⟩, 7)]
theorem lw_r3 : ∀ q ∈ lw_privs_3, lw_okq q := List.forall_mem_cons.mpr ⟨lw_p32, List.forall_mem_cons.mpr ⟨lw_p33, List.forall_mem_cons.mpr ⟨lw_p34, List.forall_mem_cons.mpr ⟨lw_p35, List.forall_mem_cons.mpr ⟨lw_p36, List.forall_mem_cons.mpr ⟨lw_p37, List.forall_mem_cons.mpr ⟨lw_p38, List.forall_mem_cons.mpr ⟨lw_p39, List.forall_mem_cons.mpr ⟨lw_p40, List.forall_mem_cons.mpr ⟨lw_p41, List.forall_mem_cons.mpr ⟨lw_p42, List.forall_mem_cons.mpr ⟨lw_p43, List.forall_mem_cons.mpr ⟨lw_p44, List.forall_mem_cons.mpr ⟨lw_p45, List.forall_mem_cons.mpr ⟨lw_p46, List.forall_mem_cons.mpr ⟨lw_p47, fun _ h => absurd h List.not_mem_nil⟩⟩⟩⟩⟩⟩⟩⟩⟩⟩⟩⟩⟩⟩⟩⟩
theorem lw_p48 : lw_okq (⟨"ForgetStreamModel", "plain", "(I)V"⟩, 44) := ⟨⟨by decide +kernel, by decide +kernel⟩, List.mem_of_getElem? (i := 1348) (by decide +kernel), List.mem_of_getElem? (i := 1354) (by decide +kernel), List.mem_of_getElem? (i := 1355) (by decide +kernel)⟩
theorem lw_p49 : lw_okq (⟨"ForgetStreamModel", "is", "(I)Z"⟩, 44) := ⟨⟨by decide +kernel, by decide +kernel⟩, List.mem_of_getElem? (i := 1348) (by decide +kernel), List.mem_of_getElem? (i := 1510) (by decide +kernel), List.mem_of_getElem? (i := 1511) (by decide +kernel)⟩
theorem lw_p50 : lw_okq (⟨"ForgetStreamModel", "wrongPlace", "(II)I"⟩, 44) := ⟨⟨by decide +kernel, by decide +kernel⟩, List.mem_of_getElem? (i := 1348) (by decide +kernel), List.mem_of_getElem? (i := 1518) (by decide +kernel), List.mem_of_getElem? (i := 1519) (by decide +kernel)⟩
theorem lw_p51 : lw_okq (⟨"ForgetStreamModel", "four", "(I)V"⟩, 44) := ⟨⟨by decide +kernel, by decide +kernel⟩, List.mem_of_getElem? (i := 1348) (by decide +kernel), List.mem_of_getElem? (i := 1538) (by decide +kernel), List.mem_of_getElem? (i := 1539) (by decide +kernel)⟩
theorem lw_p52 : lw_okq (⟨"ForgetStreamModel", "begins", "(II)Z"⟩, 44) := ⟨⟨by decide +kernel, by decide +kernel⟩, List.mem_of_getElem? (i := 1348) (by decide +kernel), List.mem_of_getElem? (i := 1550) (by decide +kernel), List.mem_of_getElem? (i := 1551) (by decide +kernel)⟩
theorem lw_p53 : lw_okq (⟨"ForgetStreamModel", "ahead", "()V"⟩, 44) := ⟨⟨by decide +kernel, by decide +kernel⟩, List.mem_of_getElem? (i := 1348) (by decide +kernel), List.mem_of_getElem? (i := 1554) (by decide +kernel), List.mem_of_getElem? (i := 1555) (by decide +kernel)⟩
theorem lw_p54 : lw_okq (⟨"ForgetStreamModel", "byteAt", "(I)I"⟩, 44) := ⟨⟨by decide +kernel, by decide +kernel⟩, List.mem_of_getElem? (i := 1348) (by decide +kernel), List.mem_of_getElem? (i := 1558) (by decide +kernel), List.mem_of_getElem? (i := 1559) (by decide +kernel)⟩
theorem lw_p55 : lw_okq (⟨"ForgetStreamModel", "refuse", "(I)I"⟩, 44) := ⟨⟨by decide +kernel, by decide +kernel⟩, List.mem_of_getElem? (i := 1348) (by decide +kernel), List.mem_of_getElem? (i := 1570) (by decide +kernel), List.mem_of_getElem? (i := 1571) (by decide +kernel)⟩
theorem lw_p56 : lw_okq (⟨"ForgetStreamModel", "glenPart", "()Z"⟩, 44) := ⟨⟨by decide +kernel, by decide +kernel⟩, List.mem_of_getElem? (i := 1348) (by decide +kernel), List.mem_of_getElem? (i := 1574) (by decide +kernel), List.mem_of_getElem? (i := 1575) (by decide +kernel)⟩
theorem lw_p57 : lw_okq (⟨"ForgetStreamModel", "inWords", "(Ljava/lang/String;)I"⟩, 44) := ⟨⟨by decide +kernel, by decide +kernel⟩, List.mem_of_getElem? (i := 1348) (by decide +kernel), List.mem_of_getElem? (i := 1579) (by decide +kernel), List.mem_of_getElem? (i := 1580) (by decide +kernel)⟩
theorem lw_p58 : lw_okq (⟨"ForgetStreamModel", "fails", "(I)Z"⟩, 44) := ⟨⟨by decide +kernel, by decide +kernel⟩, List.mem_of_getElem? (i := 1348) (by decide +kernel), List.mem_of_getElem? (i := 1585) (by decide +kernel), List.mem_of_getElem? (i := 1586) (by decide +kernel)⟩
theorem lw_p59 : lw_okq (⟨"ForgetStreamModel", "number", "(III)Z"⟩, 44) := ⟨⟨by decide +kernel, by decide +kernel⟩, List.mem_of_getElem? (i := 1348) (by decide +kernel), List.mem_of_getElem? (i := 1589) (by decide +kernel), List.mem_of_getElem? (i := 1590) (by decide +kernel)⟩
theorem lw_p60 : lw_okq (⟨"ForgetStreamModel", "aStream", "()Z"⟩, 44) := ⟨⟨by decide +kernel, by decide +kernel⟩, List.mem_of_getElem? (i := 1348) (by decide +kernel), List.mem_of_getElem? (i := 1593) (by decide +kernel), List.mem_of_getElem? (i := 1594) (by decide +kernel)⟩
theorem lw_p61 : lw_okq (⟨"ForgetStreamModel", "newCell", "(I)Z"⟩, 44) := ⟨⟨by decide +kernel, by decide +kernel⟩, List.mem_of_getElem? (i := 1348) (by decide +kernel), List.mem_of_getElem? (i := 1597) (by decide +kernel), List.mem_of_getElem? (i := 1598) (by decide +kernel)⟩
theorem lw_p62 : lw_okq (⟨"ForgetStreamModel", "isThere", "(I)Z"⟩, 44) := ⟨⟨by decide +kernel, by decide +kernel⟩, List.mem_of_getElem? (i := 1348) (by decide +kernel), List.mem_of_getElem? (i := 1601) (by decide +kernel), List.mem_of_getElem? (i := 1602) (by decide +kernel)⟩
theorem lw_p63 : lw_okq (⟨"ForgetStreamModel", "aThing", "()Z"⟩, 44) := ⟨⟨by decide +kernel, by decide +kernel⟩, List.mem_of_getElem? (i := 1348) (by decide +kernel), List.mem_of_getElem? (i := 1605) (by decide +kernel), List.mem_of_getElem? (i := 1606) (by decide +kernel)⟩
def lw_privs_4 : List (MethodName × Nat) := [(⟨"ForgetStreamModel", "plain", "(I)V"⟩, 44), (⟨"ForgetStreamModel", "is", "(I)Z"⟩, 44), (⟨"ForgetStreamModel", "wrongPlace", "(II)I"⟩, 44), (⟨"ForgetStreamModel", "four", "(I)V"⟩, 44), (⟨"ForgetStreamModel", "begins", "(II)Z"⟩, 44), (⟨"ForgetStreamModel", "ahead", "()V"⟩, 44), (⟨"ForgetStreamModel", "byteAt", "(I)I"⟩, 44), (⟨"ForgetStreamModel", "refuse", "(I)I"⟩, 44), (⟨"ForgetStreamModel", "glenPart", "()Z"⟩, 44), (⟨"ForgetStreamModel", "inWords", "(Ljava/lang/String;)I"⟩, 44), (⟨"ForgetStreamModel", "fails", "(I)Z"⟩, 44), (⟨"ForgetStreamModel", "number", "(III)Z"⟩, 44), (⟨"ForgetStreamModel", "aStream", "()Z"⟩, 44), (⟨"ForgetStreamModel", "newCell", "(I)Z"⟩, 44), (⟨"ForgetStreamModel", "isThere", "(I)Z"⟩, 44), (⟨"ForgetStreamModel", "aThing", "()Z"⟩, 44)]
theorem lw_r4 : ∀ q ∈ lw_privs_4, lw_okq q := List.forall_mem_cons.mpr ⟨lw_p48, List.forall_mem_cons.mpr ⟨lw_p49, List.forall_mem_cons.mpr ⟨lw_p50, List.forall_mem_cons.mpr ⟨lw_p51, List.forall_mem_cons.mpr ⟨lw_p52, List.forall_mem_cons.mpr ⟨lw_p53, List.forall_mem_cons.mpr ⟨lw_p54, List.forall_mem_cons.mpr ⟨lw_p55, List.forall_mem_cons.mpr ⟨lw_p56, List.forall_mem_cons.mpr ⟨lw_p57, List.forall_mem_cons.mpr ⟨lw_p58, List.forall_mem_cons.mpr ⟨lw_p59, List.forall_mem_cons.mpr ⟨lw_p60, List.forall_mem_cons.mpr ⟨lw_p61, List.forall_mem_cons.mpr ⟨lw_p62, List.forall_mem_cons.mpr ⟨lw_p63, fun _ h => absurd h List.not_mem_nil⟩⟩⟩⟩⟩⟩⟩⟩⟩⟩⟩⟩⟩⟩⟩⟩
theorem lw_p64 : lw_okq (⟨"ForgetStreamModel", "newOne", "(III)Z"⟩, 44) := ⟨⟨by decide +kernel, by decide +kernel⟩, List.mem_of_getElem? (i := 1348) (by decide +kernel), List.mem_of_getElem? (i := 1612) (by decide +kernel), List.mem_of_getElem? (i := 1613) (by decide +kernel)⟩
theorem lw_p65 : lw_okq (⟨"ForgetStreamModel", "isName", "(Ljava/lang/String;)Z"⟩, 44) := ⟨⟨by decide +kernel, by decide +kernel⟩, List.mem_of_getElem? (i := 1348) (by decide +kernel), List.mem_of_getElem? (i := 1616) (by decide +kernel), List.mem_of_getElem? (i := 1617) (by decide +kernel)⟩
theorem lw_p66 : lw_okq (⟨"ForgetStreamModel", "findHere", "(II)I"⟩, 44) := ⟨⟨by decide +kernel, by decide +kernel⟩, List.mem_of_getElem? (i := 1348) (by decide +kernel), List.mem_of_getElem? (i := 1620) (by decide +kernel), List.mem_of_getElem? (i := 1621) (by decide +kernel)⟩
theorem lw_p67 : lw_okq (⟨"ForgetStreamModel", "nameHere", "()J"⟩, 44) := ⟨⟨by decide +kernel, by decide +kernel⟩, List.mem_of_getElem? (i := 1348) (by decide +kernel), List.mem_of_getElem? (i := 1624) (by decide +kernel), List.mem_of_getElem? (i := 1625) (by decide +kernel)⟩
theorem lw_p68 : lw_okq (⟨"ForgetStreamModel", "wantWord", "(Ljava/lang/String;I)Z"⟩, 44) := ⟨⟨by decide +kernel, by decide +kernel⟩, List.mem_of_getElem? (i := 1348) (by decide +kernel), List.mem_of_getElem? (i := 1628) (by decide +kernel), List.mem_of_getElem? (i := 1629) (by decide +kernel)⟩
theorem lw_p69 : lw_okq (⟨"ForgetStreamModel", "aMill", "()Z"⟩, 44) := ⟨⟨by decide +kernel, by decide +kernel⟩, List.mem_of_getElem? (i := 1348) (by decide +kernel), List.mem_of_getElem? (i := 1632) (by decide +kernel), List.mem_of_getElem? (i := 1633) (by decide +kernel)⟩
theorem lw_p70 : lw_okq (⟨"ForgetStreamModel", "wantSign", "(I)Z"⟩, 44) := ⟨⟨by decide +kernel, by decide +kernel⟩, List.mem_of_getElem? (i := 1348) (by decide +kernel), List.mem_of_getElem? (i := 1639) (by decide +kernel), List.mem_of_getElem? (i := 1640) (by decide +kernel)⟩
theorem lw_p71 : lw_okq (⟨"ForgetStreamModel", "isSign", "(I)Z"⟩, 44) := ⟨⟨by decide +kernel, by decide +kernel⟩, List.mem_of_getElem? (i := 1348) (by decide +kernel), List.mem_of_getElem? (i := 1643) (by decide +kernel), List.mem_of_getElem? (i := 1644) (by decide +kernel)⟩
theorem lw_p72 : lw_okq (⟨"ForgetStreamModel", "taken", "(I)I"⟩, 44) := ⟨⟨by decide +kernel, by decide +kernel⟩, List.mem_of_getElem? (i := 1348) (by decide +kernel), List.mem_of_getElem? (i := 1647) (by decide +kernel), List.mem_of_getElem? (i := 1648) (by decide +kernel)⟩
theorem lw_p73 : lw_okq (⟨"ForgetStreamModel", "gives", "(I)I"⟩, 44) := ⟨⟨by decide +kernel, by decide +kernel⟩, List.mem_of_getElem? (i := 1348) (by decide +kernel), List.mem_of_getElem? (i := 1651) (by decide +kernel), List.mem_of_getElem? (i := 1652) (by decide +kernel)⟩
theorem lw_p74 : lw_okq (⟨"ForgetStreamModel", "dayStep", "()Z"⟩, 44) := ⟨⟨by decide +kernel, by decide +kernel⟩, List.mem_of_getElem? (i := 1348) (by decide +kernel), List.mem_of_getElem? (i := 1659) (by decide +kernel), List.mem_of_getElem? (i := 1660) (by decide +kernel)⟩
theorem lw_p75 : lw_okq (⟨"ForgetStreamModel", "dayOrder", "(II)Z"⟩, 44) := ⟨⟨by decide +kernel, by decide +kernel⟩, List.mem_of_getElem? (i := 1348) (by decide +kernel), List.mem_of_getElem? (i := 1663) (by decide +kernel), List.mem_of_getElem? (i := 1664) (by decide +kernel)⟩
theorem lw_p76 : lw_okq (⟨"ForgetStreamModel", "thingTo", "(I)Z"⟩, 44) := ⟨⟨by decide +kernel, by decide +kernel⟩, List.mem_of_getElem? (i := 1348) (by decide +kernel), List.mem_of_getElem? (i := 1667) (by decide +kernel), List.mem_of_getElem? (i := 1668) (by decide +kernel)⟩
theorem lw_p77 : lw_okq (⟨"ForgetStreamModel", "oldOne", "(III)Z"⟩, 44) := ⟨⟨by decide +kernel, by decide +kernel⟩, List.mem_of_getElem? (i := 1348) (by decide +kernel), List.mem_of_getElem? (i := 1671) (by decide +kernel), List.mem_of_getElem? (i := 1672) (by decide +kernel)⟩
theorem lw_p78 : lw_okq (⟨"ForgetStreamModel", "test", "(I)Z"⟩, 44) := ⟨⟨by decide +kernel, by decide +kernel⟩, List.mem_of_getElem? (i := 1348) (by decide +kernel), List.mem_of_getElem? (i := 1675) (by decide +kernel), List.mem_of_getElem? (i := 1676) (by decide +kernel)⟩
theorem lw_p79 : lw_okq (⟨"ForgetStreamModel", "thingsThat", "(I)I"⟩, 44) := ⟨⟨by decide +kernel, by decide +kernel⟩, List.mem_of_getElem? (i := 1348) (by decide +kernel), List.mem_of_getElem? (i := 1683) (by decide +kernel), List.mem_of_getElem? (i := 1684) (by decide +kernel)⟩
def lw_privs_5 : List (MethodName × Nat) := [(⟨"ForgetStreamModel", "newOne", "(III)Z"⟩, 44), (⟨"ForgetStreamModel", "isName", "(Ljava/lang/String;)Z"⟩, 44), (⟨"ForgetStreamModel", "findHere", "(II)I"⟩, 44), (⟨"ForgetStreamModel", "nameHere", "()J"⟩, 44), (⟨"ForgetStreamModel", "wantWord", "(Ljava/lang/String;I)Z"⟩, 44), (⟨"ForgetStreamModel", "aMill", "()Z"⟩, 44), (⟨"ForgetStreamModel", "wantSign", "(I)Z"⟩, 44), (⟨"ForgetStreamModel", "isSign", "(I)Z"⟩, 44), (⟨"ForgetStreamModel", "taken", "(I)I"⟩, 44), (⟨"ForgetStreamModel", "gives", "(I)I"⟩, 44), (⟨"ForgetStreamModel", "dayStep", "()Z"⟩, 44), (⟨"ForgetStreamModel", "dayOrder", "(II)Z"⟩, 44), (⟨"ForgetStreamModel", "thingTo", "(I)Z"⟩, 44), (⟨"ForgetStreamModel", "oldOne", "(III)Z"⟩, 44), (⟨"ForgetStreamModel", "test", "(I)Z"⟩, 44), (⟨"ForgetStreamModel", "thingsThat", "(I)I"⟩, 44)]
theorem lw_r5 : ∀ q ∈ lw_privs_5, lw_okq q := List.forall_mem_cons.mpr ⟨lw_p64, List.forall_mem_cons.mpr ⟨lw_p65, List.forall_mem_cons.mpr ⟨lw_p66, List.forall_mem_cons.mpr ⟨lw_p67, List.forall_mem_cons.mpr ⟨lw_p68, List.forall_mem_cons.mpr ⟨lw_p69, List.forall_mem_cons.mpr ⟨lw_p70, List.forall_mem_cons.mpr ⟨lw_p71, List.forall_mem_cons.mpr ⟨lw_p72, List.forall_mem_cons.mpr ⟨lw_p73, List.forall_mem_cons.mpr ⟨lw_p74, List.forall_mem_cons.mpr ⟨lw_p75, List.forall_mem_cons.mpr ⟨lw_p76, List.forall_mem_cons.mpr ⟨lw_p77, List.forall_mem_cons.mpr ⟨lw_p78, List.forall_mem_cons.mpr ⟨lw_p79, fun _ h => absurd h List.not_mem_nil⟩⟩⟩⟩⟩⟩⟩⟩⟩⟩⟩⟩⟩⟩⟩⟩
theorem lw_p80 : lw_okq (⟨"ForgetStreamModel", "isRemembered", "(I)Z"⟩, 44) := ⟨⟨by decide +kernel, by decide +kernel⟩, List.mem_of_getElem? (i := 1348) (by decide +kernel), List.mem_of_getElem? (i := 1687) (by decide +kernel), List.mem_of_getElem? (i := 1688) (by decide +kernel)⟩
theorem lw_p81 : lw_okq (⟨"ForgetStreamModel", "thingOf", "(II)I"⟩, 44) := ⟨⟨by decide +kernel, by decide +kernel⟩, List.mem_of_getElem? (i := 1348) (by decide +kernel), List.mem_of_getElem? (i := 1691) (by decide +kernel), List.mem_of_getElem? (i := 1692) (by decide +kernel)⟩
theorem lw_p82 : lw_okq (⟨"ForgetStreamModel", "weightOf", "(I)I"⟩, 44) := ⟨⟨by decide +kernel, by decide +kernel⟩, List.mem_of_getElem? (i := 1348) (by decide +kernel), List.mem_of_getElem? (i := 1695) (by decide +kernel), List.mem_of_getElem? (i := 1696) (by decide +kernel)⟩
theorem lw_p83 : lw_okq (⟨"ForgetStreamModel", "isIn", "(II)Z"⟩, 44) := ⟨⟨by decide +kernel, by decide +kernel⟩, List.mem_of_getElem? (i := 1348) (by decide +kernel), List.mem_of_getElem? (i := 1699) (by decide +kernel), List.mem_of_getElem? (i := 1700) (by decide +kernel)⟩
theorem lw_p84 : lw_okq (⟨"ForgetStreamModel", "isThing", "(I)Z"⟩, 44) := ⟨⟨by decide +kernel, by decide +kernel⟩, List.mem_of_getElem? (i := 1348) (by decide +kernel), List.mem_of_getElem? (i := 1707) (by decide +kernel), List.mem_of_getElem? (i := 1708) (by decide +kernel)⟩
theorem lw_p85 : lw_okq (⟨"ForgetStreamModel", "isMill", "(I)Z"⟩, 44) := ⟨⟨by decide +kernel, by decide +kernel⟩, List.mem_of_getElem? (i := 1348) (by decide +kernel), List.mem_of_getElem? (i := 1719) (by decide +kernel), List.mem_of_getElem? (i := 1720) (by decide +kernel)⟩
theorem lw_p86 : lw_okq (⟨"ForgetStreamModel", "millOf", "(II)I"⟩, 44) := ⟨⟨by decide +kernel, by decide +kernel⟩, List.mem_of_getElem? (i := 1348) (by decide +kernel), List.mem_of_getElem? (i := 1723) (by decide +kernel), List.mem_of_getElem? (i := 1724) (by decide +kernel)⟩
theorem lw_p87 : lw_okq (⟨"ForgetStreamModel", "goalNow", "()I"⟩, 44) := ⟨⟨by decide +kernel, by decide +kernel⟩, List.mem_of_getElem? (i := 1348) (by decide +kernel), List.mem_of_getElem? (i := 1731) (by decide +kernel), List.mem_of_getElem? (i := 1732) (by decide +kernel)⟩
theorem lw_p88 : lw_okq (⟨"ForgetStreamModel", "mindedMost", "()I"⟩, 44) := ⟨⟨by decide +kernel, by decide +kernel⟩, List.mem_of_getElem? (i := 1348) (by decide +kernel), List.mem_of_getElem? (i := 1735) (by decide +kernel), List.mem_of_getElem? (i := 1736) (by decide +kernel)⟩
theorem lw_p89 : lw_okq (⟨"ForgetStreamModel", "sea", "()I"⟩, 44) := ⟨⟨by decide +kernel, by decide +kernel⟩, List.mem_of_getElem? (i := 1348) (by decide +kernel), List.mem_of_getElem? (i := 1739) (by decide +kernel), List.mem_of_getElem? (i := 1740) (by decide +kernel)⟩
theorem lw_p90 : lw_okq (⟨"ForgetStreamModel", "orNone", "(I)I"⟩, 44) := ⟨⟨by decide +kernel, by decide +kernel⟩, List.mem_of_getElem? (i := 1348) (by decide +kernel), List.mem_of_getElem? (i := 1747) (by decide +kernel), List.mem_of_getElem? (i := 1748) (by decide +kernel)⟩
theorem lw_p91 : lw_okq (⟨"ForgetStreamModel", "hoursGo", "(I)I"⟩, 44) := ⟨⟨by decide +kernel, by decide +kernel⟩, List.mem_of_getElem? (i := 1348) (by decide +kernel), List.mem_of_getElem? (i := 1759) (by decide +kernel), List.mem_of_getElem? (i := 1760) (by decide +kernel)⟩
theorem lw_p92 : lw_okq (⟨"ForgetStreamModel", "hourGoes", "()Z"⟩, 44) := ⟨⟨by decide +kernel, by decide +kernel⟩, List.mem_of_getElem? (i := 1348) (by decide +kernel), List.mem_of_getElem? (i := 1763) (by decide +kernel), List.mem_of_getElem? (i := 1764) (by decide +kernel)⟩
theorem lw_p93 : lw_okq (⟨"ForgetStreamModel", "goes", "()V"⟩, 44) := ⟨⟨by decide +kernel, by decide +kernel⟩, List.mem_of_getElem? (i := 1348) (by decide +kernel), List.mem_of_getElem? (i := 1767) (by decide +kernel), List.mem_of_getElem? (i := 1768) (by decide +kernel)⟩
theorem lw_p94 : lw_okq (⟨"ForgetStreamModel", "takesUp", "()V"⟩, 44) := ⟨⟨by decide +kernel, by decide +kernel⟩, List.mem_of_getElem? (i := 1348) (by decide +kernel), List.mem_of_getElem? (i := 1771) (by decide +kernel), List.mem_of_getElem? (i := 1772) (by decide +kernel)⟩
theorem lw_p95 : lw_okq (⟨"ForgetStreamModel", "comesHome", "(I)V"⟩, 44) := ⟨⟨by decide +kernel, by decide +kernel⟩, List.mem_of_getElem? (i := 1348) (by decide +kernel), List.mem_of_getElem? (i := 1775) (by decide +kernel), List.mem_of_getElem? (i := 1776) (by decide +kernel)⟩
def lw_privs_6 : List (MethodName × Nat) := [(⟨"ForgetStreamModel", "isRemembered", "(I)Z"⟩, 44), (⟨"ForgetStreamModel", "thingOf", "(II)I"⟩, 44), (⟨"ForgetStreamModel", "weightOf", "(I)I"⟩, 44), (⟨"ForgetStreamModel", "isIn", "(II)Z"⟩, 44), (⟨"ForgetStreamModel", "isThing", "(I)Z"⟩, 44), (⟨"ForgetStreamModel", "isMill", "(I)Z"⟩, 44), (⟨"ForgetStreamModel", "millOf", "(II)I"⟩, 44), (⟨"ForgetStreamModel", "goalNow", "()I"⟩, 44), (⟨"ForgetStreamModel", "mindedMost", "()I"⟩, 44), (⟨"ForgetStreamModel", "sea", "()I"⟩, 44), (⟨"ForgetStreamModel", "orNone", "(I)I"⟩, 44), (⟨"ForgetStreamModel", "hoursGo", "(I)I"⟩, 44), (⟨"ForgetStreamModel", "hourGoes", "()Z"⟩, 44), (⟨"ForgetStreamModel", "goes", "()V"⟩, 44), (⟨"ForgetStreamModel", "takesUp", "()V"⟩, 44), (⟨"ForgetStreamModel", "comesHome", "(I)V"⟩, 44)]
theorem lw_r6 : ∀ q ∈ lw_privs_6, lw_okq q := List.forall_mem_cons.mpr ⟨lw_p80, List.forall_mem_cons.mpr ⟨lw_p81, List.forall_mem_cons.mpr ⟨lw_p82, List.forall_mem_cons.mpr ⟨lw_p83, List.forall_mem_cons.mpr ⟨lw_p84, List.forall_mem_cons.mpr ⟨lw_p85, List.forall_mem_cons.mpr ⟨lw_p86, List.forall_mem_cons.mpr ⟨lw_p87, List.forall_mem_cons.mpr ⟨lw_p88, List.forall_mem_cons.mpr ⟨lw_p89, List.forall_mem_cons.mpr ⟨lw_p90, List.forall_mem_cons.mpr ⟨lw_p91, List.forall_mem_cons.mpr ⟨lw_p92, List.forall_mem_cons.mpr ⟨lw_p93, List.forall_mem_cons.mpr ⟨lw_p94, List.forall_mem_cons.mpr ⟨lw_p95, fun _ h => absurd h List.not_mem_nil⟩⟩⟩⟩⟩⟩⟩⟩⟩⟩⟩⟩⟩⟩⟩⟩
theorem lw_p96 : lw_okq (⟨"ForgetStreamModel", "lasts", "(I)V"⟩, 44) := ⟨⟨by decide +kernel, by decide +kernel⟩, List.mem_of_getElem? (i := 1348) (by decide +kernel), List.mem_of_getElem? (i := 1779) (by decide +kernel), List.mem_of_getElem? (i := 1780) (by decide +kernel)⟩
theorem lw_p97 : lw_okq (⟨"ForgetStreamModel", "isCell", "(I)Z"⟩, 44) := ⟨⟨by decide +kernel, by decide +kernel⟩, List.mem_of_getElem? (i := 1348) (by decide +kernel), List.mem_of_getElem? (i := 1787) (by decide +kernel), List.mem_of_getElem? (i := 1788) (by decide +kernel)⟩
theorem lw_p98 : lw_okq (⟨"ForgetStreamModel", "tosses", "(II)Z"⟩, 44) := ⟨⟨by decide +kernel, by decide +kernel⟩, List.mem_of_getElem? (i := 1348) (by decide +kernel), List.mem_of_getElem? (i := 1791) (by decide +kernel), List.mem_of_getElem? (i := 1792) (by decide +kernel)⟩
theorem lw_p99 : lw_okq (⟨"ForgetStreamModel", "isFree", "(I)Z"⟩, 44) := ⟨⟨by decide +kernel, by decide +kernel⟩, List.mem_of_getElem? (i := 1348) (by decide +kernel), List.mem_of_getElem? (i := 1795) (by decide +kernel), List.mem_of_getElem? (i := 1796) (by decide +kernel)⟩
theorem lw_p100 : lw_okq (⟨"ForgetStreamModel", "fetches", "(I)Z"⟩, 44) := ⟨⟨by decide +kernel, by decide +kernel⟩, List.mem_of_getElem? (i := 1348) (by decide +kernel), List.mem_of_getElem? (i := 1803) (by decide +kernel), List.mem_of_getElem? (i := 1804) (by decide +kernel)⟩
theorem lw_p101 : lw_okq (⟨"ForgetStreamModel", "keeps", "(I)V"⟩, 44) := ⟨⟨by decide +kernel, by decide +kernel⟩, List.mem_of_getElem? (i := 1348) (by decide +kernel), List.mem_of_getElem? (i := 1840) (by decide +kernel), List.mem_of_getElem? (i := 1841) (by decide +kernel)⟩
theorem lw_p102 : lw_okq (⟨"ForgetStreamModel", "restores", "(I)V"⟩, 44) := ⟨⟨by decide +kernel, by decide +kernel⟩, List.mem_of_getElem? (i := 1348) (by decide +kernel), List.mem_of_getElem? (i := 1844) (by decide +kernel), List.mem_of_getElem? (i := 1845) (by decide +kernel)⟩
theorem lw_p103 : lw_okq (⟨"ForgetStreamModel", "homeOf", "(I)I"⟩, 44) := ⟨⟨by decide +kernel, by decide +kernel⟩, List.mem_of_getElem? (i := 1348) (by decide +kernel), List.mem_of_getElem? (i := 1856) (by decide +kernel), List.mem_of_getElem? (i := 1857) (by decide +kernel)⟩
theorem lw_p104 : lw_okq (⟨"ForgetStreamModel", "nextTurn", "(I)I"⟩, 44) := ⟨⟨by decide +kernel, by decide +kernel⟩, List.mem_of_getElem? (i := 1348) (by decide +kernel), List.mem_of_getElem? (i := 1868) (by decide +kernel), List.mem_of_getElem? (i := 1869) (by decide +kernel)⟩
theorem lw_p105 : lw_okq (⟨"ForgetStreamModel", "ringing", "()I"⟩, 44) := ⟨⟨by decide +kernel, by decide +kernel⟩, List.mem_of_getElem? (i := 1348) (by decide +kernel), List.mem_of_getElem? (i := 1884) (by decide +kernel), List.mem_of_getElem? (i := 1885) (by decide +kernel)⟩
theorem lw_p106 : lw_okq (⟨"ForgetStreamModel", "stands", "(I)V"⟩, 44) := ⟨⟨by decide +kernel, by decide +kernel⟩, List.mem_of_getElem? (i := 1348) (by decide +kernel), List.mem_of_getElem? (i := 1888) (by decide +kernel), List.mem_of_getElem? (i := 1889) (by decide +kernel)⟩
theorem lw_p107 : lw_okq (⟨"ForgetStreamModel", "areAlike", "(II)Z"⟩, 44) := ⟨⟨by decide +kernel, by decide +kernel⟩, List.mem_of_getElem? (i := 1348) (by decide +kernel), List.mem_of_getElem? (i := 1892) (by decide +kernel), List.mem_of_getElem? (i := 1893) (by decide +kernel)⟩
theorem lw_p108 : lw_okq (⟨"ForgetStreamModel", "laysSoonest", "(I)V"⟩, 44) := ⟨⟨by decide +kernel, by decide +kernel⟩, List.mem_of_getElem? (i := 1348) (by decide +kernel), List.mem_of_getElem? (i := 1905) (by decide +kernel), List.mem_of_getElem? (i := 1906) (by decide +kernel)⟩
theorem lw_p109 : lw_okq (⟨"ForgetStreamModel", "wrongDrive", "(IIII)I"⟩, 44) := ⟨⟨by decide +kernel, by decide +kernel⟩, List.mem_of_getElem? (i := 1348) (by decide +kernel), List.mem_of_getElem? (i := 1918) (by decide +kernel), List.mem_of_getElem? (i := 1919) (by decide +kernel)⟩
theorem lw_p110 : lw_okq (⟨"ForgetStreamModel", "laysDrive", "(IIII)V"⟩, 44) := ⟨⟨by decide +kernel, by decide +kernel⟩, List.mem_of_getElem? (i := 1348) (by decide +kernel), List.mem_of_getElem? (i := 1923) (by decide +kernel), List.mem_of_getElem? (i := 1924) (by decide +kernel)⟩
theorem lw_p111 : lw_okq (⟨"ForgetStreamModel", "wrongMinded", "(III)I"⟩, 44) := ⟨⟨by decide +kernel, by decide +kernel⟩, List.mem_of_getElem? (i := 1348) (by decide +kernel), List.mem_of_getElem? (i := 1935) (by decide +kernel), List.mem_of_getElem? (i := 1936) (by decide +kernel)⟩
def lw_privs_7 : List (MethodName × Nat) := [(⟨"ForgetStreamModel", "lasts", "(I)V"⟩, 44), (⟨"ForgetStreamModel", "isCell", "(I)Z"⟩, 44), (⟨"ForgetStreamModel", "tosses", "(II)Z"⟩, 44), (⟨"ForgetStreamModel", "isFree", "(I)Z"⟩, 44), (⟨"ForgetStreamModel", "fetches", "(I)Z"⟩, 44), (⟨"ForgetStreamModel", "keeps", "(I)V"⟩, 44), (⟨"ForgetStreamModel", "restores", "(I)V"⟩, 44), (⟨"ForgetStreamModel", "homeOf", "(I)I"⟩, 44), (⟨"ForgetStreamModel", "nextTurn", "(I)I"⟩, 44), (⟨"ForgetStreamModel", "ringing", "()I"⟩, 44), (⟨"ForgetStreamModel", "stands", "(I)V"⟩, 44), (⟨"ForgetStreamModel", "areAlike", "(II)Z"⟩, 44), (⟨"ForgetStreamModel", "laysSoonest", "(I)V"⟩, 44), (⟨"ForgetStreamModel", "wrongDrive", "(IIII)I"⟩, 44), (⟨"ForgetStreamModel", "laysDrive", "(IIII)V"⟩, 44), (⟨"ForgetStreamModel", "wrongMinded", "(III)I"⟩, 44)]
theorem lw_r7 : ∀ q ∈ lw_privs_7, lw_okq q := List.forall_mem_cons.mpr ⟨lw_p96, List.forall_mem_cons.mpr ⟨lw_p97, List.forall_mem_cons.mpr ⟨lw_p98, List.forall_mem_cons.mpr ⟨lw_p99, List.forall_mem_cons.mpr ⟨lw_p100, List.forall_mem_cons.mpr ⟨lw_p101, List.forall_mem_cons.mpr ⟨lw_p102, List.forall_mem_cons.mpr ⟨lw_p103, List.forall_mem_cons.mpr ⟨lw_p104, List.forall_mem_cons.mpr ⟨lw_p105, List.forall_mem_cons.mpr ⟨lw_p106, List.forall_mem_cons.mpr ⟨lw_p107, List.forall_mem_cons.mpr ⟨lw_p108, List.forall_mem_cons.mpr ⟨lw_p109, List.forall_mem_cons.mpr ⟨lw_p110, List.forall_mem_cons.mpr ⟨lw_p111, fun _ h => absurd h List.not_mem_nil⟩⟩⟩⟩⟩⟩⟩⟩⟩⟩⟩⟩⟩⟩⟩⟩
theorem lw_p112 : lw_okq (⟨"ForgetStreamModel", "laysMinds", "(III)V"⟩, 44) := ⟨⟨by decide +kernel, by decide +kernel⟩, List.mem_of_getElem? (i := 1348) (by decide +kernel), List.mem_of_getElem? (i := 1940) (by decide +kernel), List.mem_of_getElem? (i := 1941) (by decide +kernel)⟩
theorem lw_p113 : lw_okq (⟨"ForgetStreamModel", "heaviestOf", "()I"⟩, 44) := ⟨⟨by decide +kernel, by decide +kernel⟩, List.mem_of_getElem? (i := 1348) (by decide +kernel), List.mem_of_getElem? (i := 1957) (by decide +kernel), List.mem_of_getElem? (i := 1958) (by decide +kernel)⟩
theorem lw_p114 : lw_okq (⟨"ForgetStreamModel", "laysRide", "(II)V"⟩, 44) := ⟨⟨by decide +kernel, by decide +kernel⟩, List.mem_of_getElem? (i := 1348) (by decide +kernel), List.mem_of_getElem? (i := 1972) (by decide +kernel), List.mem_of_getElem? (i := 1973) (by decide +kernel)⟩
theorem lw_p115 : lw_okq (⟨"ForgetStreamModel", "areTwo", "(II)Z"⟩, 44) := ⟨⟨by decide +kernel, by decide +kernel⟩, List.mem_of_getElem? (i := 1348) (by decide +kernel), List.mem_of_getElem? (i := 1984) (by decide +kernel), List.mem_of_getElem? (i := 1985) (by decide +kernel)⟩
theorem lw_p116 : lw_okq (⟨"ForgetStreamModel", "playing", "(III)I"⟩, 44) := ⟨⟨by decide +kernel, by decide +kernel⟩, List.mem_of_getElem? (i := 1348) (by decide +kernel), List.mem_of_getElem? (i := 1988) (by decide +kernel), List.mem_of_getElem? (i := 1989) (by decide +kernel)⟩
theorem lw_p117 : lw_okq (⟨"ForgetStreamModel", "groundMore", "(II)I"⟩, 44) := ⟨⟨by decide +kernel, by decide +kernel⟩, List.mem_of_getElem? (i := 1348) (by decide +kernel), List.mem_of_getElem? (i := 1992) (by decide +kernel), List.mem_of_getElem? (i := 1993) (by decide +kernel)⟩
theorem lw_p118 : lw_okq (⟨"ForgetStreamModel", "settles", "(II)V"⟩, 44) := ⟨⟨by decide +kernel, by decide +kernel⟩, List.mem_of_getElem? (i := 1348) (by decide +kernel), List.mem_of_getElem? (i := 1999) (by decide +kernel), List.mem_of_getElem? (i := 2000) (by decide +kernel)⟩
theorem lw_p119 : lw_okq (⟨"ForgetStreamModel", "tellsBy", "(JJ)Z"⟩, 44) := ⟨⟨by decide +kernel, by decide +kernel⟩, List.mem_of_getElem? (i := 1348) (by decide +kernel), List.mem_of_getElem? (i := 2011) (by decide +kernel), List.mem_of_getElem? (i := 2012) (by decide +kernel)⟩
theorem lw_p120 : lw_okq (⟨"ForgetStreamModel", "lives", "(I)V"⟩, 44) := ⟨⟨by decide +kernel, by decide +kernel⟩, List.mem_of_getElem? (i := 1348) (by decide +kernel), List.mem_of_getElem? (i := 2029) (by decide +kernel), List.mem_of_getElem? (i := 2030) (by decide +kernel)⟩
theorem lw_p121 : lw_okq (⟨"ForgetStreamModel", "does", "(I)Z"⟩, 44) := ⟨⟨by decide +kernel, by decide +kernel⟩, List.mem_of_getElem? (i := 1348) (by decide +kernel), List.mem_of_getElem? (i := 2033) (by decide +kernel), List.mem_of_getElem? (i := 2034) (by decide +kernel)⟩
theorem lw_p122 : lw_okq (⟨"ForgetStreamModel", "hoursBy", "(I)Z"⟩, 44) := ⟨⟨by decide +kernel, by decide +kernel⟩, List.mem_of_getElem? (i := 1348) (by decide +kernel), List.mem_of_getElem? (i := 2037) (by decide +kernel), List.mem_of_getElem? (i := 2038) (by decide +kernel)⟩
theorem lw_p123 : lw_okq (⟨"ForgetStreamModel", "allHomes", "()I"⟩, 44) := ⟨⟨by decide +kernel, by decide +kernel⟩, List.mem_of_getElem? (i := 1348) (by decide +kernel), List.mem_of_getElem? (i := 2041) (by decide +kernel), List.mem_of_getElem? (i := 2042) (by decide +kernel)⟩
theorem lw_p124 : lw_okq (⟨"ForgetStreamModel", "throwsAny", "()Z"⟩, 44) := ⟨⟨by decide +kernel, by decide +kernel⟩, List.mem_of_getElem? (i := 1348) (by decide +kernel), List.mem_of_getElem? (i := 2045) (by decide +kernel), List.mem_of_getElem? (i := 2046) (by decide +kernel)⟩
theorem lw_p125 : lw_okq (⟨"ForgetStreamModel", "draw", "(I)I"⟩, 44) := ⟨⟨by decide +kernel, by decide +kernel⟩, List.mem_of_getElem? (i := 1348) (by decide +kernel), List.mem_of_getElem? (i := 2049) (by decide +kernel), List.mem_of_getElem? (i := 2050) (by decide +kernel)⟩
theorem lw_p126 : lw_okq (⟨"ForgetStreamModel", "holds", "(I)Z"⟩, 44) := ⟨⟨by decide +kernel, by decide +kernel⟩, List.mem_of_getElem? (i := 1348) (by decide +kernel), List.mem_of_getElem? (i := 2054) (by decide +kernel), List.mem_of_getElem? (i := 2055) (by decide +kernel)⟩
theorem lw_p127 : lw_okq (⟨"ForgetStreamModel", "behindEnds", "(I)I"⟩, 44) := ⟨⟨by decide +kernel, by decide +kernel⟩, List.mem_of_getElem? (i := 1348) (by decide +kernel), List.mem_of_getElem? (i := 2058) (by decide +kernel), List.mem_of_getElem? (i := 2059) (by decide +kernel)⟩
def lw_privs_8 : List (MethodName × Nat) := [(⟨"ForgetStreamModel", "laysMinds", "(III)V"⟩, 44), (⟨"ForgetStreamModel", "heaviestOf", "()I"⟩, 44), (⟨"ForgetStreamModel", "laysRide", "(II)V"⟩, 44), (⟨"ForgetStreamModel", "areTwo", "(II)Z"⟩, 44), (⟨"ForgetStreamModel", "playing", "(III)I"⟩, 44), (⟨"ForgetStreamModel", "groundMore", "(II)I"⟩, 44), (⟨"ForgetStreamModel", "settles", "(II)V"⟩, 44), (⟨"ForgetStreamModel", "tellsBy", "(JJ)Z"⟩, 44), (⟨"ForgetStreamModel", "lives", "(I)V"⟩, 44), (⟨"ForgetStreamModel", "does", "(I)Z"⟩, 44), (⟨"ForgetStreamModel", "hoursBy", "(I)Z"⟩, 44), (⟨"ForgetStreamModel", "allHomes", "()I"⟩, 44), (⟨"ForgetStreamModel", "throwsAny", "()Z"⟩, 44), (⟨"ForgetStreamModel", "draw", "(I)I"⟩, 44), (⟨"ForgetStreamModel", "holds", "(I)Z"⟩, 44), (⟨"ForgetStreamModel", "behindEnds", "(I)I"⟩, 44)]
theorem lw_r8 : ∀ q ∈ lw_privs_8, lw_okq q := List.forall_mem_cons.mpr ⟨lw_p112, List.forall_mem_cons.mpr ⟨lw_p113, List.forall_mem_cons.mpr ⟨lw_p114, List.forall_mem_cons.mpr ⟨lw_p115, List.forall_mem_cons.mpr ⟨lw_p116, List.forall_mem_cons.mpr ⟨lw_p117, List.forall_mem_cons.mpr ⟨lw_p118, List.forall_mem_cons.mpr ⟨lw_p119, List.forall_mem_cons.mpr ⟨lw_p120, List.forall_mem_cons.mpr ⟨lw_p121, List.forall_mem_cons.mpr ⟨lw_p122, List.forall_mem_cons.mpr ⟨lw_p123, List.forall_mem_cons.mpr ⟨lw_p124, List.forall_mem_cons.mpr ⟨lw_p125, List.forall_mem_cons.mpr ⟨lw_p126, List.forall_mem_cons.mpr ⟨lw_p127, fun _ h => absurd h List.not_mem_nil⟩⟩⟩⟩⟩⟩⟩⟩⟩⟩⟩⟩⟩⟩⟩⟩
theorem lw_p128 : lw_okq (⟨"ForgetStreamModel", "copies", "(II)V"⟩, 44) := ⟨⟨by decide +kernel, by decide +kernel⟩, List.mem_of_getElem? (i := 1348) (by decide +kernel), List.mem_of_getElem? (i := 2074) (by decide +kernel), List.mem_of_getElem? (i := 2075) (by decide +kernel)⟩
def lw_privs_9 : List (MethodName × Nat) := [(⟨"ForgetStreamModel", "copies", "(II)V"⟩, 44)]
theorem lw_r9 : ∀ q ∈ lw_privs_9, lw_okq q := List.forall_mem_cons.mpr ⟨lw_p128, fun _ h => absurd h List.not_mem_nil⟩
def lw_privs : List (MethodName × Nat) := lw_privs_1 ++ (lw_privs_2 ++ (lw_privs_3 ++ (lw_privs_4 ++ (lw_privs_5 ++ (lw_privs_6 ++ (lw_privs_7 ++ (lw_privs_8 ++ (lw_privs_9))))))))
def lw_tbl : List Cond := k2_sels lw_privs ++ tables_1
theorem lw_privs_ok : ∀ q ∈ lw_privs, lw_okq q := by
  show ∀ q ∈ lw_privs_1 ++ (lw_privs_2 ++ (lw_privs_3 ++ (lw_privs_4 ++ (lw_privs_5 ++ (lw_privs_6 ++ (lw_privs_7 ++ (lw_privs_8 ++ (lw_privs_9)))))))), lw_okq q
  exact List.forall_mem_append.mpr ⟨lw_r1, List.forall_mem_append.mpr ⟨lw_r2, List.forall_mem_append.mpr ⟨lw_r3, List.forall_mem_append.mpr ⟨lw_r4, List.forall_mem_append.mpr ⟨lw_r5, List.forall_mem_append.mpr ⟨lw_r6, List.forall_mem_append.mpr ⟨lw_r7, List.forall_mem_append.mpr ⟨lw_r8, lw_r9⟩⟩⟩⟩⟩⟩⟩⟩
def RX0 : String := "ForgetStream$Ahead"
def TX0 : u_T := fun k => match k with
  | 0 => ("ForgetStream$Ahead", "best", "I", false)
  | 1 => ("ForgetStream$Ahead", "firstCell", "I", false)
  | 2 => ("ForgetStream$Ahead", "secondCell", "I", false)
  | 3 => ("ForgetStream$Ahead", "waited", "I", false)
  | 4 => ("ForgetStream$Ahead", "fewThings", "[J", true)
  | 5 => ("ForgetStream$Ahead", "otherThings", "[J", true)
  | 6 => ("ForgetStream$Ahead", "turnsBy", "[J", true)
  | _ => ("ForgetStream$Ahead", "fits", "[Z", true)
def tyX0 : Nat → FieldType := fun k => match k with
  | 0 => .int
  | 1 => .int
  | 2 => .int
  | 3 => .int
  | 4 => .array .long
  | 5 => .array .long
  | 6 => .array .long
  | _ => .array .boolean
abbrev wsX00 : List Cond := u_ws RX0 TX0 8
theorem nmX0 : ∀ a, a < 8 → ∀ b, b < 8 → a ≠ b → (TX0 a).2.1 ≠ (TX0 b).2.1 := by decide +kernel
theorem tyX0_ok : ∀ k, k < 8 → parseFieldDescriptor (TX0 k).2.2.1 = some (tyX0 k) := by decide +kernel
abbrev cX0_init : ByteArray := prog_2_method_1_code
def yX0_init : MethodName := ⟨RX0, "<init>", "()V"⟩
abbrev cX0_ringOf : ByteArray := prog_2_method_2_code
def yX0_ringOf : MethodName := ⟨RX0, "ringOf", "(LForgetStream$Glen;)I"⟩
abbrev cX0_cellToTurnIn : ByteArray := prog_2_method_3_code
def yX0_cellToTurnIn : MethodName := ⟨RX0, "cellToTurnIn", "(LForgetStream$Glen;LForgetStream$Glen;II)I"⟩
abbrev cX0_findSoonest : ByteArray := prog_2_method_4_code
def yX0_findSoonest : MethodName := ⟨RX0, "findSoonest", "(LForgetStream$Glen;LForgetStream$Glen;I)V"⟩
abbrev cX0_findDrive : ByteArray := prog_2_method_5_code
def yX0_findDrive : MethodName := ⟨RX0, "findDrive", "(LForgetStream$Glen;LForgetStream$Glen;IIII)V"⟩
abbrev cX0_canBeSeen : ByteArray := prog_2_method_6_code
def yX0_canBeSeen : MethodName := ⟨RX0, "canBeSeen", "([JI)Z"⟩
abbrev cX0_findMinds : ByteArray := prog_2_method_7_code
def yX0_findMinds : MethodName := ⟨RX0, "findMinds", "(LForgetStream$Glen;LForgetStream$Glen;I[JI)V"⟩
abbrev cX0_fitsAll : ByteArray := prog_2_method_8_code
def yX0_fitsAll : MethodName := ⟨RX0, "fitsAll", "(J[JI)Z"⟩
abbrev cX0_countMinds : ByteArray := prog_2_method_9_code
def yX0_countMinds : MethodName := ⟨RX0, "countMinds", "()I"⟩
abbrev cX0_leastMind : ByteArray := prog_2_method_10_code
def yX0_leastMind : MethodName := ⟨RX0, "leastMind", "()I"⟩
abbrev cX0_greatestMind : ByteArray := prog_2_method_11_code
def yX0_greatestMind : MethodName := ⟨RX0, "greatestMind", "()I"⟩
abbrev cX0_bestQuestion : ByteArray := prog_2_method_12_code
def yX0_bestQuestion : MethodName := ⟨RX0, "bestQuestion", "()I"⟩
abbrev cX0_countTurning : ByteArray := prog_2_method_13_code
def yX0_countTurning : MethodName := ⟨RX0, "countTurning", "(I)I"⟩
abbrev cX0_sail : ByteArray := prog_2_method_14_code
def yX0_sail : MethodName := ⟨RX0, "sail", "(LForgetStream$Glen;II)V"⟩
def RX1 : String := "ForgetStream$Days"
def TX1 : u_T := fun k => match k with
  | 0 => ("ForgetStream$Days", "there", "Z", false)
  | 1 => ("ForgetStream$Days", "steps", "I", false)
  | 2 => ("ForgetStream$Days", "count", "I", false)
  | 3 => ("ForgetStream$Days", "kind", "[I", true)
  | 4 => ("ForgetStream$Days", "which", "[I", true)
  | 5 => ("ForgetStream$Days", "much", "[I", true)
  | 6 => ("ForgetStream$Days", "sign", "[I", true)
  | _ => ("ForgetStream$Days", "partner", "[I", true)
def tyX1 : Nat → FieldType := fun k => match k with
  | 0 => .boolean
  | 1 => .int
  | 2 => .int
  | 3 => .array .int
  | 4 => .array .int
  | 5 => .array .int
  | 6 => .array .int
  | _ => .array .int
abbrev wsX10 : List Cond := u_ws RX1 TX1 8
theorem nmX1 : ∀ a, a < 8 → ∀ b, b < 8 → a ≠ b → (TX1 a).2.1 ≠ (TX1 b).2.1 := by decide +kernel
theorem tyX1_ok : ∀ k, k < 8 → parseFieldDescriptor (TX1 k).2.2.1 = some (tyX1 k) := by decide +kernel
abbrev cX1_init : ByteArray := prog_3_method_1_code
def yX1_init : MethodName := ⟨RX1, "<init>", "()V"⟩
abbrev cX1_clear : ByteArray := prog_3_method_2_code
def yX1_clear : MethodName := ⟨RX1, "clear", "()V"⟩
abbrev cX1_copyFrom : ByteArray := prog_3_method_3_code
def yX1_copyFrom : MethodName := ⟨RX1, "copyFrom", "(LForgetStream$Days;)V"⟩
abbrev cX1_addEntry : ByteArray := prog_3_method_4_code
def yX1_addEntry : MethodName := ⟨RX1, "addEntry", "(IIII)I"⟩
abbrev cX1_pair : ByteArray := prog_3_method_5_code
def yX1_pair : MethodName := ⟨RX1, "pair", "(II)V"⟩
abbrev cX1_drawsLots : ByteArray := prog_3_method_6_code
def yX1_drawsLots : MethodName := ⟨RX1, "drawsLots", "()Z"⟩
def RX2 : String := "ForgetStream$DaysReader"
def TX2 : u_T := fun k => match k with
  | 0 => ("ForgetStream$DaysReader", "days", "LForgetStream$Days;", true)
  | 1 => ("ForgetStream$DaysReader", "text", "LForgetStream$Text;", false)
  | 2 => ("ForgetStream$DaysReader", "glen", "LForgetStream$Glen;", false)
  | 3 => ("ForgetStream$DaysReader", "open", "[I", true)
  | _ => ("ForgetStream$DaysReader", "depth", "I", false)
def tyX2 : Nat → FieldType := fun k => match k with
  | 0 => .object "ForgetStream$Days"
  | 1 => .object "ForgetStream$Text"
  | 2 => .object "ForgetStream$Glen"
  | 3 => .array .int
  | _ => .int
abbrev wsX20 : List Cond := u_ws RX2 TX2 5
theorem nmX2 : ∀ a, a < 5 → ∀ b, b < 5 → a ≠ b → (TX2 a).2.1 ≠ (TX2 b).2.1 := by decide +kernel
theorem tyX2_ok : ∀ k, k < 5 → parseFieldDescriptor (TX2 k).2.2.1 = some (tyX2 k) := by decide +kernel
abbrev cX2_init : ByteArray := prog_4_method_1_code
def yX2_init : MethodName := ⟨RX2, "<init>", "()V"⟩
abbrev cX2_readFor : ByteArray := prog_4_method_2_code
def yX2_readFor : MethodName := ⟨RX2, "readFor", "(LForgetStream$Glen;LForgetStream$Text;)V"⟩
abbrev cX2_closeLatest : ByteArray := prog_4_method_3_code
def yX2_closeLatest : MethodName := ⟨RX2, "closeLatest", "()V"⟩
abbrev cX2_lookAtStep : ByteArray := prog_4_method_4_code
def yX2_lookAtStep : MethodName := ⟨RX2, "lookAtStep", "(I)V"⟩
abbrev cX2_addStep : ByteArray := prog_4_method_5_code
def yX2_addStep : MethodName := ⟨RX2, "addStep", "(II)V"⟩
abbrev cX2_opens : ByteArray := prog_4_method_6_code
def yX2_opens : MethodName := ⟨RX2, "opens", "(I)Z"⟩
abbrev cX2_isStep : ByteArray := prog_4_method_7_code
def yX2_isStep : MethodName := ⟨RX2, "isStep", "(I)Z"⟩
abbrev cX2_readRest : ByteArray := prog_4_method_8_code
def yX2_readRest : MethodName := ⟨RX2, "readRest", "(I)I"⟩
abbrev cX2_readTest : ByteArray := prog_4_method_9_code
def yX2_readTest : MethodName := ⟨RX2, "readTest", "()I"⟩
abbrev cX2_isTest : ByteArray := prog_4_method_10_code
def yX2_isTest : MethodName := ⟨RX2, "isTest", "(I)Z"⟩
abbrev cX2_takeThing : ByteArray := prog_4_method_11_code
def yX2_takeThing : MethodName := ⟨RX2, "takeThing", "()I"⟩
abbrev cX2_takeMill : ByteArray := prog_4_method_12_code
def yX2_takeMill : MethodName := ⟨RX2, "takeMill", "()I"⟩
abbrev cX2_takeWay : ByteArray := prog_4_method_13_code
def yX2_takeWay : MethodName := ⟨RX2, "takeWay", "()I"⟩
abbrev cX2_takeCompares : ByteArray := prog_4_method_14_code
def yX2_takeCompares : MethodName := ⟨RX2, "takeCompares", "()I"⟩
def RX3 : String := "ForgetStream$Game"
def TX3 : u_T := fun k => match k with
  | 0 => ("ForgetStream$Game", "best", "I", false)
  | 1 => ("ForgetStream$Game", "bestThing", "I", false)
  | 2 => ("ForgetStream$Game", "bestCell", "I", false)
  | 3 => ("ForgetStream$Game", "now", "LForgetStream$Glen;", false)
  | 4 => ("ForgetStream$Game", "mill", "I", false)
  | 5 => ("ForgetStream$Game", "other", "I", false)
  | 6 => ("ForgetStream$Game", "turns", "I", false)
  | 7 => ("ForgetStream$Game", "behindFirst", "LForgetStream$Glen;", true)
  | _ => ("ForgetStream$Game", "behindSecond", "LForgetStream$Glen;", true)
def tyX3 : Nat → FieldType := fun k => match k with
  | 0 => .int
  | 1 => .int
  | 2 => .int
  | 3 => .object "ForgetStream$Glen"
  | 4 => .int
  | 5 => .int
  | 6 => .int
  | 7 => .object "ForgetStream$Glen"
  | _ => .object "ForgetStream$Glen"
abbrev wsX30 : List Cond := u_ws RX3 TX3 9
theorem nmX3 : ∀ a, a < 9 → ∀ b, b < 9 → a ≠ b → (TX3 a).2.1 ≠ (TX3 b).2.1 := by decide +kernel
theorem tyX3_ok : ∀ k, k < 9 → parseFieldDescriptor (TX3 k).2.2.1 = some (tyX3 k) := by decide +kernel
abbrev cX3_init : ByteArray := prog_5_method_1_code
def yX3_init : MethodName := ⟨RX3, "<init>", "()V"⟩
abbrev cX3_play : ByteArray := prog_5_method_2_code
def yX3_play : MethodName := ⟨RX3, "play", "(LForgetStream$Glen;III)V"⟩
abbrev cX3_weighMove : ByteArray := prog_5_method_3_code
def yX3_weighMove : MethodName := ⟨RX3, "weighMove", "(II)V"⟩
abbrev cX3_takeTurn : ByteArray := prog_5_method_4_code
def yX3_takeTurn : MethodName := ⟨RX3, "takeTurn", "(LForgetStream$Glen;LForgetStream$Glen;II)V"⟩
abbrev cX3_leadIn : ByteArray := prog_5_method_5_code
def yX3_leadIn : MethodName := ⟨RX3, "leadIn", "(LForgetStream$Glen;)I"⟩
abbrev cX3_worstReply : ByteArray := prog_5_method_6_code
def yX3_worstReply : MethodName := ⟨RX3, "worstReply", "()I"⟩
abbrev cX3_comesToMindTooLate : ByteArray := prog_5_method_7_code
def yX3_comesToMindTooLate : MethodName := ⟨RX3, "comesToMindTooLate", "(I)Z"⟩
def RX4 : String := "ForgetStream$Glen"
def TX4 : u_T := fun k => match k with
  | 0 => ("ForgetStream$Glen", "size", "I", false)
  | 1 => ("ForgetStream$Glen", "load", "I", false)
  | 2 => ("ForgetStream$Glen", "odds", "I", false)
  | 3 => ("ForgetStream$Glen", "at", "I", false)
  | 4 => ("ForgetStream$Glen", "way", "I", false)
  | 5 => ("ForgetStream$Glen", "hour", "I", false)
  | 6 => ("ForgetStream$Glen", "turns", "I", false)
  | 7 => ("ForgetStream$Glen", "things", "LForgetStream$Things;", true)
  | _ => ("ForgetStream$Glen", "mills", "LForgetStream$Mills;", true)
def tyX4 : Nat → FieldType := fun k => match k with
  | 0 => .int
  | 1 => .int
  | 2 => .int
  | 3 => .int
  | 4 => .int
  | 5 => .int
  | 6 => .int
  | 7 => .object "ForgetStream$Things"
  | _ => .object "ForgetStream$Mills"
abbrev wsX40 : List Cond := u_ws RX4 TX4 9
theorem nmX4 : ∀ a, a < 9 → ∀ b, b < 9 → a ≠ b → (TX4 a).2.1 ≠ (TX4 b).2.1 := by decide +kernel
theorem tyX4_ok : ∀ k, k < 9 → parseFieldDescriptor (TX4 k).2.2.1 = some (tyX4 k) := by decide +kernel
abbrev cX4_init : ByteArray := prog_6_method_1_code
def yX4_init : MethodName := ⟨RX4, "<init>", "()V"⟩
abbrev cX4_clear : ByteArray := prog_6_method_2_code
def yX4_clear : MethodName := ⟨RX4, "clear", "()V"⟩
abbrev cX4_copyFrom : ByteArray := prog_6_method_3_code
def yX4_copyFrom : MethodName := ⟨RX4, "copyFrom", "(LForgetStream$Glen;)V"⟩
abbrev cX4_goBackTo : ByteArray := prog_6_method_4_code
def yX4_goBackTo : MethodName := ⟨RX4, "goBackTo", "(LForgetStream$Glen;)V"⟩
abbrev cX4_goalCell : ByteArray := prog_6_method_5_code
def yX4_goalCell : MethodName := ⟨RX4, "goalCell", "(I)I"⟩
abbrev cX4_passHour : ByteArray := prog_6_method_6_code
def yX4_passHour : MethodName := ⟨RX4, "passHour", "()Z"⟩
abbrev cX4_passHours : ByteArray := prog_6_method_7_code
def yX4_passHours : MethodName := ⟨RX4, "passHours", "(I)I"⟩
abbrev cX4_hoursTillHome : ByteArray := prog_6_method_8_code
def yX4_hoursTillHome : MethodName := ⟨RX4, "hoursTillHome", "(II)I"⟩
abbrev cX4_hoursTillTurn : ByteArray := prog_6_method_9_code
def yX4_hoursTillTurn : MethodName := ⟨RX4, "hoursTillTurn", "(I)I"⟩
abbrev cX4_hoursTillQuiet : ByteArray := prog_6_method_10_code
def yX4_hoursTillQuiet : MethodName := ⟨RX4, "hoursTillQuiet", "(I)I"⟩
abbrev cX4_heaviestSet : ByteArray := prog_6_method_11_code
def yX4_heaviestSet : MethodName := ⟨RX4, "heaviestSet", "()I"⟩
def RX5 : String := "ForgetStream$GlenReader"
def TX5 : u_T := fun k => match k with
  | 0 => ("ForgetStream$GlenReader", "text", "LForgetStream$Text;", false)
  | 1 => ("ForgetStream$GlenReader", "glen", "LForgetStream$Glen;", false)
  | _ => ("ForgetStream$GlenReader", "toldOnce", "I", false)
def tyX5 : Nat → FieldType := fun k => match k with
  | 0 => .object "ForgetStream$Text"
  | 1 => .object "ForgetStream$Glen"
  | _ => .int
abbrev wsX50 : List Cond := u_ws RX5 TX5 3
theorem nmX5 : ∀ a, a < 3 → ∀ b, b < 3 → a ≠ b → (TX5 a).2.1 ≠ (TX5 b).2.1 := by decide +kernel
theorem tyX5_ok : ∀ k, k < 3 → parseFieldDescriptor (TX5 k).2.2.1 = some (tyX5 k) := by decide +kernel
abbrev cX5_init : ByteArray := prog_7_method_1_code
def yX5_init : MethodName := ⟨RX5, "<init>", "()V"⟩
abbrev cX5_readInto : ByteArray := prog_7_method_2_code
def yX5_readInto : MethodName := ⟨RX5, "readInto", "(LForgetStream$Glen;LForgetStream$Text;)V"⟩
abbrev cX5_readPart : ByteArray := prog_7_method_3_code
def yX5_readPart : MethodName := ⟨RX5, "readPart", "()V"⟩
abbrev cX5_wasTold : ByteArray := prog_7_method_4_code
def yX5_wasTold : MethodName := ⟨RX5, "wasTold", "(I)Z"⟩
abbrev cX5_takeOnce : ByteArray := prog_7_method_5_code
def yX5_takeOnce : MethodName := ⟨RX5, "takeOnce", "(I)V"⟩
abbrev cX5_readLong : ByteArray := prog_7_method_6_code
def yX5_readLong : MethodName := ⟨RX5, "readLong", "()V"⟩
abbrev cX5_readStream : ByteArray := prog_7_method_7_code
def yX5_readStream : MethodName := ⟨RX5, "readStream", "()V"⟩
abbrev cX5_readThing : ByteArray := prog_7_method_8_code
def yX5_readThing : MethodName := ⟨RX5, "readThing", "()V"⟩
abbrev cX5_readMill : ByteArray := prog_7_method_9_code
def yX5_readMill : MethodName := ⟨RX5, "readMill", "()V"⟩
abbrev cX5_takeNewName : ByteArray := prog_7_method_10_code
def yX5_takeNewName : MethodName := ⟨RX5, "takeNewName", "()J"⟩
abbrev cX5_takeKind : ByteArray := prog_7_method_11_code
def yX5_takeKind : MethodName := ⟨RX5, "takeKind", "()I"⟩
def RX6 : String := "ForgetStream$Life"
def TX6 : u_T := fun k => match k with
  | 0 => ("ForgetStream$Life", "steps", "I", false)
  | 1 => ("ForgetStream$Life", "missed", "I", false)
  | 2 => ("ForgetStream$Life", "left", "I", false)
  | 3 => ("ForgetStream$Life", "lot", "I", false)
  | 4 => ("ForgetStream$Life", "glen", "LForgetStream$Glen;", false)
  | 5 => ("ForgetStream$Life", "days", "LForgetStream$Days;", false)
  | _ => ("ForgetStream$Life", "rounds", "[I", true)
def tyX6 : Nat → FieldType := fun k => match k with
  | 0 => .int
  | 1 => .int
  | 2 => .int
  | 3 => .int
  | 4 => .object "ForgetStream$Glen"
  | 5 => .object "ForgetStream$Days"
  | _ => .array .int
abbrev wsX60 : List Cond := u_ws RX6 TX6 7
theorem nmX6 : ∀ a, a < 7 → ∀ b, b < 7 → a ≠ b → (TX6 a).2.1 ≠ (TX6 b).2.1 := by decide +kernel
theorem tyX6_ok : ∀ k, k < 7 → parseFieldDescriptor (TX6 k).2.2.1 = some (tyX6 k) := by decide +kernel
abbrev cX6_init : ByteArray := prog_8_method_1_code
def yX6_init : MethodName := ⟨RX6, "<init>", "()V"⟩
abbrev cX6_liveThrough : ByteArray := prog_8_method_2_code
def yX6_liveThrough : MethodName := ⟨RX6, "liveThrough", "(LForgetStream$Glen;LForgetStream$Days;I)V"⟩
abbrev cX6_behindEnd : ByteArray := prog_8_method_3_code
def yX6_behindEnd : MethodName := ⟨RX6, "behindEnd", "(I)I"⟩
abbrev cX6_behindStep : ByteArray := prog_8_method_4_code
def yX6_behindStep : MethodName := ⟨RX6, "behindStep", "(I)I"⟩
abbrev cX6_letPass : ByteArray := prog_8_method_5_code
def yX6_letPass : MethodName := ⟨RX6, "letPass", "(I)V"⟩
abbrev cX6_throwThing : ByteArray := prog_8_method_6_code
def yX6_throwThing : MethodName := ⟨RX6, "throwThing", "(II)V"⟩
abbrev cX6_fetchThing : ByteArray := prog_8_method_7_code
def yX6_fetchThing : MethodName := ⟨RX6, "fetchThing", "(I)V"⟩
abbrev cX6_throwAny : ByteArray := prog_8_method_8_code
def yX6_throwAny : MethodName := ⟨RX6, "throwAny", "()V"⟩
abbrev cX6_draw : ByteArray := prog_8_method_9_code
def yX6_draw : MethodName := ⟨RX6, "draw", "(I)I"⟩
abbrev cX6_holds : ByteArray := prog_8_method_10_code
def yX6_holds : MethodName := ⟨RX6, "holds", "(I)Z"⟩
abbrev cX6_compares : ByteArray := prog_8_method_11_code
def yX6_compares : MethodName := ⟨RX6, "compares", "(III)Z"⟩
def RX7 : String := "ForgetStream$Mills"
def TX7 : u_T := fun k => match k with
  | 0 => ("ForgetStream$Mills", "count", "I", false)
  | 1 => ("ForgetStream$Mills", "name", "[J", true)
  | 2 => ("ForgetStream$Mills", "cell", "[I", true)
  | 3 => ("ForgetStream$Mills", "kind", "[I", true)
  | _ => ("ForgetStream$Mills", "ground", "[I", true)
def tyX7 : Nat → FieldType := fun k => match k with
  | 0 => .int
  | 1 => .array .long
  | 2 => .array .int
  | 3 => .array .int
  | _ => .array .int
abbrev wsX70 : List Cond := u_ws RX7 TX7 5
theorem nmX7 : ∀ a, a < 5 → ∀ b, b < 5 → a ≠ b → (TX7 a).2.1 ≠ (TX7 b).2.1 := by decide +kernel
theorem tyX7_ok : ∀ k, k < 5 → parseFieldDescriptor (TX7 k).2.2.1 = some (tyX7 k) := by decide +kernel
abbrev cX7_init : ByteArray := prog_9_method_1_code
def yX7_init : MethodName := ⟨RX7, "<init>", "()V"⟩
abbrev cX7_copyFrom : ByteArray := prog_9_method_2_code
def yX7_copyFrom : MethodName := ⟨RX7, "copyFrom", "(LForgetStream$Mills;)V"⟩
abbrev cX7_copyGroundFrom : ByteArray := prog_9_method_3_code
def yX7_copyGroundFrom : MethodName := ⟨RX7, "copyGroundFrom", "(LForgetStream$Mills;)V"⟩
abbrev cX7_addMill : ByteArray := prog_9_method_4_code
def yX7_addMill : MethodName := ⟨RX7, "addMill", "(JII)I"⟩
abbrev cX7_numberOf : ByteArray := prog_9_method_5_code
def yX7_numberOf : MethodName := ⟨RX7, "numberOf", "(J)I"⟩
abbrev cX7_grindAt : ByteArray := prog_9_method_6_code
def yX7_grindAt : MethodName := ⟨RX7, "grindAt", "(II)V"⟩
abbrev cX7_groundInAll : ByteArray := prog_9_method_7_code
def yX7_groundInAll : MethodName := ⟨RX7, "groundInAll", "()I"⟩
def RX8 : String := "ForgetStream$Text"
def TX8 : u_T := fun k => match k with
  | 0 => ("ForgetStream$Text", "tape", "[B", true)
  | 1 => ("ForgetStream$Text", "taped", "I", false)
  | 2 => ("ForgetStream$Text", "keywords", "[J", true)
  | 3 => ("ForgetStream$Text", "length", "I", false)
  | 4 => ("ForgetStream$Text", "next", "I", false)
  | 5 => ("ForgetStream$Text", "kind", "I", false)
  | 6 => ("ForgetStream$Text", "start", "I", false)
  | 7 => ("ForgetStream$Text", "value", "I", false)
  | 8 => ("ForgetStream$Text", "letters", "J", false)
  | 9 => ("ForgetStream$Text", "fault", "I", false)
  | _ => ("ForgetStream$Text", "place", "I", false)
def tyX8 : Nat → FieldType := fun k => match k with
  | 0 => .array .byte
  | 1 => .int
  | 2 => .array .long
  | 3 => .int
  | 4 => .int
  | 5 => .int
  | 6 => .int
  | 7 => .int
  | 8 => .long
  | 9 => .int
  | _ => .int
abbrev wsX80 : List Cond := u_ws RX8 TX8 11
theorem nmX8 : ∀ a, a < 11 → ∀ b, b < 11 → a ≠ b → (TX8 a).2.1 ≠ (TX8 b).2.1 := by decide +kernel
theorem tyX8_ok : ∀ k, k < 11 → parseFieldDescriptor (TX8 k).2.2.1 = some (tyX8 k) := by decide +kernel
abbrev cX8_init : ByteArray := prog_10_method_1_code
def yX8_init : MethodName := ⟨RX8, "<init>", "()V"⟩
abbrev cX8_withLetter : ByteArray := prog_10_method_2_code
def yX8_withLetter : MethodName := ⟨RX8, "withLetter", "(JI)J"⟩
abbrev cX8_hasRoomFor : ByteArray := prog_10_method_3_code
def yX8_hasRoomFor : MethodName := ⟨RX8, "hasRoomFor", "(I)Z"⟩
abbrev cX8_append : ByteArray := prog_10_method_4_code
def yX8_append : MethodName := ⟨RX8, "append", "(I)V"⟩
abbrev cX8_open : ByteArray := prog_10_method_5_code
def yX8_open : MethodName := ⟨RX8, "open", "(I)V"⟩
abbrev cX8_isLetter : ByteArray := prog_10_method_6_code
def yX8_isLetter : MethodName := ⟨RX8, "isLetter", "(I)Z"⟩
abbrev cX8_isDigit : ByteArray := prog_10_method_7_code
def yX8_isDigit : MethodName := ⟨RX8, "isDigit", "(I)Z"⟩
abbrev cX8_advance : ByteArray := prog_10_method_8_code
def yX8_advance : MethodName := ⟨RX8, "advance", "()V"⟩
abbrev cX8_takeWord : ByteArray := prog_10_method_9_code
def yX8_takeWord : MethodName := ⟨RX8, "takeWord", "()V"⟩
abbrev cX8_takeNumber : ByteArray := prog_10_method_10_code
def yX8_takeNumber : MethodName := ⟨RX8, "takeNumber", "()V"⟩
abbrev cX8_fail : ByteArray := prog_10_method_11_code
def yX8_fail : MethodName := ⟨RX8, "fail", "(I)V"⟩
abbrev cX8_isGoingOn : ByteArray := prog_10_method_12_code
def yX8_isGoingOn : MethodName := ⟨RX8, "isGoingOn", "()Z"⟩
abbrev cX8_isWord : ByteArray := prog_10_method_13_code
def yX8_isWord : MethodName := ⟨RX8, "isWord", "(I)Z"⟩
abbrev cX8_keyword : ByteArray := prog_10_method_14_code
def yX8_keyword : MethodName := ⟨RX8, "keyword", "()I"⟩
abbrev cX8_takeKeyword : ByteArray := prog_10_method_15_code
def yX8_takeKeyword : MethodName := ⟨RX8, "takeKeyword", "(I)V"⟩
abbrev cX8_takeSemicolon : ByteArray := prog_10_method_16_code
def yX8_takeSemicolon : MethodName := ⟨RX8, "takeSemicolon", "()V"⟩
abbrev cX8_takeNumberOf : ByteArray := prog_10_method_17_code
def yX8_takeNumberOf : MethodName := ⟨RX8, "takeNumberOf", "(II)I"⟩
abbrev cX8_nameHere : ByteArray := prog_10_method_18_code
def yX8_nameHere : MethodName := ⟨RX8, "nameHere", "()J"⟩
def RX9 : String := "ForgetStream$Things"
def TX9 : u_T := fun k => match k with
  | 0 => ("ForgetStream$Things", "count", "I", false)
  | 1 => ("ForgetStream$Things", "name", "[J", true)
  | 2 => ("ForgetStream$Things", "weight", "[I", true)
  | 3 => ("ForgetStream$Things", "grip", "[I", true)
  | 4 => ("ForgetStream$Things", "mind", "[I", true)
  | 5 => ("ForgetStream$Things", "state", "[I", true)
  | 6 => ("ForgetStream$Things", "cell", "[I", true)
  | 7 => ("ForgetStream$Things", "age", "[I", true)
  | _ => ("ForgetStream$Things", "homes", "[I", true)
def tyX9 : Nat → FieldType := fun k => match k with
  | 0 => .int
  | 1 => .array .long
  | 2 => .array .int
  | 3 => .array .int
  | 4 => .array .int
  | 5 => .array .int
  | 6 => .array .int
  | 7 => .array .int
  | _ => .array .int
abbrev wsX90 : List Cond := u_ws RX9 TX9 9
theorem nmX9 : ∀ a, a < 9 → ∀ b, b < 9 → a ≠ b → (TX9 a).2.1 ≠ (TX9 b).2.1 := by decide +kernel
theorem tyX9_ok : ∀ k, k < 9 → parseFieldDescriptor (TX9 k).2.2.1 = some (tyX9 k) := by decide +kernel
abbrev cX9_init : ByteArray := prog_11_method_1_code
def yX9_init : MethodName := ⟨RX9, "<init>", "()V"⟩
abbrev cX9_copyFrom : ByteArray := prog_11_method_2_code
def yX9_copyFrom : MethodName := ⟨RX9, "copyFrom", "(LForgetStream$Things;)V"⟩
abbrev cX9_copyPlacesFrom : ByteArray := prog_11_method_3_code
def yX9_copyPlacesFrom : MethodName := ⟨RX9, "copyPlacesFrom", "(LForgetStream$Things;)V"⟩
abbrev cX9_addThing : ByteArray := prog_11_method_4_code
def yX9_addThing : MethodName := ⟨RX9, "addThing", "(JIII)I"⟩
abbrev cX9_numberOf : ByteArray := prog_11_method_5_code
def yX9_numberOf : MethodName := ⟨RX9, "numberOf", "(J)I"⟩
abbrev cX9_isFree : ByteArray := prog_11_method_6_code
def yX9_isFree : MethodName := ⟨RX9, "isFree", "(I)Z"⟩
abbrev cX9_isLying : ByteArray := prog_11_method_7_code
def yX9_isLying : MethodName := ⟨RX9, "isLying", "(I)Z"⟩
abbrev cX9_isRemembered : ByteArray := prog_11_method_8_code
def yX9_isRemembered : MethodName := ⟨RX9, "isRemembered", "(I)Z"⟩
abbrev cX9_throwInto : ByteArray := prog_11_method_9_code
def yX9_throwInto : MethodName := ⟨RX9, "throwInto", "(II)V"⟩
abbrev cX9_bringAshore : ByteArray := prog_11_method_10_code
def yX9_bringAshore : MethodName := ⟨RX9, "bringAshore", "(I)V"⟩
abbrev cX9_place : ByteArray := prog_11_method_11_code
def yX9_place : MethodName := ⟨RX9, "place", "(III)V"⟩
abbrev cX9_longestRemembered : ByteArray := prog_11_method_12_code
def yX9_longestRemembered : MethodName := ⟨RX9, "longestRemembered", "()I"⟩
abbrev cX9_takeUp : ByteArray := prog_11_method_13_code
def yX9_takeUp : MethodName := ⟨RX9, "takeUp", "(II)V"⟩
abbrev cX9_growOlder : ByteArray := prog_11_method_14_code
def yX9_growOlder : MethodName := ⟨RX9, "growOlder", "(IZ)V"⟩
abbrev cX9_carriedWeight : ByteArray := prog_11_method_15_code
def yX9_carriedWeight : MethodName := ⟨RX9, "carriedWeight", "()I"⟩
abbrev cX9_weightOf : ByteArray := prog_11_method_16_code
def yX9_weightOf : MethodName := ⟨RX9, "weightOf", "(I)I"⟩
abbrev cX9_setThatIs : ByteArray := prog_11_method_17_code
def yX9_setThatIs : MethodName := ⟨RX9, "setThatIs", "(I)I"⟩
abbrev cX9_setRemembered : ByteArray := prog_11_method_18_code
def yX9_setRemembered : MethodName := ⟨RX9, "setRemembered", "()I"⟩
abbrev cX9_areQuiet : ByteArray := prog_11_method_19_code
def yX9_areQuiet : MethodName := ⟨RX9, "areQuiet", "()Z"⟩
abbrev cX9_homesInAll : ByteArray := prog_11_method_20_code
def yX9_homesInAll : MethodName := ⟨RX9, "homesInAll", "()I"⟩
abbrev cX9_pictureFrom : ByteArray := prog_11_method_21_code
def yX9_pictureFrom : MethodName := ⟨RX9, "pictureFrom", "(I)J"⟩
def RX10 : String := "ForgetStream$Trays"
def TX10 : u_T := fun k => match k with
  | 0 => ("ForgetStream$Trays", "sort", "[I", true)
  | 1 => ("ForgetStream$Trays", "length", "[I", true)
  | _ => ("ForgetStream$Trays", "numbers", "[[J", true)
def tyX10 : Nat → FieldType := fun k => match k with
  | 0 => .array .int
  | 1 => .array .int
  | _ => .array (.array .long)
abbrev wsX100 : List Cond := u_ws RX10 TX10 3
theorem nmX10 : ∀ a, a < 3 → ∀ b, b < 3 → a ≠ b → (TX10 a).2.1 ≠ (TX10 b).2.1 := by decide +kernel
theorem tyX10_ok : ∀ k, k < 3 → parseFieldDescriptor (TX10 k).2.2.1 = some (tyX10 k) := by decide +kernel
abbrev cX10_init : ByteArray := prog_12_method_1_code
def yX10_init : MethodName := ⟨RX10, "<init>", "()V"⟩
abbrev cX10_isTray : ByteArray := prog_12_method_2_code
def yX10_isTray : MethodName := ⟨RX10, "isTray", "(I)Z"⟩
abbrev cX10_isMissing : ByteArray := prog_12_method_3_code
def yX10_isMissing : MethodName := ⟨RX10, "isMissing", "(I)Z"⟩
abbrev cX10_lay : ByteArray := prog_12_method_4_code
def yX10_lay : MethodName := ⟨RX10, "lay", "(III)V"⟩
abbrev cX10_put : ByteArray := prog_12_method_5_code
def yX10_put : MethodName := ⟨RX10, "put", "(IIJ)V"⟩
abbrev cX10_cut : ByteArray := prog_12_method_6_code
def yX10_cut : MethodName := ⟨RX10, "cut", "(IJ)J"⟩
def RX11 : String := "ForgetStream"
def TX11 : u_T := fun k => match k with
  | 0 => ("ForgetStream", "status", "I", false)
  | 1 => ("ForgetStream", "top", "J", false)
  | 2 => ("ForgetStream", "bottom", "J", false)
  | 3 => ("ForgetStream", "trays", "LForgetStream$Trays;", true)
  | 4 => ("ForgetStream", "text", "LForgetStream$Text;", true)
  | 5 => ("ForgetStream", "glen", "LForgetStream$Glen;", true)
  | 6 => ("ForgetStream", "days", "LForgetStream$Days;", true)
  | 7 => ("ForgetStream", "glenReader", "LForgetStream$GlenReader;", true)
  | 8 => ("ForgetStream", "daysReader", "LForgetStream$DaysReader;", true)
  | 9 => ("ForgetStream", "ahead", "LForgetStream$Ahead;", true)
  | 10 => ("ForgetStream", "game", "LForgetStream$Game;", true)
  | 11 => ("ForgetStream", "life", "LForgetStream$Life;", true)
  | 12 => ("ForgetStream", "marks", "I", false)
  | 13 => ("ForgetStream", "markedGlens", "[LForgetStream$Glen;", true)
  | 14 => ("ForgetStream", "markedDays", "[LForgetStream$Days;", true)
  | 15 => ("ForgetStream", "latestLife", "[I", true)
  | 16 => ("ForgetStream", "hasLived", "Z", false)
  | _ => ("ForgetStream", "trial", "LForgetStream$Glen;", true)
def tyX11 : Nat → FieldType := fun k => match k with
  | 0 => .int
  | 1 => .long
  | 2 => .long
  | 3 => .object "ForgetStream$Trays"
  | 4 => .object "ForgetStream$Text"
  | 5 => .object "ForgetStream$Glen"
  | 6 => .object "ForgetStream$Days"
  | 7 => .object "ForgetStream$GlenReader"
  | 8 => .object "ForgetStream$DaysReader"
  | 9 => .object "ForgetStream$Ahead"
  | 10 => .object "ForgetStream$Game"
  | 11 => .object "ForgetStream$Life"
  | 12 => .int
  | 13 => .array (.object "ForgetStream$Glen")
  | 14 => .array (.object "ForgetStream$Days")
  | 15 => .array .int
  | 16 => .boolean
  | _ => .object "ForgetStream$Glen"
abbrev wsX110 : List Cond := u_ws RX11 TX11 18
theorem nmX11 : ∀ a, a < 18 → ∀ b, b < 18 → a ≠ b → (TX11 a).2.1 ≠ (TX11 b).2.1 := by decide +kernel
theorem tyX11_ok : ∀ k, k < 18 → parseFieldDescriptor (TX11 k).2.2.1 = some (tyX11 k) := by decide +kernel
abbrev cX11_init : ByteArray := prog_1_method_1_code
def yX11_init : MethodName := ⟨RX11, "<init>", "()V"⟩
abbrev cX11_status : ByteArray := prog_1_method_2_code
def yX11_status : MethodName := ⟨RX11, "status", "()I"⟩
abbrev cX11_top : ByteArray := prog_1_method_3_code
def yX11_top : MethodName := ⟨RX11, "top", "()J"⟩
abbrev cX11_bottom : ByteArray := prog_1_method_4_code
def yX11_bottom : MethodName := ⟨RX11, "bottom", "()J"⟩
abbrev cX11_tray : ByteArray := prog_1_method_5_code
def yX11_tray : MethodName := ⟨RX11, "tray", "(III)Z"⟩
abbrev cX11_write : ByteArray := prog_1_method_6_code
def yX11_write : MethodName := ⟨RX11, "write", "(IIJ)Z"⟩
abbrev cX11_read : ByteArray := prog_1_method_7_code
def yX11_read : MethodName := ⟨RX11, "read", "(II)J"⟩
abbrev cX11_pour : ByteArray := prog_1_method_8_code
def yX11_pour : MethodName := ⟨RX11, "pour", "(IIIII)Z"⟩
abbrev cX11_feed : ByteArray := prog_1_method_9_code
def yX11_feed : MethodName := ⟨RX11, "feed", "(IIIII)I"⟩
abbrev cX11_glen : ByteArray := prog_1_method_10_code
def yX11_glen : MethodName := ⟨RX11, "glen", "(I)I"⟩
abbrev cX11_days : ByteArray := prog_1_method_11_code
def yX11_days : MethodName := ⟨RX11, "days", "(I)I"⟩
abbrev cX11_fault : ByteArray := prog_1_method_12_code
def yX11_fault : MethodName := ⟨RX11, "fault", "(I)I"⟩
abbrev cX11_told : ByteArray := prog_1_method_13_code
def yX11_told : MethodName := ⟨RX11, "told", "(I)I"⟩
abbrev cX11_thing : ByteArray := prog_1_method_14_code
def yX11_thing : MethodName := ⟨RX11, "thing", "(II)I"⟩
abbrev cX11_cellOf : ByteArray := prog_1_method_15_code
def yX11_cellOf : MethodName := ⟨RX11, "cellOf", "(I)I"⟩
abbrev cX11_mill : ByteArray := prog_1_method_16_code
def yX11_mill : MethodName := ⟨RX11, "mill", "(II)I"⟩
abbrev cX11_goal : ByteArray := prog_1_method_17_code
def yX11_goal : MethodName := ⟨RX11, "goal", "()I"⟩
abbrev cX11_goalThing : ByteArray := prog_1_method_18_code
def yX11_goalThing : MethodName := ⟨RX11, "goalThing", "()I"⟩
abbrev cX11_hour : ByteArray := prog_1_method_19_code
def yX11_hour : MethodName := ⟨RX11, "hour", "(I)I"⟩
abbrev cX11_toss : ByteArray := prog_1_method_20_code
def yX11_toss : MethodName := ⟨RX11, "toss", "(II)Z"⟩
abbrev cX11_fetch : ByteArray := prog_1_method_21_code
def yX11_fetch : MethodName := ⟨RX11, "fetch", "(I)I"⟩
abbrev cX11_grip : ByteArray := prog_1_method_22_code
def yX11_grip : MethodName := ⟨RX11, "grip", "(II)Z"⟩
abbrev cX11_mind : ByteArray := prog_1_method_23_code
def yX11_mind : MethodName := ⟨RX11, "mind", "(II)Z"⟩
abbrev cX11_make : ByteArray := prog_1_method_24_code
def yX11_make : MethodName := ⟨RX11, "make", "(III)I"⟩
abbrev cX11_build : ByteArray := prog_1_method_25_code
def yX11_build : MethodName := ⟨RX11, "build", "(II)I"⟩
abbrev cX11_rule : ByteArray := prog_1_method_26_code
def yX11_rule : MethodName := ⟨RX11, "rule", "(II)Z"⟩
abbrev cX11_atIn : ByteArray := prog_1_method_27_code
def yX11_atIn : MethodName := ⟨RX11, "atIn", "(I)I"⟩
abbrev cX11_carriedIn : ByteArray := prog_1_method_28_code
def yX11_carriedIn : MethodName := ⟨RX11, "carriedIn", "(I)I"⟩
abbrev cX11_homeIn : ByteArray := prog_1_method_29_code
def yX11_homeIn : MethodName := ⟨RX11, "homeIn", "(I)I"⟩
abbrev cX11_turnsIn : ByteArray := prog_1_method_30_code
def yX11_turnsIn : MethodName := ⟨RX11, "turnsIn", "(I)I"⟩
abbrev cX11_turnIn : ByteArray := prog_1_method_31_code
def yX11_turnIn : MethodName := ⟨RX11, "turnIn", "()I"⟩
abbrev cX11_groundIn : ByteArray := prog_1_method_32_code
def yX11_groundIn : MethodName := ⟨RX11, "groundIn", "(II)I"⟩
abbrev cX11_quietIn : ByteArray := prog_1_method_33_code
def yX11_quietIn : MethodName := ⟨RX11, "quietIn", "()I"⟩
abbrev cX11_ring : ByteArray := prog_1_method_34_code
def yX11_ring : MethodName := ⟨RX11, "ring", "()I"⟩
abbrev cX11_aim : ByteArray := prog_1_method_35_code
def yX11_aim : MethodName := ⟨RX11, "aim", "(II)I"⟩
abbrev cX11_soonest : ByteArray := prog_1_method_36_code
def yX11_soonest : MethodName := ⟨RX11, "soonest", "(I)I"⟩
abbrev cX11_soonestIn : ByteArray := prog_1_method_37_code
def yX11_soonestIn : MethodName := ⟨RX11, "soonestIn", "(I)I"⟩
abbrev cX11_drive : ByteArray := prog_1_method_38_code
def yX11_drive : MethodName := ⟨RX11, "drive", "(IIII)I"⟩
abbrev cX11_driveCell : ByteArray := prog_1_method_39_code
def yX11_driveCell : MethodName := ⟨RX11, "driveCell", "(IIIII)I"⟩
abbrev cX11_minded : ByteArray := prog_1_method_40_code
def yX11_minded : MethodName := ⟨RX11, "minded", "(III)I"⟩
abbrev cX11_mindedAt : ByteArray := prog_1_method_41_code
def yX11_mindedAt : MethodName := ⟨RX11, "mindedAt", "(IIII)I"⟩
abbrev cX11_ask : ByteArray := prog_1_method_42_code
def yX11_ask : MethodName := ⟨RX11, "ask", "(III)I"⟩
abbrev cX11_heaviest : ByteArray := prog_1_method_43_code
def yX11_heaviest : MethodName := ⟨RX11, "heaviest", "()I"⟩
abbrev cX11_heaviestWeight : ByteArray := prog_1_method_44_code
def yX11_heaviestWeight : MethodName := ⟨RX11, "heaviestWeight", "()I"⟩
abbrev cX11_ride : ByteArray := prog_1_method_45_code
def yX11_ride : MethodName := ⟨RX11, "ride", "(II)I"⟩
abbrev cX11_waits : ByteArray := prog_1_method_46_code
def yX11_waits : MethodName := ⟨RX11, "waits", "(II)I"⟩
abbrev cX11_game : ByteArray := prog_1_method_47_code
def yX11_game : MethodName := ⟨RX11, "game", "(III)I"⟩
abbrev cX11_moveOf : ByteArray := prog_1_method_48_code
def yX11_moveOf : MethodName := ⟨RX11, "moveOf", "(IIII)I"⟩
abbrev cX11_share : ByteArray := prog_1_method_49_code
def yX11_share : MethodName := ⟨RX11, "share", "(I)Z"⟩
abbrev cX11_rain : ByteArray := prog_1_method_50_code
def yX11_rain : MethodName := ⟨RX11, "rain", "(II)Z"⟩
abbrev cX11_copyHours : ByteArray := prog_1_method_51_code
def yX11_copyHours : MethodName := ⟨RX11, "copyHours", "(I)I"⟩
abbrev cX11_live : ByteArray := prog_1_method_52_code
def yX11_live : MethodName := ⟨RX11, "live", "(I)I"⟩
abbrev cX11_lived : ByteArray := prog_1_method_53_code
def yX11_lived : MethodName := ⟨RX11, "lived", "(I)I"⟩
abbrev cX11_mean : ByteArray := prog_1_method_54_code
def yX11_mean : MethodName := ⟨RX11, "mean", "(II)Z"⟩
abbrev cX11_mark : ByteArray := prog_1_method_55_code
def yX11_mark : MethodName := ⟨RX11, "mark", "()I"⟩
abbrev cX11_undo : ByteArray := prog_1_method_56_code
def yX11_undo : MethodName := ⟨RX11, "undo", "()I"⟩
abbrev cX11_given : ByteArray := prog_1_method_57_code
def yX11_given : MethodName := ⟨RX11, "given", "(I)I"⟩
abbrev cX11_givenOrNone : ByteArray := prog_1_method_58_code
def yX11_givenOrNone : MethodName := ⟨RX11, "givenOrNone", "(I)I"⟩
abbrev cX11_refused : ByteArray := prog_1_method_59_code
def yX11_refused : MethodName := ⟨RX11, "refused", "(I)I"⟩
abbrev cX11_accept : ByteArray := prog_1_method_60_code
def yX11_accept : MethodName := ⟨RX11, "accept", "()Z"⟩
abbrev cX11_refuse : ByteArray := prog_1_method_61_code
def yX11_refuse : MethodName := ⟨RX11, "refuse", "(I)Z"⟩
abbrev cX11_outside : ByteArray := prog_1_method_62_code
def yX11_outside : MethodName := ⟨RX11, "outside", "(III)Z"⟩
abbrev cX11_isThing : ByteArray := prog_1_method_63_code
def yX11_isThing : MethodName := ⟨RX11, "isThing", "(I)Z"⟩
abbrev cX11_isMill : ByteArray := prog_1_method_64_code
def yX11_isMill : MethodName := ⟨RX11, "isMill", "(I)Z"⟩
abbrev cX11_isCell : ByteArray := prog_1_method_65_code
def yX11_isCell : MethodName := ⟨RX11, "isCell", "(I)Z"⟩
abbrev cX11_whyNoPlace : ByteArray := prog_1_method_66_code
def yX11_whyNoPlace : MethodName := ⟨RX11, "whyNoPlace", "(II)I"⟩
abbrev cX11_whyTooFew : ByteArray := prog_1_method_67_code
def yX11_whyTooFew : MethodName := ⟨RX11, "whyTooFew", "(II)I"⟩
abbrev cX11_whyNotSoonest : ByteArray := prog_1_method_68_code
def yX11_whyNotSoonest : MethodName := ⟨RX11, "whyNotSoonest", "(I)I"⟩
abbrev cX11_whyNotDriven : ByteArray := prog_1_method_69_code
def yX11_whyNotDriven : MethodName := ⟨RX11, "whyNotDriven", "(IIII)I"⟩
abbrev cX11_whyNotMinded : ByteArray := prog_1_method_70_code
def yX11_whyNotMinded : MethodName := ⟨RX11, "whyNotMinded", "(III)I"⟩
abbrev cX11_tellFraction : ByteArray := prog_1_method_71_code
def yX11_tellFraction : MethodName := ⟨RX11, "tellFraction", "(JJ)Z"⟩
abbrev cX11_commonDivisor : ByteArray := prog_1_method_72_code
def yX11_commonDivisor : MethodName := ⟨RX11, "commonDivisor", "(JJ)J"⟩
abbrev cX11_wetWays : ByteArray := prog_1_method_73_code
def yX11_wetWays : MethodName := ⟨RX11, "wetWays", "(III)J"⟩
abbrev cX11_power : ByteArray := prog_1_method_74_code
def yX11_power : MethodName := ⟨RX11, "power", "(JI)J"⟩
def RX12 : String := "ForgetStreamModel"
def TX12 : u_T := fun k => match k with
  | 0 => ("ForgetStreamModel", "at", "[I", true)
  | 1 => ("ForgetStreamModel", "names", "[J", true)
  | 2 => ("ForgetStreamModel", "status", "I", false)
  | 3 => ("ForgetStreamModel", "top", "J", false)
  | 4 => ("ForgetStreamModel", "bottom", "J", false)
  | 5 => ("ForgetStreamModel", "sort", "[I", true)
  | 6 => ("ForgetStreamModel", "trayMany", "[I", true)
  | 7 => ("ForgetStreamModel", "trays", "[J", true)
  | 8 => ("ForgetStreamModel", "tape", "[B", true)
  | 9 => ("ForgetStreamModel", "text", "[B", true)
  | 10 => ("ForgetStreamModel", "taped", "I", false)
  | 11 => ("ForgetStreamModel", "size", "I", false)
  | 12 => ("ForgetStreamModel", "token", "I", false)
  | 13 => ("ForgetStreamModel", "from", "I", false)
  | 14 => ("ForgetStreamModel", "end", "I", false)
  | 15 => ("ForgetStreamModel", "value", "I", false)
  | 16 => ("ForgetStreamModel", "faultKind", "I", false)
  | 17 => ("ForgetStreamModel", "faultPlace", "I", false)
  | 18 => ("ForgetStreamModel", "faults", "I", false)
  | 19 => ("ForgetStreamModel", "seen", "I", false)
  | 20 => ("ForgetStreamModel", "toldParts", "I", false)
  | 21 => ("ForgetStreamModel", "opened", "[I", true)
  | 22 => ("ForgetStreamModel", "depth", "I", false)
  | 23 => ("ForgetStreamModel", "counted", "I", false)
  | 24 => ("ForgetStreamModel", "stoodBy", "[I", true)
  | 25 => ("ForgetStreamModel", "soonBy", "I", false)
  | 26 => ("ForgetStreamModel", "soonCell", "I", false)
  | 27 => ("ForgetStreamModel", "driveBy", "[I", true)
  | 28 => ("ForgetStreamModel", "fitsBy", "[Z", true)
  | 29 => ("ForgetStreamModel", "turnsBy", "[Z", true)
  | 30 => ("ForgetStreamModel", "fitMany", "I", false)
  | 31 => ("ForgetStreamModel", "waitsFor", "I", false)
  | 32 => ("ForgetStreamModel", "ridesFor", "I", false)
  | 33 => ("ForgetStreamModel", "thrownAt", "[I", true)
  | 34 => ("ForgetStreamModel", "cameAt", "[I", true)
  | 35 => ("ForgetStreamModel", "bestThrow", "[I", true)
  | 36 => ("ForgetStreamModel", "wetBy", "[J", true)
  | 37 => ("ForgetStreamModel", "drawn", "I", false)
  | 38 => ("ForgetStreamModel", "ranSteps", "I", false)
  | 39 => ("ForgetStreamModel", "loops", "[I", true)
  | 40 => ("ForgetStreamModel", "ran", "[I", true)
  | 41 => ("ForgetStreamModel", "told1", "[I", true)
  | 42 => ("ForgetStreamModel", "isTold", "Z", false)
  | _ => ("ForgetStreamModel", "marks", "I", false)
def tyX12 : Nat → FieldType := fun k => match k with
  | 0 => .array .int
  | 1 => .array .long
  | 2 => .int
  | 3 => .long
  | 4 => .long
  | 5 => .array .int
  | 6 => .array .int
  | 7 => .array .long
  | 8 => .array .byte
  | 9 => .array .byte
  | 10 => .int
  | 11 => .int
  | 12 => .int
  | 13 => .int
  | 14 => .int
  | 15 => .int
  | 16 => .int
  | 17 => .int
  | 18 => .int
  | 19 => .int
  | 20 => .int
  | 21 => .array .int
  | 22 => .int
  | 23 => .int
  | 24 => .array .int
  | 25 => .int
  | 26 => .int
  | 27 => .array .int
  | 28 => .array .boolean
  | 29 => .array .boolean
  | 30 => .int
  | 31 => .int
  | 32 => .int
  | 33 => .array .int
  | 34 => .array .int
  | 35 => .array .int
  | 36 => .array .long
  | 37 => .int
  | 38 => .int
  | 39 => .array .int
  | 40 => .array .int
  | 41 => .array .int
  | 42 => .boolean
  | _ => .int
abbrev wsX120 : List Cond := u_ws RX12 TX12 44
theorem nmX12 : ∀ a, a < 44 → ∀ b, b < 44 → a ≠ b → (TX12 a).2.1 ≠ (TX12 b).2.1 := by decide +kernel
theorem tyX12_ok : ∀ k, k < 44 → parseFieldDescriptor (TX12 k).2.2.1 = some (tyX12 k) := by decide +kernel
abbrev cX12_init : ByteArray := prog_14_method_1_code
def yX12_init : MethodName := ⟨RX12, "<init>", "()V"⟩
abbrev cX12_plain : ByteArray := prog_14_method_2_code
def yX12_plain : MethodName := ⟨RX12, "plain", "(I)V"⟩
abbrev cX12_status : ByteArray := prog_14_method_3_code
def yX12_status : MethodName := ⟨RX12, "status", "()I"⟩
abbrev cX12_top : ByteArray := prog_14_method_4_code
def yX12_top : MethodName := ⟨RX12, "top", "()J"⟩
abbrev cX12_bottom : ByteArray := prog_14_method_5_code
def yX12_bottom : MethodName := ⟨RX12, "bottom", "()J"⟩
abbrev cX12_is : ByteArray := prog_14_method_6_code
def yX12_is : MethodName := ⟨RX12, "is", "(I)Z"⟩
abbrev cX12_refuse : ByteArray := prog_14_method_7_code
def yX12_refuse : MethodName := ⟨RX12, "refuse", "(I)I"⟩
abbrev cX12_gives : ByteArray := prog_14_method_8_code
def yX12_gives : MethodName := ⟨RX12, "gives", "(I)I"⟩
abbrev cX12_orNone : ByteArray := prog_14_method_9_code
def yX12_orNone : MethodName := ⟨RX12, "orNone", "(I)I"⟩
abbrev cX12_tellsBy : ByteArray := prog_14_method_10_code
def yX12_tellsBy : MethodName := ⟨RX12, "tellsBy", "(JJ)Z"⟩
abbrev cX12_isTray : ByteArray := prog_14_method_11_code
def yX12_isTray : MethodName := ⟨RX12, "isTray", "(I)Z"⟩
abbrev cX12_cut : ByteArray := prog_14_method_12_code
def yX12_cut : MethodName := ⟨RX12, "cut", "(JI)J"⟩
abbrev cX12_tray : ByteArray := prog_14_method_13_code
def yX12_tray : MethodName := ⟨RX12, "tray", "(III)Z"⟩
abbrev cX12_wrongPlace : ByteArray := prog_14_method_14_code
def yX12_wrongPlace : MethodName := ⟨RX12, "wrongPlace", "(II)I"⟩
abbrev cX12_write : ByteArray := prog_14_method_15_code
def yX12_write : MethodName := ⟨RX12, "write", "(IIJ)Z"⟩
abbrev cX12_read : ByteArray := prog_14_method_16_code
def yX12_read : MethodName := ⟨RX12, "read", "(II)J"⟩
abbrev cX12_pour : ByteArray := prog_14_method_17_code
def yX12_pour : MethodName := ⟨RX12, "pour", "(IIIII)Z"⟩
abbrev cX12_isFrom : ByteArray := prog_14_method_18_code
def yX12_isFrom : MethodName := ⟨RX12, "isFrom", "(JJJ)Z"⟩
abbrev cX12_feed : ByteArray := prog_14_method_19_code
def yX12_feed : MethodName := ⟨RX12, "feed", "(IIIII)I"⟩
abbrev cX12_four : ByteArray := prog_14_method_20_code
def yX12_four : MethodName := ⟨RX12, "four", "(I)V"⟩
abbrev cX12_byteAt : ByteArray := prog_14_method_21_code
def yX12_byteAt : MethodName := ⟨RX12, "byteAt", "(I)I"⟩
abbrev cX12_isSmall : ByteArray := prog_14_method_22_code
def yX12_isSmall : MethodName := ⟨RX12, "isSmall", "(I)Z"⟩
abbrev cX12_isDigit : ByteArray := prog_14_method_23_code
def yX12_isDigit : MethodName := ⟨RX12, "isDigit", "(I)Z"⟩
abbrev cX12_ahead : ByteArray := prog_14_method_24_code
def yX12_ahead : MethodName := ⟨RX12, "ahead", "()V"⟩
abbrev cX12_isSign : ByteArray := prog_14_method_25_code
def yX12_isSign : MethodName := ⟨RX12, "isSign", "(I)Z"⟩
abbrev cX12_inWords : ByteArray := prog_14_method_26_code
def yX12_inWords : MethodName := ⟨RX12, "inWords", "(Ljava/lang/String;)I"⟩
abbrev cX12_fails : ByteArray := prog_14_method_27_code
def yX12_fails : MethodName := ⟨RX12, "fails", "(I)Z"⟩
abbrev cX12_begins : ByteArray := prog_14_method_28_code
def yX12_begins : MethodName := ⟨RX12, "begins", "(II)Z"⟩
abbrev cX12_wantSign : ByteArray := prog_14_method_29_code
def yX12_wantSign : MethodName := ⟨RX12, "wantSign", "(I)Z"⟩
abbrev cX12_wantWord : ByteArray := prog_14_method_30_code
def yX12_wantWord : MethodName := ⟨RX12, "wantWord", "(Ljava/lang/String;I)Z"⟩
abbrev cX12_number : ByteArray := prog_14_method_31_code
def yX12_number : MethodName := ⟨RX12, "number", "(III)Z"⟩
abbrev cX12_isName : ByteArray := prog_14_method_32_code
def yX12_isName : MethodName := ⟨RX12, "isName", "(Ljava/lang/String;)Z"⟩
abbrev cX12_nameHere : ByteArray := prog_14_method_33_code
def yX12_nameHere : MethodName := ⟨RX12, "nameHere", "()J"⟩
abbrev cX12_findHere : ByteArray := prog_14_method_34_code
def yX12_findHere : MethodName := ⟨RX12, "findHere", "(II)I"⟩
abbrev cX12_fault : ByteArray := prog_14_method_35_code
def yX12_fault : MethodName := ⟨RX12, "fault", "(I)I"⟩
abbrev cX12_taken : ByteArray := prog_14_method_36_code
def yX12_taken : MethodName := ⟨RX12, "taken", "(I)I"⟩
abbrev cX12_thingRow : ByteArray := prog_14_method_37_code
def yX12_thingRow : MethodName := ⟨RX12, "thingRow", "(I)I"⟩
abbrev cX12_millRow : ByteArray := prog_14_method_38_code
def yX12_millRow : MethodName := ⟨RX12, "millRow", "(I)I"⟩
abbrev cX12_isThere : ByteArray := prog_14_method_39_code
def yX12_isThere : MethodName := ⟨RX12, "isThere", "(I)Z"⟩
abbrev cX12_newOne : ByteArray := prog_14_method_40_code
def yX12_newOne : MethodName := ⟨RX12, "newOne", "(III)Z"⟩
abbrev cX12_oldOne : ByteArray := prog_14_method_41_code
def yX12_oldOne : MethodName := ⟨RX12, "oldOne", "(III)Z"⟩
abbrev cX12_newCell : ByteArray := prog_14_method_42_code
def yX12_newCell : MethodName := ⟨RX12, "newCell", "(I)Z"⟩
abbrev cX12_aStream : ByteArray := prog_14_method_43_code
def yX12_aStream : MethodName := ⟨RX12, "aStream", "()Z"⟩
abbrev cX12_aThing : ByteArray := prog_14_method_44_code
def yX12_aThing : MethodName := ⟨RX12, "aThing", "()Z"⟩
abbrev cX12_aMill : ByteArray := prog_14_method_45_code
def yX12_aMill : MethodName := ⟨RX12, "aMill", "()Z"⟩
abbrev cX12_glenPart : ByteArray := prog_14_method_46_code
def yX12_glenPart : MethodName := ⟨RX12, "glenPart", "()Z"⟩
abbrev cX12_glen : ByteArray := prog_14_method_47_code
def yX12_glen : MethodName := ⟨RX12, "glen", "(I)I"⟩
abbrev cX12_thingTo : ByteArray := prog_14_method_48_code
def yX12_thingTo : MethodName := ⟨RX12, "thingTo", "(I)Z"⟩
abbrev cX12_test : ByteArray := prog_14_method_49_code
def yX12_test : MethodName := ⟨RX12, "test", "(I)Z"⟩
abbrev cX12_dayOrder : ByteArray := prog_14_method_50_code
def yX12_dayOrder : MethodName := ⟨RX12, "dayOrder", "(II)Z"⟩
abbrev cX12_dayStep : ByteArray := prog_14_method_51_code
def yX12_dayStep : MethodName := ⟨RX12, "dayStep", "()Z"⟩
abbrev cX12_days : ByteArray := prog_14_method_52_code
def yX12_days : MethodName := ⟨RX12, "days", "(I)I"⟩
abbrev cX12_isThing : ByteArray := prog_14_method_53_code
def yX12_isThing : MethodName := ⟨RX12, "isThing", "(I)Z"⟩
abbrev cX12_isMill : ByteArray := prog_14_method_54_code
def yX12_isMill : MethodName := ⟨RX12, "isMill", "(I)Z"⟩
abbrev cX12_isCell : ByteArray := prog_14_method_55_code
def yX12_isCell : MethodName := ⟨RX12, "isCell", "(I)Z"⟩
abbrev cX12_isIn : ByteArray := prog_14_method_56_code
def yX12_isIn : MethodName := ⟨RX12, "isIn", "(II)Z"⟩
abbrev cX12_bits : ByteArray := prog_14_method_57_code
def yX12_bits : MethodName := ⟨RX12, "bits", "(I)I"⟩
abbrev cX12_thingOf : ByteArray := prog_14_method_58_code
def yX12_thingOf : MethodName := ⟨RX12, "thingOf", "(II)I"⟩
abbrev cX12_millOf : ByteArray := prog_14_method_59_code
def yX12_millOf : MethodName := ⟨RX12, "millOf", "(II)I"⟩
abbrev cX12_sea : ByteArray := prog_14_method_60_code
def yX12_sea : MethodName := ⟨RX12, "sea", "()I"⟩
abbrev cX12_isRemembered : ByteArray := prog_14_method_61_code
def yX12_isRemembered : MethodName := ⟨RX12, "isRemembered", "(I)Z"⟩
abbrev cX12_mindedMost : ByteArray := prog_14_method_62_code
def yX12_mindedMost : MethodName := ⟨RX12, "mindedMost", "()I"⟩
abbrev cX12_goalNow : ByteArray := prog_14_method_63_code
def yX12_goalNow : MethodName := ⟨RX12, "goalNow", "()I"⟩
abbrev cX12_thingsThat : ByteArray := prog_14_method_64_code
def yX12_thingsThat : MethodName := ⟨RX12, "thingsThat", "(I)I"⟩
abbrev cX12_weightOf : ByteArray := prog_14_method_65_code
def yX12_weightOf : MethodName := ⟨RX12, "weightOf", "(I)I"⟩
abbrev cX12_allHomes : ByteArray := prog_14_method_66_code
def yX12_allHomes : MethodName := ⟨RX12, "allHomes", "()I"⟩
abbrev cX12_told : ByteArray := prog_14_method_67_code
def yX12_told : MethodName := ⟨RX12, "told", "(I)I"⟩
abbrev cX12_thing : ByteArray := prog_14_method_68_code
def yX12_thing : MethodName := ⟨RX12, "thing", "(II)I"⟩
abbrev cX12_cellOf : ByteArray := prog_14_method_69_code
def yX12_cellOf : MethodName := ⟨RX12, "cellOf", "(I)I"⟩
abbrev cX12_mill : ByteArray := prog_14_method_70_code
def yX12_mill : MethodName := ⟨RX12, "mill", "(II)I"⟩
abbrev cX12_goal : ByteArray := prog_14_method_71_code
def yX12_goal : MethodName := ⟨RX12, "goal", "()I"⟩
abbrev cX12_goalThing : ByteArray := prog_14_method_72_code
def yX12_goalThing : MethodName := ⟨RX12, "goalThing", "()I"⟩
abbrev cX12_goes : ByteArray := prog_14_method_73_code
def yX12_goes : MethodName := ⟨RX12, "goes", "()V"⟩
abbrev cX12_takesUp : ByteArray := prog_14_method_74_code
def yX12_takesUp : MethodName := ⟨RX12, "takesUp", "()V"⟩
abbrev cX12_comesHome : ByteArray := prog_14_method_75_code
def yX12_comesHome : MethodName := ⟨RX12, "comesHome", "(I)V"⟩
abbrev cX12_lasts : ByteArray := prog_14_method_76_code
def yX12_lasts : MethodName := ⟨RX12, "lasts", "(I)V"⟩
abbrev cX12_hourGoes : ByteArray := prog_14_method_77_code
def yX12_hourGoes : MethodName := ⟨RX12, "hourGoes", "()Z"⟩
abbrev cX12_hoursGo : ByteArray := prog_14_method_78_code
def yX12_hoursGo : MethodName := ⟨RX12, "hoursGo", "(I)I"⟩
abbrev cX12_hour : ByteArray := prog_14_method_79_code
def yX12_hour : MethodName := ⟨RX12, "hour", "(I)I"⟩
abbrev cX12_isFree : ByteArray := prog_14_method_80_code
def yX12_isFree : MethodName := ⟨RX12, "isFree", "(I)Z"⟩
abbrev cX12_tosses : ByteArray := prog_14_method_81_code
def yX12_tosses : MethodName := ⟨RX12, "tosses", "(II)Z"⟩
abbrev cX12_toss : ByteArray := prog_14_method_82_code
def yX12_toss : MethodName := ⟨RX12, "toss", "(II)Z"⟩
abbrev cX12_fetches : ByteArray := prog_14_method_83_code
def yX12_fetches : MethodName := ⟨RX12, "fetches", "(I)Z"⟩
abbrev cX12_fetch : ByteArray := prog_14_method_84_code
def yX12_fetch : MethodName := ⟨RX12, "fetch", "(I)I"⟩
abbrev cX12_grip : ByteArray := prog_14_method_85_code
def yX12_grip : MethodName := ⟨RX12, "grip", "(II)Z"⟩
abbrev cX12_mind : ByteArray := prog_14_method_86_code
def yX12_mind : MethodName := ⟨RX12, "mind", "(II)Z"⟩
abbrev cX12_make : ByteArray := prog_14_method_87_code
def yX12_make : MethodName := ⟨RX12, "make", "(III)I"⟩
abbrev cX12_build : ByteArray := prog_14_method_88_code
def yX12_build : MethodName := ⟨RX12, "build", "(II)I"⟩
abbrev cX12_rule : ByteArray := prog_14_method_89_code
def yX12_rule : MethodName := ⟨RX12, "rule", "(II)Z"⟩
abbrev cX12_levelAt : ByteArray := prog_14_method_90_code
def yX12_levelAt : MethodName := ⟨RX12, "levelAt", "(I)I"⟩
abbrev cX12_keeps : ByteArray := prog_14_method_91_code
def yX12_keeps : MethodName := ⟨RX12, "keeps", "(I)V"⟩
abbrev cX12_restores : ByteArray := prog_14_method_92_code
def yX12_restores : MethodName := ⟨RX12, "restores", "(I)V"⟩
abbrev cX12_isSpan : ByteArray := prog_14_method_93_code
def yX12_isSpan : MethodName := ⟨RX12, "isSpan", "(I)Z"⟩
abbrev cX12_atIn : ByteArray := prog_14_method_94_code
def yX12_atIn : MethodName := ⟨RX12, "atIn", "(I)I"⟩
abbrev cX12_carriedIn : ByteArray := prog_14_method_95_code
def yX12_carriedIn : MethodName := ⟨RX12, "carriedIn", "(I)I"⟩
abbrev cX12_homeOf : ByteArray := prog_14_method_96_code
def yX12_homeOf : MethodName := ⟨RX12, "homeOf", "(I)I"⟩
abbrev cX12_homeIn : ByteArray := prog_14_method_97_code
def yX12_homeIn : MethodName := ⟨RX12, "homeIn", "(I)I"⟩
abbrev cX12_turnsIn : ByteArray := prog_14_method_98_code
def yX12_turnsIn : MethodName := ⟨RX12, "turnsIn", "(I)I"⟩
abbrev cX12_nextTurn : ByteArray := prog_14_method_99_code
def yX12_nextTurn : MethodName := ⟨RX12, "nextTurn", "(I)I"⟩
abbrev cX12_turnIn : ByteArray := prog_14_method_100_code
def yX12_turnIn : MethodName := ⟨RX12, "turnIn", "()I"⟩
abbrev cX12_groundIn : ByteArray := prog_14_method_101_code
def yX12_groundIn : MethodName := ⟨RX12, "groundIn", "(II)I"⟩
abbrev cX12_quietIn : ByteArray := prog_14_method_102_code
def yX12_quietIn : MethodName := ⟨RX12, "quietIn", "()I"⟩
abbrev cX12_stands : ByteArray := prog_14_method_103_code
def yX12_stands : MethodName := ⟨RX12, "stands", "(I)V"⟩
abbrev cX12_areAlike : ByteArray := prog_14_method_104_code
def yX12_areAlike : MethodName := ⟨RX12, "areAlike", "(II)Z"⟩
abbrev cX12_ringing : ByteArray := prog_14_method_105_code
def yX12_ringing : MethodName := ⟨RX12, "ringing", "()I"⟩
abbrev cX12_ring : ByteArray := prog_14_method_106_code
def yX12_ring : MethodName := ⟨RX12, "ring", "()I"⟩
abbrev cX12_aim : ByteArray := prog_14_method_107_code
def yX12_aim : MethodName := ⟨RX12, "aim", "(II)I"⟩
abbrev cX12_laysSoonest : ByteArray := prog_14_method_108_code
def yX12_laysSoonest : MethodName := ⟨RX12, "laysSoonest", "(I)V"⟩
abbrev cX12_soonest : ByteArray := prog_14_method_109_code
def yX12_soonest : MethodName := ⟨RX12, "soonest", "(I)I"⟩
abbrev cX12_soonestIn : ByteArray := prog_14_method_110_code
def yX12_soonestIn : MethodName := ⟨RX12, "soonestIn", "(I)I"⟩
abbrev cX12_laysDrive : ByteArray := prog_14_method_111_code
def yX12_laysDrive : MethodName := ⟨RX12, "laysDrive", "(IIII)V"⟩
abbrev cX12_wrongDrive : ByteArray := prog_14_method_112_code
def yX12_wrongDrive : MethodName := ⟨RX12, "wrongDrive", "(IIII)I"⟩
abbrev cX12_drive : ByteArray := prog_14_method_113_code
def yX12_drive : MethodName := ⟨RX12, "drive", "(IIII)I"⟩
abbrev cX12_driveCell : ByteArray := prog_14_method_114_code
def yX12_driveCell : MethodName := ⟨RX12, "driveCell", "(IIIII)I"⟩
abbrev cX12_wrongMinded : ByteArray := prog_14_method_115_code
def yX12_wrongMinded : MethodName := ⟨RX12, "wrongMinded", "(III)I"⟩
abbrev cX12_laysMinds : ByteArray := prog_14_method_116_code
def yX12_laysMinds : MethodName := ⟨RX12, "laysMinds", "(III)V"⟩
abbrev cX12_minded : ByteArray := prog_14_method_117_code
def yX12_minded : MethodName := ⟨RX12, "minded", "(III)I"⟩
abbrev cX12_mindedAt : ByteArray := prog_14_method_118_code
def yX12_mindedAt : MethodName := ⟨RX12, "mindedAt", "(IIII)I"⟩
abbrev cX12_ask : ByteArray := prog_14_method_119_code
def yX12_ask : MethodName := ⟨RX12, "ask", "(III)I"⟩
abbrev cX12_heaviestOf : ByteArray := prog_14_method_120_code
def yX12_heaviestOf : MethodName := ⟨RX12, "heaviestOf", "()I"⟩
abbrev cX12_heaviest : ByteArray := prog_14_method_121_code
def yX12_heaviest : MethodName := ⟨RX12, "heaviest", "()I"⟩
abbrev cX12_heaviestWeight : ByteArray := prog_14_method_122_code
def yX12_heaviestWeight : MethodName := ⟨RX12, "heaviestWeight", "()I"⟩
abbrev cX12_laysRide : ByteArray := prog_14_method_123_code
def yX12_laysRide : MethodName := ⟨RX12, "laysRide", "(II)V"⟩
abbrev cX12_ride : ByteArray := prog_14_method_124_code
def yX12_ride : MethodName := ⟨RX12, "ride", "(II)I"⟩
abbrev cX12_waits : ByteArray := prog_14_method_125_code
def yX12_waits : MethodName := ⟨RX12, "waits", "(II)I"⟩
abbrev cX12_settles : ByteArray := prog_14_method_126_code
def yX12_settles : MethodName := ⟨RX12, "settles", "(II)V"⟩
abbrev cX12_groundMore : ByteArray := prog_14_method_127_code
def yX12_groundMore : MethodName := ⟨RX12, "groundMore", "(II)I"⟩
abbrev cX12_playing : ByteArray := prog_14_method_128_code
def yX12_playing : MethodName := ⟨RX12, "playing", "(III)I"⟩
abbrev cX12_areTwo : ByteArray := prog_14_method_129_code
def yX12_areTwo : MethodName := ⟨RX12, "areTwo", "(II)Z"⟩
abbrev cX12_game : ByteArray := prog_14_method_130_code
def yX12_game : MethodName := ⟨RX12, "game", "(III)I"⟩
abbrev cX12_moveOf : ByteArray := prog_14_method_131_code
def yX12_moveOf : MethodName := ⟨RX12, "moveOf", "(IIII)I"⟩
abbrev cX12_share : ByteArray := prog_14_method_132_code
def yX12_share : MethodName := ⟨RX12, "share", "(I)Z"⟩
abbrev cX12_rain : ByteArray := prog_14_method_133_code
def yX12_rain : MethodName := ⟨RX12, "rain", "(II)Z"⟩
abbrev cX12_copyHours : ByteArray := prog_14_method_134_code
def yX12_copyHours : MethodName := ⟨RX12, "copyHours", "(I)I"⟩
abbrev cX12_draw : ByteArray := prog_14_method_135_code
def yX12_draw : MethodName := ⟨RX12, "draw", "(I)I"⟩
abbrev cX12_hoursBy : ByteArray := prog_14_method_136_code
def yX12_hoursBy : MethodName := ⟨RX12, "hoursBy", "(I)Z"⟩
abbrev cX12_throwsAny : ByteArray := prog_14_method_137_code
def yX12_throwsAny : MethodName := ⟨RX12, "throwsAny", "()Z"⟩
abbrev cX12_does : ByteArray := prog_14_method_138_code
def yX12_does : MethodName := ⟨RX12, "does", "(I)Z"⟩
abbrev cX12_holds : ByteArray := prog_14_method_139_code
def yX12_holds : MethodName := ⟨RX12, "holds", "(I)Z"⟩
abbrev cX12_behindEnds : ByteArray := prog_14_method_140_code
def yX12_behindEnds : MethodName := ⟨RX12, "behindEnds", "(I)I"⟩
abbrev cX12_lives : ByteArray := prog_14_method_141_code
def yX12_lives : MethodName := ⟨RX12, "lives", "(I)V"⟩
abbrev cX12_live : ByteArray := prog_14_method_142_code
def yX12_live : MethodName := ⟨RX12, "live", "(I)I"⟩
abbrev cX12_lived : ByteArray := prog_14_method_143_code
def yX12_lived : MethodName := ⟨RX12, "lived", "(I)I"⟩
abbrev cX12_mean : ByteArray := prog_14_method_144_code
def yX12_mean : MethodName := ⟨RX12, "mean", "(II)Z"⟩
abbrev cX12_copies : ByteArray := prog_14_method_145_code
def yX12_copies : MethodName := ⟨RX12, "copies", "(II)V"⟩
abbrev cX12_mark : ByteArray := prog_14_method_146_code
def yX12_mark : MethodName := ⟨RX12, "mark", "()I"⟩
abbrev cX12_undo : ByteArray := prog_14_method_147_code
def yX12_undo : MethodName := ⟨RX12, "undo", "()I"⟩
def RJ6 : String := "java/lang/Integer"
def TJ6 : u_T := fun k => match k with
  | _ => ("", "", "", false)
def tyJ6 : Nat → FieldType := fun k => match k with
  | _ => .int
abbrev wsJ60 : List Cond := u_ws RJ6 TJ6 0
theorem nmJ6 : ∀ a, a < 0 → ∀ b, b < 0 → a ≠ b → (TJ6 a).2.1 ≠ (TJ6 b).2.1 := by decide +kernel
theorem tyJ6_ok : ∀ k, k < 0 → parseFieldDescriptor (TJ6 k).2.2.1 = some (tyJ6 k) := by decide +kernel
abbrev cJ6_bitCount_0f7a4 : ByteArray := prog_15_method_49_code
def yJ6_bitCount_0f7a4 : MethodName := ⟨RJ6, "bitCount", "(I)I"⟩
def RJ9 : String := "java/lang/Math"
def TJ9 : u_T := fun k => match k with
  | _ => ("", "", "", false)
def tyJ9 : Nat → FieldType := fun k => match k with
  | _ => .int
abbrev wsJ90 : List Cond := u_ws RJ9 TJ9 0
theorem nmJ9 : ∀ a, a < 0 → ∀ b, b < 0 → a ≠ b → (TJ9 a).2.1 ≠ (TJ9 b).2.1 := by decide +kernel
theorem tyJ9_ok : ∀ k, k < 0 → parseFieldDescriptor (TJ9 k).2.2.1 = some (tyJ9 k) := by decide +kernel
abbrev cJ9_max_7cf53 : ByteArray := prog_16_method_65_code
def yJ9_max_7cf53 : MethodName := ⟨RJ9, "max", "(II)I"⟩
abbrev cJ9_min_7cf53 : ByteArray := prog_16_method_69_code
def yJ9_min_7cf53 : MethodName := ⟨RJ9, "min", "(II)I"⟩
def RJ0 : String := "java/lang/String"
def TJ0 : u_T := fun k => match k with
  | _ => ("", "", "", false)
def tyJ0 : Nat → FieldType := fun k => match k with
  | _ => .int
abbrev wsJ00 : List Cond := u_ws RJ0 TJ0 0
theorem nmJ0 : ∀ a, a < 0 → ∀ b, b < 0 → a ≠ b → (TJ0 a).2.1 ≠ (TJ0 b).2.1 := by decide +kernel
theorem tyJ0_ok : ∀ k, k < 0 → parseFieldDescriptor (TJ0 k).2.2.1 = some (tyJ0 k) := by decide +kernel
abbrev cJ0_length_8abf5 : ByteArray := prog_17_method_54_code
def yJ0_length_8abf5 : MethodName := ⟨RJ0, "length", "()I"⟩
abbrev cJ0_charAt_5068e : ByteArray := prog_17_method_56_code
def yJ0_charAt_5068e : MethodName := ⟨RJ0, "charAt", "(I)C"⟩
abbrev cJ0_coder_7d493 : ByteArray := prog_17_method_152_code
def yJ0_coder_7d493 : MethodName := ⟨RJ0, "coder", "()B"⟩
abbrev cJ0_isLatin1_aae02 : ByteArray := prog_17_method_154_code
def yJ0_isLatin1_aae02 : MethodName := ⟨RJ0, "isLatin1", "()Z"⟩
abbrev cJ0_checkIndex_df160 : ByteArray := prog_17_method_155_code
def yJ0_checkIndex_df160 : MethodName := ⟨RJ0, "checkIndex", "(II)V"⟩
def RJ1 : String := "java/lang/StringLatin1"
def TJ1 : u_T := fun k => match k with
  | _ => ("", "", "", false)
def tyJ1 : Nat → FieldType := fun k => match k with
  | _ => .int
abbrev wsJ10 : List Cond := u_ws RJ1 TJ1 0
theorem nmJ1 : ∀ a, a < 0 → ∀ b, b < 0 → a ≠ b → (TJ1 a).2.1 ≠ (TJ1 b).2.1 := by decide +kernel
theorem tyJ1_ok : ∀ k, k < 0 → parseFieldDescriptor (TJ1 k).2.2.1 = some (tyJ1 k) := by decide +kernel
abbrev cJ1_charAt_3b067 : ByteArray := prog_18_method_2_code
def yJ1_charAt_3b067 : MethodName := ⟨RJ1, "charAt", "([BI)C"⟩
def RJ2 : String := "java/lang/StringUTF16"
def TJ2 : u_T := fun k => match k with
  | _ => ("", "", "", false)
def tyJ2 : Nat → FieldType := fun k => match k with
  | _ => .int
abbrev wsJ20 : List Cond := u_ws RJ2 TJ2 0
theorem nmJ2 : ∀ a, a < 0 → ∀ b, b < 0 → a ≠ b → (TJ2 a).2.1 ≠ (TJ2 b).2.1 := by decide +kernel
theorem tyJ2_ok : ∀ k, k < 0 → parseFieldDescriptor (TJ2 k).2.2.1 = some (tyJ2 k) := by decide +kernel
abbrev cJ2_getChar_3b067 : ByteArray := prog_19_method_5_code
def yJ2_getChar_3b067 : MethodName := ⟨RJ2, "getChar", "([BI)C"⟩
abbrev cJ2_length_9d52b : ByteArray := prog_19_method_6_code
def yJ2_length_9d52b : MethodName := ⟨RJ2, "length", "([B)I"⟩
abbrev cJ2_charAt_3b067 : ByteArray := prog_19_method_83_code
def yJ2_charAt_3b067 : MethodName := ⟨RJ2, "charAt", "([BI)C"⟩
abbrev cJ2_checkIndex_2214a : ByteArray := prog_19_method_91_code
def yJ2_checkIndex_2214a : MethodName := ⟨RJ2, "checkIndex", "(I[B)V"⟩
def RJ10 : String := "java/lang/System"
def TJ10 : u_T := fun k => match k with
  | _ => ("", "", "", false)
def tyJ10 : Nat → FieldType := fun k => match k with
  | _ => .int
abbrev wsJ100 : List Cond := u_ws RJ10 TJ10 0
theorem nmJ10 : ∀ a, a < 0 → ∀ b, b < 0 → a ≠ b → (TJ10 a).2.1 ≠ (TJ10 b).2.1 := by decide +kernel
theorem tyJ10_ok : ∀ k, k < 0 → parseFieldDescriptor (TJ10 k).2.2.1 = some (tyJ10 k) := by decide +kernel
def RJ3 : String := "jdk/internal/util/Preconditions"
def TJ3 : u_T := fun k => match k with
  | _ => ("", "", "", false)
def tyJ3 : Nat → FieldType := fun k => match k with
  | _ => .int
abbrev wsJ30 : List Cond := u_ws RJ3 TJ3 0
theorem nmJ3 : ∀ a, a < 0 → ∀ b, b < 0 → a ≠ b → (TJ3 a).2.1 ≠ (TJ3 b).2.1 := by decide +kernel
theorem tyJ3_ok : ∀ k, k < 0 → parseFieldDescriptor (TJ3 k).2.2.1 = some (tyJ3 k) := by decide +kernel
abbrev cJ3_checkIndex_8e157 : ByteArray := prog_21_method_11_code
def yJ3_checkIndex_8e157 : MethodName := ⟨RJ3, "checkIndex", "(IILjava/util/function/BiFunction;)I"⟩
def RL : String := "ForgetStreamLaw"
abbrev cL_law : ByteArray := code
def yL_law : MethodName := ⟨RL, "law", "([I)Z"⟩
abbrev vwCl : List vw_C := [(RX0, TX0, 8), (RX1, TX1, 8), (RX2, TX2, 5), (RX3, TX3, 9), (RX4, TX4, 9), (RX5, TX5, 3), (RX6, TX6, 7), (RX7, TX7, 5), (RX8, TX8, 11), (RX9, TX9, 9), (RX10, TX10, 3), (RX11, TX11, 18), (RX12, TX12, 44)]
