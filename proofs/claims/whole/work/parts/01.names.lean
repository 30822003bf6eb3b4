-- ===== PART A: goes FIRST, ahead of the names: the tables' words, and 'selects' of the private methods out of them =====
/-- a private method of a class that the tables say can be made, by its rows of tables_1 -/
def lw_okq (q : MethodName × Nat) : Prop := (q.1.cls ≠ "java/lang/invoke/MethodHandle" ∧ q.1.cls ≠ "java/lang/invoke/VarHandle") ∧ Cond.instantiable q.1.cls q.2 ∈ tables_1 ∧ Cond.privateMethod q.1 ∈ tables_1 ∧ Cond.instanceMethod q.1 ∈ tables_1
theorem lw_p0 : lw_okq (⟨"AgingMen$Pad", "signAt", "(I)I"⟩, 2) := ⟨⟨by decide +kernel, by decide +kernel⟩, List.mem_of_getElem? (i := 24) (by decide +kernel), List.mem_of_getElem? (i := 221) (by decide +kernel), List.mem_of_getElem? (i := 222) (by decide +kernel)⟩
theorem lw_p1 : lw_okq (⟨"AgingMen$Pad", "fitsBoard", "(IIII)Z"⟩, 2) := ⟨⟨by decide +kernel, by decide +kernel⟩, List.mem_of_getElem? (i := 24) (by decide +kernel), List.mem_of_getElem? (i := 225) (by decide +kernel), List.mem_of_getElem? (i := 226) (by decide +kernel)⟩
theorem lw_p2 : lw_okq (⟨"AgingMen$Pad", "cellAt", "(I)I"⟩, 2) := ⟨⟨by decide +kernel, by decide +kernel⟩, List.mem_of_getElem? (i := 24) (by decide +kernel), List.mem_of_getElem? (i := 235) (by decide +kernel), List.mem_of_getElem? (i := 236) (by decide +kernel)⟩
theorem lw_p3 : lw_okq (⟨"AgingMen", "cellOrNone", "(I)I"⟩, 10) := ⟨⟨by decide +kernel, by decide +kernel⟩, List.mem_of_getElem? (i := 16) (by decide +kernel), List.mem_of_getElem? (i := 288) (by decide +kernel), List.mem_of_getElem? (i := 289) (by decide +kernel)⟩
theorem lw_p4 : lw_okq (⟨"AgingMen", "gameIsGood", "()Z"⟩, 10) := ⟨⟨by decide +kernel, by decide +kernel⟩, List.mem_of_getElem? (i := 16) (by decide +kernel), List.mem_of_getElem? (i := 385) (by decide +kernel), List.mem_of_getElem? (i := 386) (by decide +kernel)⟩
theorem lw_p5 : lw_okq (⟨"AgingMen", "readySolver", "()LAgingMen$Solver;"⟩, 10) := ⟨⟨by decide +kernel, by decide +kernel⟩, List.mem_of_getElem? (i := 16) (by decide +kernel), List.mem_of_getElem? (i := 426) (by decide +kernel), List.mem_of_getElem? (i := 427) (by decide +kernel)⟩
theorem lw_p6 : lw_okq (⟨"AgingMen$Solver", "slotOf", "(J)I"⟩, 16) := ⟨⟨by decide +kernel, by decide +kernel⟩, List.mem_of_getElem? (i := 430) (by decide +kernel), List.mem_of_getElem? (i := 495) (by decide +kernel), List.mem_of_getElem? (i := 496) (by decide +kernel)⟩
theorem lw_p7 : lw_okq (⟨"AgingMen$Solver", "isFilled", "(I)Z"⟩, 16) := ⟨⟨by decide +kernel, by decide +kernel⟩, List.mem_of_getElem? (i := 430) (by decide +kernel), List.mem_of_getElem? (i := 500) (by decide +kernel), List.mem_of_getElem? (i := 501) (by decide +kernel)⟩
theorem lw_p8 : lw_okq (⟨"AgingMen$Solver", "open", "(LAgingMen$Rules;JI)V"⟩, 16) := ⟨⟨by decide +kernel, by decide +kernel⟩, List.mem_of_getElem? (i := 430) (by decide +kernel), List.mem_of_getElem? (i := 504) (by decide +kernel), List.mem_of_getElem? (i := 505) (by decide +kernel)⟩
theorem lw_p9 : lw_okq (⟨"AgingMen$Solver", "goOn", "(LAgingMen$Rules;)V"⟩, 16) := ⟨⟨by decide +kernel, by decide +kernel⟩, List.mem_of_getElem? (i := 430) (by decide +kernel), List.mem_of_getElem? (i := 516) (by decide +kernel), List.mem_of_getElem? (i := 517) (by decide +kernel)⟩
theorem lw_p10 : lw_okq (⟨"AgingMen$Solver", "close", "(I)V"⟩, 16) := ⟨⟨by decide +kernel, by decide +kernel⟩, List.mem_of_getElem? (i := 430) (by decide +kernel), List.mem_of_getElem? (i := 520) (by decide +kernel), List.mem_of_getElem? (i := 521) (by decide +kernel)⟩
theorem lw_p11 : lw_okq (⟨"AgingMen$Solver", "weigh", "(II)V"⟩, 16) := ⟨⟨by decide +kernel, by decide +kernel⟩, List.mem_of_getElem? (i := 430) (by decide +kernel), List.mem_of_getElem? (i := 524) (by decide +kernel), List.mem_of_getElem? (i := 525) (by decide +kernel)⟩
theorem lw_p12 : lw_okq (⟨"AgingMen$Problem", "winsAgainstAll", "(LAgingMen$Rules;J)Z"⟩, 8) := ⟨⟨by decide +kernel, by decide +kernel⟩, List.mem_of_getElem? (i := 102) (by decide +kernel), List.mem_of_getElem? (i := 556) (by decide +kernel), List.mem_of_getElem? (i := 557) (by decide +kernel)⟩
theorem lw_p13 : lw_okq (⟨"AgingMen$Problem", "winsAtOnce", "(LAgingMen$Rules;J)Z"⟩, 8) := ⟨⟨by decide +kernel, by decide +kernel⟩, List.mem_of_getElem? (i := 102) (by decide +kernel), List.mem_of_getElem? (i := 560) (by decide +kernel), List.mem_of_getElem? (i := 561) (by decide +kernel)⟩
theorem lw_p14 : lw_okq (⟨"AgingMen$Book", "has", "(I)Z"⟩, 5) := ⟨⟨by decide +kernel, by decide +kernel⟩, List.mem_of_getElem? (i := 58) (by decide +kernel), List.mem_of_getElem? (i := 590) (by decide +kernel), List.mem_of_getElem? (i := 591) (by decide +kernel)⟩
theorem lw_p15 : lw_okq (⟨"AgingMen$Book", "begins", "(IJLAgingMen$Pad;)Z"⟩, 5) := ⟨⟨by decide +kernel, by decide +kernel⟩, List.mem_of_getElem? (i := 58) (by decide +kernel), List.mem_of_getElem? (i := 611) (by decide +kernel), List.mem_of_getElem? (i := 612) (by decide +kernel)⟩
def lw_privs_1 : List (MethodName × Nat) := [(⟨"AgingMen$Pad", "signAt", "(I)I"⟩, 2), (⟨"AgingMen$Pad", "fitsBoard", "(IIII)Z"⟩, 2), (⟨"AgingMen$Pad", "cellAt", "(I)I"⟩, 2), (⟨"AgingMen", "cellOrNone", "(I)I"⟩, 10), (⟨"AgingMen", "gameIsGood", "()Z"⟩, 10), (⟨"AgingMen", "readySolver", "()LAgingMen$Solver;"⟩, 10), (⟨"AgingMen$Solver", "slotOf", "(J)I"⟩, 16), (⟨"AgingMen$Solver", "isFilled", "(I)Z"⟩, 16), (⟨"AgingMen$Solver", "open", "(LAgingMen$Rules;JI)V"⟩, 16), (⟨"AgingMen$Solver", "goOn", "(LAgingMen$Rules;)V"⟩, 16), (⟨"AgingMen$Solver", "close", "(I)V"⟩, 16), (⟨"AgingMen$Solver", "weigh", "(II)V"⟩, 16), (⟨"AgingMen$Problem", "winsAgainstAll", "(LAgingMen$Rules;J)Z"⟩, 8), (⟨"AgingMen$Problem", "winsAtOnce", "(LAgingMen$Rules;J)Z"⟩, 8), (⟨"AgingMen$Book", "has", "(I)Z"⟩, 5), (⟨"AgingMen$Book", "begins", "(IJLAgingMen$Pad;)Z"⟩, 5)]
theorem lw_r1 : ∀ q ∈ lw_privs_1, lw_okq q := List.forall_mem_cons.mpr ⟨lw_p0, List.forall_mem_cons.mpr ⟨lw_p1, List.forall_mem_cons.mpr ⟨lw_p2, List.forall_mem_cons.mpr ⟨lw_p3, List.forall_mem_cons.mpr ⟨lw_p4, List.forall_mem_cons.mpr ⟨lw_p5, List.forall_mem_cons.mpr ⟨lw_p6, List.forall_mem_cons.mpr ⟨lw_p7, List.forall_mem_cons.mpr ⟨lw_p8, List.forall_mem_cons.mpr ⟨lw_p9, List.forall_mem_cons.mpr ⟨lw_p10, List.forall_mem_cons.mpr ⟨lw_p11, List.forall_mem_cons.mpr ⟨lw_p12, List.forall_mem_cons.mpr ⟨lw_p13, List.forall_mem_cons.mpr ⟨lw_p14, List.forall_mem_cons.mpr ⟨lw_p15, fun _ h => absurd h List.not_mem_nil⟩⟩⟩⟩⟩⟩⟩⟩⟩⟩⟩⟩⟩⟩⟩⟩
theorem lw_p16 : lw_okq (⟨"AgingMen", "imageNumbered", "(I)LAgingMen$Image;"⟩, 10) := ⟨⟨by decide +kernel, by decide +kernel⟩, List.mem_of_getElem? (i := 16) (by decide +kernel), List.mem_of_getElem? (i := 654) (by decide +kernel), List.mem_of_getElem? (i := 655) (by decide +kernel)⟩
theorem lw_p17 : lw_okq (⟨"AgingMenModel", "faultOfBoard", "()I"⟩, 32) := ⟨⟨by decide +kernel, by decide +kernel⟩, List.mem_of_getElem? (i := 673) (by decide +kernel), List.mem_of_getElem? (i := 801) (by decide +kernel), List.mem_of_getElem? (i := 802) (by decide +kernel)⟩
theorem lw_p18 : lw_okq (⟨"AgingMenModel", "faultOfGame", "()I"⟩, 32) := ⟨⟨by decide +kernel, by decide +kernel⟩, List.mem_of_getElem? (i := 673) (by decide +kernel), List.mem_of_getElem? (i := 822) (by decide +kernel), List.mem_of_getElem? (i := 823) (by decide +kernel)⟩
theorem lw_p19 : lw_okq (⟨"AgingMenModel", "cellNow", "(I)I"⟩, 32) := ⟨⟨by decide +kernel, by decide +kernel⟩, List.mem_of_getElem? (i := 673) (by decide +kernel), List.mem_of_getElem? (i := 845) (by decide +kernel), List.mem_of_getElem? (i := 846) (by decide +kernel)⟩
theorem lw_p20 : lw_okq (⟨"AgingMenModel", "kindOf", "(I)I"⟩, 32) := ⟨⟨by decide +kernel, by decide +kernel⟩, List.mem_of_getElem? (i := 673) (by decide +kernel), List.mem_of_getElem? (i := 852) (by decide +kernel), List.mem_of_getElem? (i := 853) (by decide +kernel)⟩
theorem lw_p21 : lw_okq (⟨"AgingMenModel", "broughtBy", "(J)I"⟩, 32) := ⟨⟨by decide +kernel, by decide +kernel⟩, List.mem_of_getElem? (i := 673) (by decide +kernel), List.mem_of_getElem? (i := 865) (by decide +kernel), List.mem_of_getElem? (i := 866) (by decide +kernel)⟩
theorem lw_p22 : lw_okq (⟨"AgingMenModel", "sideMoves", "(JI)Z"⟩, 32) := ⟨⟨by decide +kernel, by decide +kernel⟩, List.mem_of_getElem? (i := 673) (by decide +kernel), List.mem_of_getElem? (i := 869) (by decide +kernel), List.mem_of_getElem? (i := 870) (by decide +kernel)⟩
theorem lw_p23 : lw_okq (⟨"AgingMenModel", "manMoves", "(JI)Z"⟩, 32) := ⟨⟨by decide +kernel, by decide +kernel⟩, List.mem_of_getElem? (i := 673) (by decide +kernel), List.mem_of_getElem? (i := 873) (by decide +kernel), List.mem_of_getElem? (i := 874) (by decide +kernel)⟩
theorem lw_p24 : lw_okq (⟨"AgingMenModel", "canGo", "(JII)Z"⟩, 32) := ⟨⟨by decide +kernel, by decide +kernel⟩, List.mem_of_getElem? (i := 673) (by decide +kernel), List.mem_of_getElem? (i := 877) (by decide +kernel), List.mem_of_getElem? (i := 878) (by decide +kernel)⟩
theorem lw_p25 : lw_okq (⟨"AgingMenModel", "whyNot", "(JII)I"⟩, 32) := ⟨⟨by decide +kernel, by decide +kernel⟩, List.mem_of_getElem? (i := 673) (by decide +kernel), List.mem_of_getElem? (i := 881) (by decide +kernel), List.mem_of_getElem? (i := 882) (by decide +kernel)⟩
theorem lw_p26 : lw_okq (⟨"AgingMenModel", "goGame", "()Z"⟩, 32) := ⟨⟨by decide +kernel, by decide +kernel⟩, List.mem_of_getElem? (i := 673) (by decide +kernel), List.mem_of_getElem? (i := 895) (by decide +kernel), List.mem_of_getElem? (i := 896) (by decide +kernel)⟩
theorem lw_p27 : lw_okq (⟨"AgingMenModel", "whyAt", "(I)I"⟩, 32) := ⟨⟨by decide +kernel, by decide +kernel⟩, List.mem_of_getElem? (i := 673) (by decide +kernel), List.mem_of_getElem? (i := 899) (by decide +kernel), List.mem_of_getElem? (i := 900) (by decide +kernel)⟩
theorem lw_p28 : lw_okq (⟨"AgingMenModel", "fromAt", "(I)I"⟩, 32) := ⟨⟨by decide +kernel, by decide +kernel⟩, List.mem_of_getElem? (i := 673) (by decide +kernel), List.mem_of_getElem? (i := 903) (by decide +kernel), List.mem_of_getElem? (i := 904) (by decide +kernel)⟩
theorem lw_p29 : lw_okq (⟨"AgingMenModel", "toAt", "(I)I"⟩, 32) := ⟨⟨by decide +kernel, by decide +kernel⟩, List.mem_of_getElem? (i := 673) (by decide +kernel), List.mem_of_getElem? (i := 907) (by decide +kernel), List.mem_of_getElem? (i := 908) (by decide +kernel)⟩
theorem lw_p30 : lw_okq (⟨"AgingMenModel", "findMoves", "(J)V"⟩, 32) := ⟨⟨by decide +kernel, by decide +kernel⟩, List.mem_of_getElem? (i := 673) (by decide +kernel), List.mem_of_getElem? (i := 922) (by decide +kernel), List.mem_of_getElem? (i := 923) (by decide +kernel)⟩
theorem lw_p31 : lw_okq (⟨"AgingMenModel", "moveNumber", "(JI)I"⟩, 32) := ⟨⟨by decide +kernel, by decide +kernel⟩, List.mem_of_getElem? (i := 673) (by decide +kernel), List.mem_of_getElem? (i := 926) (by decide +kernel), List.mem_of_getElem? (i := 927) (by decide +kernel)⟩
def lw_privs_2 : List (MethodName × Nat) := [(⟨"AgingMen", "imageNumbered", "(I)LAgingMen$Image;"⟩, 10), (⟨"AgingMenModel", "faultOfBoard", "()I"⟩, 32), (⟨"AgingMenModel", "faultOfGame", "()I"⟩, 32), (⟨"AgingMenModel", "cellNow", "(I)I"⟩, 32), (⟨"AgingMenModel", "kindOf", "(I)I"⟩, 32), (⟨"AgingMenModel", "broughtBy", "(J)I"⟩, 32), (⟨"AgingMenModel", "sideMoves", "(JI)Z"⟩, 32), (⟨"AgingMenModel", "manMoves", "(JI)Z"⟩, 32), (⟨"AgingMenModel", "canGo", "(JII)Z"⟩, 32), (⟨"AgingMenModel", "whyNot", "(JII)I"⟩, 32), (⟨"AgingMenModel", "goGame", "()Z"⟩, 32), (⟨"AgingMenModel", "whyAt", "(I)I"⟩, 32), (⟨"AgingMenModel", "fromAt", "(I)I"⟩, 32), (⟨"AgingMenModel", "toAt", "(I)I"⟩, 32), (⟨"AgingMenModel", "findMoves", "(J)V"⟩, 32), (⟨"AgingMenModel", "moveNumber", "(JI)I"⟩, 32)]
theorem lw_r2 : ∀ q ∈ lw_privs_2, lw_okq q := List.forall_mem_cons.mpr ⟨lw_p16, List.forall_mem_cons.mpr ⟨lw_p17, List.forall_mem_cons.mpr ⟨lw_p18, List.forall_mem_cons.mpr ⟨lw_p19, List.forall_mem_cons.mpr ⟨lw_p20, List.forall_mem_cons.mpr ⟨lw_p21, List.forall_mem_cons.mpr ⟨lw_p22, List.forall_mem_cons.mpr ⟨lw_p23, List.forall_mem_cons.mpr ⟨lw_p24, List.forall_mem_cons.mpr ⟨lw_p25, List.forall_mem_cons.mpr ⟨lw_p26, List.forall_mem_cons.mpr ⟨lw_p27, List.forall_mem_cons.mpr ⟨lw_p28, List.forall_mem_cons.mpr ⟨lw_p29, List.forall_mem_cons.mpr ⟨lw_p30, List.forall_mem_cons.mpr ⟨lw_p31, fun _ h => absurd h List.not_mem_nil⟩⟩⟩⟩⟩⟩⟩⟩⟩⟩⟩⟩⟩⟩⟩⟩
theorem lw_p32 : lw_okq (⟨"AgingMenModel", "findStands", "(J)Z"⟩, 32) := ⟨⟨by decide +kernel, by decide +kernel⟩, List.mem_of_getElem? (i := 673) (by decide +kernel), List.mem_of_getElem? (i := 942) (by decide +kernel), List.mem_of_getElem? (i := 943) (by decide +kernel)⟩
theorem lw_p33 : lw_okq (⟨"AgingMenModel", "addStand", "(J)V"⟩, 32) := ⟨⟨by decide +kernel, by decide +kernel⟩, List.mem_of_getElem? (i := 673) (by decide +kernel), List.mem_of_getElem? (i := 946) (by decide +kernel), List.mem_of_getElem? (i := 947) (by decide +kernel)⟩
theorem lw_p34 : lw_okq (⟨"AgingMenModel", "placeOf", "(J)I"⟩, 32) := ⟨⟨by decide +kernel, by decide +kernel⟩, List.mem_of_getElem? (i := 673) (by decide +kernel), List.mem_of_getElem? (i := 950) (by decide +kernel), List.mem_of_getElem? (i := 951) (by decide +kernel)⟩
theorem lw_p35 : lw_okq (⟨"AgingMenModel", "solveAll", "(J)Z"⟩, 32) := ⟨⟨by decide +kernel, by decide +kernel⟩, List.mem_of_getElem? (i := 673) (by decide +kernel), List.mem_of_getElem? (i := 961) (by decide +kernel), List.mem_of_getElem? (i := 962) (by decide +kernel)⟩
theorem lw_p36 : lw_okq (⟨"AgingMenModel", "solveOne", "(I)V"⟩, 32) := ⟨⟨by decide +kernel, by decide +kernel⟩, List.mem_of_getElem? (i := 673) (by decide +kernel), List.mem_of_getElem? (i := 968) (by decide +kernel), List.mem_of_getElem? (i := 969) (by decide +kernel)⟩
theorem lw_p37 : lw_okq (⟨"AgingMenModel", "isKey", "(JII)Z"⟩, 32) := ⟨⟨by decide +kernel, by decide +kernel⟩, List.mem_of_getElem? (i := 673) (by decide +kernel), List.mem_of_getElem? (i := 979) (by decide +kernel), List.mem_of_getElem? (i := 980) (by decide +kernel)⟩
theorem lw_p38 : lw_okq (⟨"AgingMenModel", "winsAtOnce", "(J)Z"⟩, 32) := ⟨⟨by decide +kernel, by decide +kernel⟩, List.mem_of_getElem? (i := 673) (by decide +kernel), List.mem_of_getElem? (i := 983) (by decide +kernel), List.mem_of_getElem? (i := 984) (by decide +kernel)⟩
theorem lw_p39 : lw_okq (⟨"AgingMenModel", "numberAt", "(I)I"⟩, 32) := ⟨⟨by decide +kernel, by decide +kernel⟩, List.mem_of_getElem? (i := 673) (by decide +kernel), List.mem_of_getElem? (i := 995) (by decide +kernel), List.mem_of_getElem? (i := 996) (by decide +kernel)⟩
theorem lw_p40 : lw_okq (⟨"AgingMenModel", "beginsSo", "(I)Z"⟩, 32) := ⟨⟨by decide +kernel, by decide +kernel⟩, List.mem_of_getElem? (i := 673) (by decide +kernel), List.mem_of_getElem? (i := 1010) (by decide +kernel), List.mem_of_getElem? (i := 1011) (by decide +kernel)⟩
theorem lw_p41 : lw_okq (⟨"AgingMenModel", "goOnWith", "(I)I"⟩, 32) := ⟨⟨by decide +kernel, by decide +kernel⟩, List.mem_of_getElem? (i := 673) (by decide +kernel), List.mem_of_getElem? (i := 1014) (by decide +kernel), List.mem_of_getElem? (i := 1015) (by decide +kernel)⟩
theorem lw_p42 : lw_okq (⟨"AgingMenModel", "passAll", "(I)V"⟩, 32) := ⟨⟨by decide +kernel, by decide +kernel⟩, List.mem_of_getElem? (i := 673) (by decide +kernel), List.mem_of_getElem? (i := 1042) (by decide +kernel), List.mem_of_getElem? (i := 1043) (by decide +kernel)⟩
theorem lw_p43 : lw_okq (⟨"AgingMenModel", "pass", "(I)I"⟩, 32) := ⟨⟨by decide +kernel, by decide +kernel⟩, List.mem_of_getElem? (i := 673) (by decide +kernel), List.mem_of_getElem? (i := 1046) (by decide +kernel), List.mem_of_getElem? (i := 1047) (by decide +kernel)⟩
def lw_privs_3 : List (MethodName × Nat) := [(⟨"AgingMenModel", "findStands", "(J)Z"⟩, 32), (⟨"AgingMenModel", "addStand", "(J)V"⟩, 32), (⟨"AgingMenModel", "placeOf", "(J)I"⟩, 32), (⟨"AgingMenModel", "solveAll", "(J)Z"⟩, 32), (⟨"AgingMenModel", "solveOne", "(I)V"⟩, 32), (⟨"AgingMenModel", "isKey", "(JII)Z"⟩, 32), (⟨"AgingMenModel", "winsAtOnce", "(J)Z"⟩, 32), (⟨"AgingMenModel", "numberAt", "(I)I"⟩, 32), (⟨"AgingMenModel", "beginsSo", "(I)Z"⟩, 32), (⟨"AgingMenModel", "goOnWith", "(I)I"⟩, 32), (⟨"AgingMenModel", "passAll", "(I)V"⟩, 32), (⟨"AgingMenModel", "pass", "(I)I"⟩, 32)]
theorem lw_r3 : ∀ q ∈ lw_privs_3, lw_okq q := List.forall_mem_cons.mpr ⟨lw_p32, List.forall_mem_cons.mpr ⟨lw_p33, List.forall_mem_cons.mpr ⟨lw_p34, List.forall_mem_cons.mpr ⟨lw_p35, List.forall_mem_cons.mpr ⟨lw_p36, List.forall_mem_cons.mpr ⟨lw_p37, List.forall_mem_cons.mpr ⟨lw_p38, List.forall_mem_cons.mpr ⟨lw_p39, List.forall_mem_cons.mpr ⟨lw_p40, List.forall_mem_cons.mpr ⟨lw_p41, List.forall_mem_cons.mpr ⟨lw_p42, List.forall_mem_cons.mpr ⟨lw_p43, fun _ h => absurd h List.not_mem_nil⟩⟩⟩⟩⟩⟩⟩⟩⟩⟩⟩⟩
def lw_privs : List (MethodName × Nat) := lw_privs_1 ++ (lw_privs_2 ++ (lw_privs_3))
def lw_tbl : List Cond := k2_sels lw_privs ++ tables_1
theorem lw_privs_ok : ∀ q ∈ lw_privs, lw_okq q := by
  show ∀ q ∈ lw_privs_1 ++ (lw_privs_2 ++ (lw_privs_3)), lw_okq q
  exact List.forall_mem_append.mpr ⟨lw_r1, List.forall_mem_append.mpr ⟨lw_r2, lw_r3⟩⟩
/-! names, printed by program out of the claim -/
def RX0 : String := "AgingMen$Book"
def TX0 : u_T := fun k => match k with
  | 0 => ("AgingMen$Book", "starts", "[J", true)
  | 1 => ("AgingMen$Book", "lengths", "[I", true)
  | 2 => ("AgingMen$Book", "results", "[I", true)
  | 3 => ("AgingMen$Book", "played", "[I", true)
  | _ => ("AgingMen$Book", "count", "I", false)
def tyX0 : Nat → FieldType := fun k => match k with
  | 0 => .array .long
  | 1 => .array .int
  | 2 => .array .int
  | 3 => .array .int
  | _ => .int
theorem nmX0 : ∀ a, a < 5 → ∀ b, b < 5 → a ≠ b → (TX0 a).2.1 ≠ (TX0 b).2.1 := by decide +kernel
theorem tyX0_ok : ∀ k, k < 5 → parseFieldDescriptor (TX0 k).2.2.1 = some (tyX0 k) := by decide +kernel
abbrev cX0_init : ByteArray := prog_2_method_1_code
def yX0_init : MethodName := ⟨RX0, "<init>", "()V"⟩
abbrev cX0_add : ByteArray := prog_2_method_2_code
def yX0_add : MethodName := ⟨RX0, "add", "(JLAgingMen$Pad;I)I"⟩
abbrev cX0_moveOnPad : ByteArray := prog_2_method_3_code
def yX0_moveOnPad : MethodName := ⟨RX0, "moveOnPad", "(LAgingMen$Pad;I)I"⟩
abbrev cX0_copyFrom : ByteArray := prog_2_method_4_code
def yX0_copyFrom : MethodName := ⟨RX0, "copyFrom", "(LAgingMen$Book;)V"⟩
abbrev cX0_has : ByteArray := prog_2_method_5_code
def yX0_has : MethodName := ⟨RX0, "has", "(I)Z"⟩
abbrev cX0_lengthOf : ByteArray := prog_2_method_6_code
def yX0_lengthOf : MethodName := ⟨RX0, "lengthOf", "(I)I"⟩
abbrev cX0_broughtBy : ByteArray := prog_2_method_7_code
def yX0_broughtBy : MethodName := ⟨RX0, "broughtBy", "(I)I"⟩
abbrev cX0_moveOf : ByteArray := prog_2_method_8_code
def yX0_moveOf : MethodName := ⟨RX0, "moveOf", "(II)I"⟩
abbrev cX0_begins : ByteArray := prog_2_method_9_code
def yX0_begins : MethodName := ⟨RX0, "begins", "(IJLAgingMen$Pad;)Z"⟩
abbrev cX0_countBegun : ByteArray := prog_2_method_10_code
def yX0_countBegun : MethodName := ⟨RX0, "countBegun", "(JLAgingMen$Pad;)I"⟩
abbrev cX0_countWon : ByteArray := prog_2_method_11_code
def yX0_countWon : MethodName := ⟨RX0, "countWon", "(JLAgingMen$Pad;I)I"⟩
abbrev cX0_timesPlayed : ByteArray := prog_2_method_12_code
def yX0_timesPlayed : MethodName := ⟨RX0, "timesPlayed", "(JLAgingMen$Pad;I)I"⟩
abbrev cX0_mostPlayed : ByteArray := prog_2_method_13_code
def yX0_mostPlayed : MethodName := ⟨RX0, "mostPlayed", "(JLAgingMen$Pad;)I"⟩
def RX1 : String := "AgingMen$Image"
def TX1 : u_T := fun k => match k with
  | 0 => ("AgingMen$Image", "shelf", "LAgingMen$Book;", true)
  | 1 => ("AgingMen$Image", "kept", "Z", false)
  | 2 => ("AgingMen$Image", "stand", "J", false)
  | _ => ("AgingMen$Image", "law", "I", false)
def tyX1 : Nat → FieldType := fun k => match k with
  | 0 => .object "AgingMen$Book"
  | 1 => .boolean
  | 2 => .long
  | _ => .int
theorem nmX1 : ∀ a, a < 4 → ∀ b, b < 4 → a ≠ b → (TX1 a).2.1 ≠ (TX1 b).2.1 := by decide +kernel
theorem tyX1_ok : ∀ k, k < 4 → parseFieldDescriptor (TX1 k).2.2.1 = some (tyX1 k) := by decide +kernel
abbrev cX1_init : ByteArray := prog_3_method_1_code
def yX1_init : MethodName := ⟨RX1, "<init>", "()V"⟩
def RX2 : String := "AgingMen$Judge"
def TX2 : u_T := fun k => match k with
  | 0 => ("AgingMen$Judge", "firstBad", "I", false)
  | 1 => ("AgingMen$Judge", "reason", "I", false)
  | _ => ("AgingMen$Judge", "end", "J", false)
def tyX2 : Nat → FieldType := fun k => match k with
  | 0 => .int
  | 1 => .int
  | _ => .long
theorem nmX2 : ∀ a, a < 3 → ∀ b, b < 3 → a ≠ b → (TX2 a).2.1 ≠ (TX2 b).2.1 := by decide +kernel
theorem tyX2_ok : ∀ k, k < 3 → parseFieldDescriptor (TX2 k).2.2.1 = some (tyX2 k) := by decide +kernel
abbrev cX2_init : ByteArray := prog_4_method_1_code
def yX2_init : MethodName := ⟨RX2, "<init>", "()V"⟩
abbrev cX2_passes : ByteArray := prog_4_method_2_code
def yX2_passes : MethodName := ⟨RX2, "passes", "(LAgingMen$Rules;JLAgingMen$Pad;)Z"⟩
abbrev cX2_whyNot : ByteArray := prog_4_method_3_code
def yX2_whyNot : MethodName := ⟨RX2, "whyNot", "(LAgingMen$Rules;JII)I"⟩
def RX3 : String := "AgingMen$Pad"
def TX3 : u_T := fun k => match k with
  | 0 => ("AgingMen$Pad", "signs", "[B", true)
  | _ => ("AgingMen$Pad", "size", "I", false)
def tyX3 : Nat → FieldType := fun k => match k with
  | 0 => .array .byte
  | _ => .int
theorem nmX3 : ∀ a, a < 2 → ∀ b, b < 2 → a ≠ b → (TX3 a).2.1 ≠ (TX3 b).2.1 := by decide +kernel
theorem tyX3_ok : ∀ k, k < 2 → parseFieldDescriptor (TX3 k).2.2.1 = some (tyX3 k) := by decide +kernel
abbrev cX3_init : ByteArray := prog_5_method_1_code
def yX3_init : MethodName := ⟨RX3, "<init>", "()V"⟩
abbrev cX3_add : ByteArray := prog_5_method_2_code
def yX3_add : MethodName := ⟨RX3, "add", "(I)Z"⟩
abbrev cX3_clear : ByteArray := prog_5_method_3_code
def yX3_clear : MethodName := ⟨RX3, "clear", "()V"⟩
abbrev cX3_signAt : ByteArray := prog_5_method_4_code
def yX3_signAt : MethodName := ⟨RX3, "signAt", "(I)I"⟩
abbrev cX3_isColumn : ByteArray := prog_5_method_5_code
def yX3_isColumn : MethodName := ⟨RX3, "isColumn", "(I)Z"⟩
abbrev cX3_isLine : ByteArray := prog_5_method_6_code
def yX3_isLine : MethodName := ⟨RX3, "isLine", "(I)Z"⟩
abbrev cX3_cellAt : ByteArray := prog_5_method_7_code
def yX3_cellAt : MethodName := ⟨RX3, "cellAt", "(I)I"⟩
abbrev cX3_boardFault : ByteArray := prog_5_method_8_code
def yX3_boardFault : MethodName := ⟨RX3, "boardFault", "()I"⟩
abbrev cX3_fitsBoard : ByteArray := prog_5_method_9_code
def yX3_fitsBoard : MethodName := ⟨RX3, "fitsBoard", "(IIII)Z"⟩
abbrev cX3_gameFault : ByteArray := prog_5_method_10_code
def yX3_gameFault : MethodName := ⟨RX3, "gameFault", "()I"⟩
abbrev cX3_boardTold : ByteArray := prog_5_method_11_code
def yX3_boardTold : MethodName := ⟨RX3, "boardTold", "()J"⟩
abbrev cX3_countMoves : ByteArray := prog_5_method_12_code
def yX3_countMoves : MethodName := ⟨RX3, "countMoves", "()I"⟩
abbrev cX3_fromAt : ByteArray := prog_5_method_13_code
def yX3_fromAt : MethodName := ⟨RX3, "fromAt", "(I)I"⟩
abbrev cX3_toAt : ByteArray := prog_5_method_14_code
def yX3_toAt : MethodName := ⟨RX3, "toAt", "(I)I"⟩
def RX4 : String := "AgingMen$Problem"
def TX4 : u_T := fun k => match k with
  | 0 => ("AgingMen$Problem", "firsts", "[I", true)
  | 1 => ("AgingMen$Problem", "replies", "[I", true)
  | 2 => ("AgingMen$Problem", "lasts", "[I", true)
  | 3 => ("AgingMen$Problem", "found", "[I", true)
  | 4 => ("AgingMen$Problem", "count", "I", false)
  | 5 => ("AgingMen$Problem", "foundStand", "J", false)
  | 6 => ("AgingMen$Problem", "foundLaw", "I", false)
  | _ => ("AgingMen$Problem", "foundN", "I", false)
def tyX4 : Nat → FieldType := fun k => match k with
  | 0 => .array .int
  | 1 => .array .int
  | 2 => .array .int
  | 3 => .array .int
  | 4 => .int
  | 5 => .long
  | 6 => .int
  | _ => .int
theorem nmX4 : ∀ a, a < 8 → ∀ b, b < 8 → a ≠ b → (TX4 a).2.1 ≠ (TX4 b).2.1 := by decide +kernel
theorem tyX4_ok : ∀ k, k < 8 → parseFieldDescriptor (TX4 k).2.2.1 = some (tyX4 k) := by decide +kernel
abbrev cX4_init : ByteArray := prog_6_method_1_code
def yX4_init : MethodName := ⟨RX4, "<init>", "()V"⟩
abbrev cX4_find : ByteArray := prog_6_method_2_code
def yX4_find : MethodName := ⟨RX4, "find", "(LAgingMen$Rules;JI)V"⟩
abbrev cX4_winsAgainstAll : ByteArray := prog_6_method_3_code
def yX4_winsAgainstAll : MethodName := ⟨RX4, "winsAgainstAll", "(LAgingMen$Rules;J)Z"⟩
abbrev cX4_winsAtOnce : ByteArray := prog_6_method_4_code
def yX4_winsAtOnce : MethodName := ⟨RX4, "winsAtOnce", "(LAgingMen$Rules;J)Z"⟩
def RX5 : String := "AgingMen$Rules"
def TX5 : u_T := fun k => match k with
  | 0 => ("AgingMen$Rules", "boys", "I", false)
  | 1 => ("AgingMen$Rules", "grown", "I", false)
  | _ => ("AgingMen$Rules", "old", "I", false)
def tyX5 : Nat → FieldType := fun k => match k with
  | 0 => .int
  | 1 => .int
  | _ => .int
theorem nmX5 : ∀ a, a < 3 → ∀ b, b < 3 → a ≠ b → (TX5 a).2.1 ≠ (TX5 b).2.1 := by decide +kernel
theorem tyX5_ok : ∀ k, k < 3 → parseFieldDescriptor (TX5 k).2.2.1 = some (tyX5 k) := by decide +kernel
abbrev cX5_init : ByteArray := prog_7_method_1_code
def yX5_init : MethodName := ⟨RX5, "<init>", "()V"⟩
abbrev cX5_set : ByteArray := prog_7_method_2_code
def yX5_set : MethodName := ⟨RX5, "set", "(III)V"⟩
abbrev cX5_code : ByteArray := prog_7_method_3_code
def yX5_code : MethodName := ⟨RX5, "code", "()I"⟩
abbrev cX5_kindOf : ByteArray := prog_7_method_4_code
def yX5_kindOf : MethodName := ⟨RX5, "kindOf", "(I)I"⟩
abbrev cX5_targets : ByteArray := prog_7_method_5_code
def yX5_targets : MethodName := ⟨RX5, "targets", "(IIII)I"⟩
abbrev cX5_straight : ByteArray := prog_7_method_6_code
def yX5_straight : MethodName := ⟨RX5, "straight", "(II)I"⟩
abbrev cX5_reachOfSide : ByteArray := prog_7_method_7_code
def yX5_reachOfSide : MethodName := ⟨RX5, "reachOfSide", "(JI)I"⟩
abbrev cX5_countBlocked : ByteArray := prog_7_method_8_code
def yX5_countBlocked : MethodName := ⟨RX5, "countBlocked", "(JI)I"⟩
abbrev cX5_youthOf : ByteArray := prog_7_method_9_code
def yX5_youthOf : MethodName := ⟨RX5, "youthOf", "(JI)I"⟩
abbrev cX5_ending : ByteArray := prog_7_method_10_code
def yX5_ending : MethodName := ⟨RX5, "ending", "(J)I"⟩
abbrev cX5_wonBy : ByteArray := prog_7_method_11_code
def yX5_wonBy : MethodName := ⟨RX5, "wonBy", "(I)I"⟩
abbrev cX5_list : ByteArray := prog_7_method_12_code
def yX5_list : MethodName := ⟨RX5, "list", "(J[II)I"⟩
def RX6 : String := "AgingMen$Score"
def TX6 : u_T := fun k => match k with
  | _ => ("", "", "", false)
def tyX6 : Nat → FieldType := fun k => match k with
  | _ => .int
theorem nmX6 : ∀ a, a < 0 → ∀ b, b < 0 → a ≠ b → (TX6 a).2.1 ≠ (TX6 b).2.1 := by decide +kernel
theorem tyX6_ok : ∀ k, k < 0 → parseFieldDescriptor (TX6 k).2.2.1 = some (tyX6 k) := by decide +kernel
abbrev cX6_atEnd : ByteArray := prog_8_method_2_code
def yX6_atEnd : MethodName := ⟨RX6, "atEnd", "(II)I"⟩
abbrev cX6_before : ByteArray := prog_8_method_3_code
def yX6_before : MethodName := ⟨RX6, "before", "(I)I"⟩
abbrev cX6_bringing : ByteArray := prog_8_method_4_code
def yX6_bringing : MethodName := ⟨RX6, "bringing", "(I)I"⟩
abbrev cX6_length : ByteArray := prog_8_method_5_code
def yX6_length : MethodName := ⟨RX6, "length", "(I)I"⟩
def RX7 : String := "AgingMen$Solver"
def TX7 : u_T := fun k => match k with
  | 0 => ("AgingMen$Solver", "filled", "[J", true)
  | 1 => ("AgingMen$Solver", "marks", "[I", true)
  | 2 => ("AgingMen$Solver", "round", "I", false)
  | 3 => ("AgingMen$Solver", "path", "[J", true)
  | 4 => ("AgingMen$Solver", "slots", "[I", true)
  | 5 => ("AgingMen$Solver", "listed", "[I", true)
  | 6 => ("AgingMen$Solver", "tried", "[I", true)
  | 7 => ("AgingMen$Solver", "best", "[I", true)
  | 8 => ("AgingMen$Solver", "rows", "[I", true)
  | 9 => ("AgingMen$Solver", "depth", "I", false)
  | 10 => ("AgingMen$Solver", "solvedStand", "J", false)
  | 11 => ("AgingMen$Solver", "solvedLaw", "I", false)
  | 12 => ("AgingMen$Solver", "count", "I", false)
  | 13 => ("AgingMen$Solver", "full", "Z", false)
  | 14 => ("AgingMen$Solver", "score", "I", false)
  | _ => ("AgingMen$Solver", "bestMove", "I", false)
def tyX7 : Nat → FieldType := fun k => match k with
  | 0 => .array .long
  | 1 => .array .int
  | 2 => .int
  | 3 => .array .long
  | 4 => .array .int
  | 5 => .array .int
  | 6 => .array .int
  | 7 => .array .int
  | 8 => .array .int
  | 9 => .int
  | 10 => .long
  | 11 => .int
  | 12 => .int
  | 13 => .boolean
  | 14 => .int
  | _ => .int
theorem nmX7 : ∀ a, a < 16 → ∀ b, b < 16 → a ≠ b → (TX7 a).2.1 ≠ (TX7 b).2.1 := by decide +kernel
theorem tyX7_ok : ∀ k, k < 16 → parseFieldDescriptor (TX7 k).2.2.1 = some (tyX7 k) := by decide +kernel
abbrev cX7_init : ByteArray := prog_9_method_1_code
def yX7_init : MethodName := ⟨RX7, "<init>", "()V"⟩
abbrev cX7_goThrough : ByteArray := prog_9_method_2_code
def yX7_goThrough : MethodName := ⟨RX7, "goThrough", "(LAgingMen$Rules;J)V"⟩
abbrev cX7_slotOf : ByteArray := prog_9_method_3_code
def yX7_slotOf : MethodName := ⟨RX7, "slotOf", "(J)I"⟩
abbrev cX7_isFilled : ByteArray := prog_9_method_4_code
def yX7_isFilled : MethodName := ⟨RX7, "isFilled", "(I)Z"⟩
abbrev cX7_open : ByteArray := prog_9_method_5_code
def yX7_open : MethodName := ⟨RX7, "open", "(LAgingMen$Rules;JI)V"⟩
abbrev cX7_goOn : ByteArray := prog_9_method_6_code
def yX7_goOn : MethodName := ⟨RX7, "goOn", "(LAgingMen$Rules;)V"⟩
abbrev cX7_close : ByteArray := prog_9_method_7_code
def yX7_close : MethodName := ⟨RX7, "close", "(I)V"⟩
abbrev cX7_weigh : ByteArray := prog_9_method_8_code
def yX7_weigh : MethodName := ⟨RX7, "weigh", "(II)V"⟩
def RX8 : String := "AgingMen$Stand"
def TX8 : u_T := fun k => match k with
  | _ => ("", "", "", false)
def tyX8 : Nat → FieldType := fun k => match k with
  | _ => .int
theorem nmX8 : ∀ a, a < 0 → ∀ b, b < 0 → a ≠ b → (TX8 a).2.1 ≠ (TX8 b).2.1 := by decide +kernel
theorem tyX8_ok : ∀ k, k < 0 → parseFieldDescriptor (TX8 k).2.2.1 = some (tyX8 k) := by decide +kernel
abbrev cX8_cellOf : ByteArray := prog_10_method_2_code
def yX8_cellOf : MethodName := ⟨RX8, "cellOf", "(JI)I"⟩
abbrev cX8_ageOf : ByteArray := prog_10_method_3_code
def yX8_ageOf : MethodName := ⟨RX8, "ageOf", "(JI)I"⟩
abbrev cX8_turnOf : ByteArray := prog_10_method_4_code
def yX8_turnOf : MethodName := ⟨RX8, "turnOf", "(J)I"⟩
abbrev cX8_isUp : ByteArray := prog_10_method_5_code
def yX8_isUp : MethodName := ⟨RX8, "isUp", "(JI)Z"⟩
abbrev cX8_withTurn : ByteArray := prog_10_method_6_code
def yX8_withTurn : MethodName := ⟨RX8, "withTurn", "(JI)J"⟩
abbrev cX8_put : ByteArray := prog_10_method_7_code
def yX8_put : MethodName := ⟨RX8, "put", "(JIII)J"⟩
abbrev cX8_manOn : ByteArray := prog_10_method_8_code
def yX8_manOn : MethodName := ⟨RX8, "manOn", "(JI)I"⟩
abbrev cX8_countMen : ByteArray := prog_10_method_9_code
def yX8_countMen : MethodName := ⟨RX8, "countMen", "(J)I"⟩
abbrev cX8_cellsOf : ByteArray := prog_10_method_10_code
def yX8_cellsOf : MethodName := ⟨RX8, "cellsOf", "(JI)I"⟩
abbrev cX8_asTold : ByteArray := prog_10_method_11_code
def yX8_asTold : MethodName := ⟨RX8, "asTold", "(JI)I"⟩
abbrev cX8_after : ByteArray := prog_10_method_12_code
def yX8_after : MethodName := ⟨RX8, "after", "(JI)J"⟩
abbrev cX8_mirrored : ByteArray := prog_10_method_13_code
def yX8_mirrored : MethodName := ⟨RX8, "mirrored", "(JI)J"⟩
abbrev cX8_mirroredCell : ByteArray := prog_10_method_14_code
def yX8_mirroredCell : MethodName := ⟨RX8, "mirroredCell", "(II)I"⟩
def RX9 : String := "AgingMen"
def TX9 : u_T := fun k => match k with
  | 0 => ("AgingMen", "pad", "LAgingMen$Pad;", true)
  | 1 => ("AgingMen", "rules", "LAgingMen$Rules;", true)
  | 2 => ("AgingMen", "shelf", "LAgingMen$Book;", true)
  | 3 => ("AgingMen", "referee", "LAgingMen$Judge;", true)
  | 4 => ("AgingMen", "problem", "LAgingMen$Problem;", true)
  | 5 => ("AgingMen", "firstImage", "LAgingMen$Image;", true)
  | 6 => ("AgingMen", "secondImage", "LAgingMen$Image;", true)
  | 7 => ("AgingMen", "row", "[I", true)
  | 8 => ("AgingMen", "solver", "LAgingMen$Solver;", false)
  | _ => ("AgingMen", "stand", "J", false)
def tyX9 : Nat → FieldType := fun k => match k with
  | 0 => .object "AgingMen$Pad"
  | 1 => .object "AgingMen$Rules"
  | 2 => .object "AgingMen$Book"
  | 3 => .object "AgingMen$Judge"
  | 4 => .object "AgingMen$Problem"
  | 5 => .object "AgingMen$Image"
  | 6 => .object "AgingMen$Image"
  | 7 => .array .int
  | 8 => .object "AgingMen$Solver"
  | _ => .long
theorem nmX9 : ∀ a, a < 10 → ∀ b, b < 10 → a ≠ b → (TX9 a).2.1 ≠ (TX9 b).2.1 := by decide +kernel
theorem tyX9_ok : ∀ k, k < 10 → parseFieldDescriptor (TX9 k).2.2.1 = some (tyX9 k) := by decide +kernel
abbrev cX9_init : ByteArray := prog_1_method_1_code
def yX9_init : MethodName := ⟨RX9, "<init>", "()V"⟩
abbrev cX9_say : ByteArray := prog_1_method_2_code
def yX9_say : MethodName := ⟨RX9, "say", "(I)I"⟩
abbrev cX9_wipe : ByteArray := prog_1_method_3_code
def yX9_wipe : MethodName := ⟨RX9, "wipe", "()I"⟩
abbrev cX9_fault : ByteArray := prog_1_method_4_code
def yX9_fault : MethodName := ⟨RX9, "fault", "(I)I"⟩
abbrev cX9_lay : ByteArray := prog_1_method_5_code
def yX9_lay : MethodName := ⟨RX9, "lay", "()I"⟩
abbrev cX9_law : ByteArray := prog_1_method_6_code
def yX9_law : MethodName := ⟨RX9, "law", "(III)I"⟩
abbrev cX9_man : ByteArray := prog_1_method_7_code
def yX9_man : MethodName := ⟨RX9, "man", "(II)I"⟩
abbrev cX9_cellOrNone : ByteArray := prog_1_method_8_code
def yX9_cellOrNone : MethodName := ⟨RX9, "cellOrNone", "(I)I"⟩
abbrev cX9_on : ByteArray := prog_1_method_9_code
def yX9_on : MethodName := ⟨RX9, "on", "(I)I"⟩
abbrev cX9_state : ByteArray := prog_1_method_10_code
def yX9_state : MethodName := ⟨RX9, "state", "(I)I"⟩
abbrev cX9_judge : ByteArray := prog_1_method_11_code
def yX9_judge : MethodName := ⟨RX9, "judge", "(I)I"⟩
abbrev cX9_play : ByteArray := prog_1_method_12_code
def yX9_play : MethodName := ⟨RX9, "play", "()I"⟩
abbrev cX9_gameIsGood : ByteArray := prog_1_method_13_code
def yX9_gameIsGood : MethodName := ⟨RX9, "gameIsGood", "()Z"⟩
abbrev cX9_moves : ByteArray := prog_1_method_14_code
def yX9_moves : MethodName := ⟨RX9, "moves", "(I)I"⟩
abbrev cX9_reach : ByteArray := prog_1_method_15_code
def yX9_reach : MethodName := ⟨RX9, "reach", "(I)I"⟩
abbrev cX9_youth : ByteArray := prog_1_method_16_code
def yX9_youth : MethodName := ⟨RX9, "youth", "(II)I"⟩
abbrev cX9_stands : ByteArray := prog_1_method_17_code
def yX9_stands : MethodName := ⟨RX9, "stands", "()I"⟩
abbrev cX9_solve : ByteArray := prog_1_method_18_code
def yX9_solve : MethodName := ⟨RX9, "solve", "(I)I"⟩
abbrev cX9_readySolver : ByteArray := prog_1_method_19_code
def yX9_readySolver : MethodName := ⟨RX9, "readySolver", "()LAgingMen$Solver;"⟩
abbrev cX9_keys : ByteArray := prog_1_method_20_code
def yX9_keys : MethodName := ⟨RX9, "keys", "(II)I"⟩
abbrev cX9_even : ByteArray := prog_1_method_21_code
def yX9_even : MethodName := ⟨RX9, "even", "(I)I"⟩
abbrev cX9_book : ByteArray := prog_1_method_22_code
def yX9_book : MethodName := ⟨RX9, "book", "()I"⟩
abbrev cX9_booked : ByteArray := prog_1_method_23_code
def yX9_booked : MethodName := ⟨RX9, "booked", "(II)I"⟩
abbrev cX9_next : ByteArray := prog_1_method_24_code
def yX9_next : MethodName := ⟨RX9, "next", "(I)I"⟩
abbrev cX9_drawn : ByteArray := prog_1_method_25_code
def yX9_drawn : MethodName := ⟨RX9, "drawn", "(II)I"⟩
abbrev cX9_mirror : ByteArray := prog_1_method_26_code
def yX9_mirror : MethodName := ⟨RX9, "mirror", "(I)I"⟩
abbrev cX9_like : ByteArray := prog_1_method_27_code
def yX9_like : MethodName := ⟨RX9, "like", "()I"⟩
abbrev cX9_image : ByteArray := prog_1_method_28_code
def yX9_image : MethodName := ⟨RX9, "image", "(I)I"⟩
abbrev cX9_restore : ByteArray := prog_1_method_29_code
def yX9_restore : MethodName := ⟨RX9, "restore", "(I)I"⟩
abbrev cX9_imageNumbered : ByteArray := prog_1_method_30_code
def yX9_imageNumbered : MethodName := ⟨RX9, "imageNumbered", "(I)LAgingMen$Image;"⟩
abbrev cX9_told : ByteArray := prog_1_method_31_code
def yX9_told : MethodName := ⟨RX9, "told", "(I)I"⟩
def RX10 : String := "AgingMenModel"
def TX10 : u_T := fun k => match k with
  | 0 => ("AgingMenModel", "board", "J", false)
  | 1 => ("AgingMenModel", "boys", "I", false)
  | 2 => ("AgingMenModel", "grown", "I", false)
  | 3 => ("AgingMenModel", "old", "I", false)
  | 4 => ("AgingMenModel", "moveMan", "[I", true)
  | 5 => ("AgingMenModel", "moveTo", "[I", true)
  | 6 => ("AgingMenModel", "moveMany", "I", false)
  | 7 => ("AgingMenModel", "pad", "[I", true)
  | 8 => ("AgingMenModel", "padMany", "I", false)
  | 9 => ("AgingMenModel", "read", "J", false)
  | 10 => ("AgingMenModel", "badMove", "I", false)
  | 11 => ("AgingMenModel", "badWhy", "I", false)
  | 12 => ("AgingMenModel", "played", "J", false)
  | 13 => ("AgingMenModel", "stands", "[J", true)
  | 14 => ("AgingMenModel", "place", "[I", true)
  | 15 => ("AgingMenModel", "result", "[I", true)
  | 16 => ("AgingMenModel", "lasts", "[I", true)
  | 17 => ("AgingMenModel", "bestMove", "[I", true)
  | 18 => ("AgingMenModel", "standMany", "I", false)
  | 19 => ("AgingMenModel", "replies", "[J", true)
  | 20 => ("AgingMenModel", "firsts", "[J", true)
  | 21 => ("AgingMenModel", "firstMove", "[I", true)
  | 22 => ("AgingMenModel", "gameBoard", "[J", true)
  | 23 => ("AgingMenModel", "gameMany", "[I", true)
  | 24 => ("AgingMenModel", "gameMove", "[I", true)
  | 25 => ("AgingMenModel", "gameBrought", "[I", true)
  | 26 => ("AgingMenModel", "games", "I", false)
  | 27 => ("AgingMenModel", "keptBoards", "[J", true)
  | 28 => ("AgingMenModel", "kept", "[I", true)
  | 29 => ("AgingMenModel", "isKept", "[Z", true)
  | 30 => ("AgingMenModel", "keptAt", "I", false)
  | _ => ("AgingMenModel", "isWriting", "Z", false)
def tyX10 : Nat → FieldType := fun k => match k with
  | 0 => .long
  | 1 => .int
  | 2 => .int
  | 3 => .int
  | 4 => .array .int
  | 5 => .array .int
  | 6 => .int
  | 7 => .array .int
  | 8 => .int
  | 9 => .long
  | 10 => .int
  | 11 => .int
  | 12 => .long
  | 13 => .array .long
  | 14 => .array .int
  | 15 => .array .int
  | 16 => .array .int
  | 17 => .array .int
  | 18 => .int
  | 19 => .array .long
  | 20 => .array .long
  | 21 => .array .int
  | 22 => .array .long
  | 23 => .array .int
  | 24 => .array .int
  | 25 => .array .int
  | 26 => .int
  | 27 => .array .long
  | 28 => .array .int
  | 29 => .array .boolean
  | 30 => .int
  | _ => .boolean
theorem nmX10 : ∀ a, a < 32 → ∀ b, b < 32 → a ≠ b → (TX10 a).2.1 ≠ (TX10 b).2.1 := by decide +kernel
theorem tyX10_ok : ∀ k, k < 32 → parseFieldDescriptor (TX10 k).2.2.1 = some (tyX10 k) := by decide +kernel
abbrev cX10_init : ByteArray := prog_12_method_1_code
def yX10_init : MethodName := ⟨RX10, "<init>", "()V"⟩
abbrev cX10_in : ByteArray := prog_12_method_3_code
def yX10_in : MethodName := ⟨RX10, "in", "(JJJ)Z"⟩
abbrev cX10_size : ByteArray := prog_12_method_4_code
def yX10_size : MethodName := ⟨RX10, "size", "(I)I"⟩
abbrev cX10_cellOf : ByteArray := prog_12_method_5_code
def yX10_cellOf : MethodName := ⟨RX10, "cellOf", "(JI)I"⟩
abbrev cX10_ageOf : ByteArray := prog_12_method_6_code
def yX10_ageOf : MethodName := ⟨RX10, "ageOf", "(JI)I"⟩
abbrev cX10_turnOf : ByteArray := prog_12_method_7_code
def yX10_turnOf : MethodName := ⟨RX10, "turnOf", "(J)I"⟩
abbrev cX10_put : ByteArray := prog_12_method_8_code
def yX10_put : MethodName := ⟨RX10, "put", "(JIII)J"⟩
abbrev cX10_manOn : ByteArray := prog_12_method_9_code
def yX10_manOn : MethodName := ⟨RX10, "manOn", "(JI)I"⟩
abbrev cX10_kindOf : ByteArray := prog_12_method_10_code
def yX10_kindOf : MethodName := ⟨RX10, "kindOf", "(I)I"⟩
abbrev cX10_whyNot : ByteArray := prog_12_method_11_code
def yX10_whyNot : MethodName := ⟨RX10, "whyNot", "(JII)I"⟩
abbrev cX10_isBetween : ByteArray := prog_12_method_12_code
def yX10_isBetween : MethodName := ⟨RX10, "isBetween", "(JII)Z"⟩
abbrev cX10_canGo : ByteArray := prog_12_method_13_code
def yX10_canGo : MethodName := ⟨RX10, "canGo", "(JII)Z"⟩
abbrev cX10_manMoves : ByteArray := prog_12_method_14_code
def yX10_manMoves : MethodName := ⟨RX10, "manMoves", "(JI)Z"⟩
abbrev cX10_sideMoves : ByteArray := prog_12_method_15_code
def yX10_sideMoves : MethodName := ⟨RX10, "sideMoves", "(JI)Z"⟩
abbrev cX10_broughtBy : ByteArray := prog_12_method_16_code
def yX10_broughtBy : MethodName := ⟨RX10, "broughtBy", "(J)I"⟩
abbrev cX10_gone : ByteArray := prog_12_method_17_code
def yX10_gone : MethodName := ⟨RX10, "gone", "(JII)J"⟩
abbrev cX10_findMoves : ByteArray := prog_12_method_18_code
def yX10_findMoves : MethodName := ⟨RX10, "findMoves", "(J)V"⟩
abbrev cX10_say : ByteArray := prog_12_method_19_code
def yX10_say : MethodName := ⟨RX10, "say", "(I)I"⟩
abbrev cX10_wipe : ByteArray := prog_12_method_20_code
def yX10_wipe : MethodName := ⟨RX10, "wipe", "()I"⟩
abbrev cX10_faultOfBoard : ByteArray := prog_12_method_21_code
def yX10_faultOfBoard : MethodName := ⟨RX10, "faultOfBoard", "()I"⟩
abbrev cX10_faultOfGame : ByteArray := prog_12_method_22_code
def yX10_faultOfGame : MethodName := ⟨RX10, "faultOfGame", "()I"⟩
abbrev cX10_fault : ByteArray := prog_12_method_23_code
def yX10_fault : MethodName := ⟨RX10, "fault", "(I)I"⟩
abbrev cX10_standing : ByteArray := prog_12_method_24_code
def yX10_standing : MethodName := ⟨RX10, "standing", "(J)I"⟩
abbrev cX10_lay : ByteArray := prog_12_method_25_code
def yX10_lay : MethodName := ⟨RX10, "lay", "()I"⟩
abbrev cX10_law : ByteArray := prog_12_method_26_code
def yX10_law : MethodName := ⟨RX10, "law", "(III)I"⟩
abbrev cX10_isMan : ByteArray := prog_12_method_27_code
def yX10_isMan : MethodName := ⟨RX10, "isMan", "(I)Z"⟩
abbrev cX10_cellNow : ByteArray := prog_12_method_28_code
def yX10_cellNow : MethodName := ⟨RX10, "cellNow", "(I)I"⟩
abbrev cX10_man : ByteArray := prog_12_method_29_code
def yX10_man : MethodName := ⟨RX10, "man", "(II)I"⟩
abbrev cX10_on : ByteArray := prog_12_method_30_code
def yX10_on : MethodName := ⟨RX10, "on", "(I)I"⟩
abbrev cX10_state : ByteArray := prog_12_method_31_code
def yX10_state : MethodName := ⟨RX10, "state", "(I)I"⟩
abbrev cX10_fromAt : ByteArray := prog_12_method_32_code
def yX10_fromAt : MethodName := ⟨RX10, "fromAt", "(I)I"⟩
abbrev cX10_toAt : ByteArray := prog_12_method_33_code
def yX10_toAt : MethodName := ⟨RX10, "toAt", "(I)I"⟩
abbrev cX10_whyAt : ByteArray := prog_12_method_34_code
def yX10_whyAt : MethodName := ⟨RX10, "whyAt", "(I)I"⟩
abbrev cX10_goGame : ByteArray := prog_12_method_35_code
def yX10_goGame : MethodName := ⟨RX10, "goGame", "()Z"⟩
abbrev cX10_judge : ByteArray := prog_12_method_36_code
def yX10_judge : MethodName := ⟨RX10, "judge", "(I)I"⟩
abbrev cX10_play : ByteArray := prog_12_method_37_code
def yX10_play : MethodName := ⟨RX10, "play", "()I"⟩
abbrev cX10_moveNumber : ByteArray := prog_12_method_38_code
def yX10_moveNumber : MethodName := ⟨RX10, "moveNumber", "(JI)I"⟩
abbrev cX10_moves : ByteArray := prog_12_method_39_code
def yX10_moves : MethodName := ⟨RX10, "moves", "(I)I"⟩
abbrev cX10_reach : ByteArray := prog_12_method_40_code
def yX10_reach : MethodName := ⟨RX10, "reach", "(I)I"⟩
abbrev cX10_youth : ByteArray := prog_12_method_41_code
def yX10_youth : MethodName := ⟨RX10, "youth", "(II)I"⟩
abbrev cX10_placeOf : ByteArray := prog_12_method_42_code
def yX10_placeOf : MethodName := ⟨RX10, "placeOf", "(J)I"⟩
abbrev cX10_addStand : ByteArray := prog_12_method_43_code
def yX10_addStand : MethodName := ⟨RX10, "addStand", "(J)V"⟩
abbrev cX10_findStands : ByteArray := prog_12_method_44_code
def yX10_findStands : MethodName := ⟨RX10, "findStands", "(J)Z"⟩
abbrev cX10_stands : ByteArray := prog_12_method_45_code
def yX10_stands : MethodName := ⟨RX10, "stands", "()I"⟩
abbrev cX10_oldness : ByteArray := prog_12_method_46_code
def yX10_oldness : MethodName := ⟨RX10, "oldness", "(J)I"⟩
abbrev cX10_solveAll : ByteArray := prog_12_method_47_code
def yX10_solveAll : MethodName := ⟨RX10, "solveAll", "(J)Z"⟩
abbrev cX10_isBetter : ByteArray := prog_12_method_48_code
def yX10_isBetter : MethodName := ⟨RX10, "isBetter", "(IIII)Z"⟩
abbrev cX10_solveOne : ByteArray := prog_12_method_49_code
def yX10_solveOne : MethodName := ⟨RX10, "solveOne", "(I)V"⟩
abbrev cX10_solve : ByteArray := prog_12_method_50_code
def yX10_solve : MethodName := ⟨RX10, "solve", "(I)I"⟩
abbrev cX10_winsAtOnce : ByteArray := prog_12_method_51_code
def yX10_winsAtOnce : MethodName := ⟨RX10, "winsAtOnce", "(J)Z"⟩
abbrev cX10_isKey : ByteArray := prog_12_method_52_code
def yX10_isKey : MethodName := ⟨RX10, "isKey", "(JII)Z"⟩
abbrev cX10_keys : ByteArray := prog_12_method_53_code
def yX10_keys : MethodName := ⟨RX10, "keys", "(II)I"⟩
abbrev cX10_even : ByteArray := prog_12_method_54_code
def yX10_even : MethodName := ⟨RX10, "even", "(I)I"⟩
abbrev cX10_numberAt : ByteArray := prog_12_method_55_code
def yX10_numberAt : MethodName := ⟨RX10, "numberAt", "(I)I"⟩
abbrev cX10_book : ByteArray := prog_12_method_56_code
def yX10_book : MethodName := ⟨RX10, "book", "()I"⟩
abbrev cX10_booked : ByteArray := prog_12_method_57_code
def yX10_booked : MethodName := ⟨RX10, "booked", "(II)I"⟩
abbrev cX10_beginsSo : ByteArray := prog_12_method_58_code
def yX10_beginsSo : MethodName := ⟨RX10, "beginsSo", "(I)Z"⟩
abbrev cX10_goOnWith : ByteArray := prog_12_method_59_code
def yX10_goOnWith : MethodName := ⟨RX10, "goOnWith", "(I)I"⟩
abbrev cX10_next : ByteArray := prog_12_method_60_code
def yX10_next : MethodName := ⟨RX10, "next", "(I)I"⟩
abbrev cX10_drawn : ByteArray := prog_12_method_61_code
def yX10_drawn : MethodName := ⟨RX10, "drawn", "(II)I"⟩
abbrev cX10_mirrored : ByteArray := prog_12_method_62_code
def yX10_mirrored : MethodName := ⟨RX10, "mirrored", "(JI)J"⟩
abbrev cX10_mirror : ByteArray := prog_12_method_63_code
def yX10_mirror : MethodName := ⟨RX10, "mirror", "(I)I"⟩
abbrev cX10_like : ByteArray := prog_12_method_64_code
def yX10_like : MethodName := ⟨RX10, "like", "()I"⟩
abbrev cX10_pass : ByteArray := prog_12_method_65_code
def yX10_pass : MethodName := ⟨RX10, "pass", "(I)I"⟩
abbrev cX10_passAll : ByteArray := prog_12_method_66_code
def yX10_passAll : MethodName := ⟨RX10, "passAll", "(I)V"⟩
abbrev cX10_image : ByteArray := prog_12_method_67_code
def yX10_image : MethodName := ⟨RX10, "image", "(I)I"⟩
abbrev cX10_restore : ByteArray := prog_12_method_68_code
def yX10_restore : MethodName := ⟨RX10, "restore", "(I)I"⟩
abbrev cX10_told : ByteArray := prog_12_method_69_code
def yX10_told : MethodName := ⟨RX10, "told", "(I)I"⟩
def RJ6 : String := "java/lang/Integer"
def TJ6 : u_T := fun k => match k with
  | _ => ("", "", "", false)
def tyJ6 : Nat → FieldType := fun k => match k with
  | _ => .int
theorem nmJ6 : ∀ a, a < 0 → ∀ b, b < 0 → a ≠ b → (TJ6 a).2.1 ≠ (TJ6 b).2.1 := by decide +kernel
theorem tyJ6_ok : ∀ k, k < 0 → parseFieldDescriptor (TJ6 k).2.2.1 = some (tyJ6 k) := by decide +kernel
abbrev cJ6_bitCount_0f7a4 : ByteArray := prog_13_method_49_code
def yJ6_bitCount_0f7a4 : MethodName := ⟨RJ6, "bitCount", "(I)I"⟩
def RJ9 : String := "java/lang/Math"
def TJ9 : u_T := fun k => match k with
  | _ => ("", "", "", false)
def tyJ9 : Nat → FieldType := fun k => match k with
  | _ => .int
theorem nmJ9 : ∀ a, a < 0 → ∀ b, b < 0 → a ≠ b → (TJ9 a).2.1 ≠ (TJ9 b).2.1 := by decide +kernel
theorem tyJ9_ok : ∀ k, k < 0 → parseFieldDescriptor (TJ9 k).2.2.1 = some (tyJ9 k) := by decide +kernel
abbrev cJ9_max_7cf53 : ByteArray := prog_14_method_65_code
def yJ9_max_7cf53 : MethodName := ⟨RJ9, "max", "(II)I"⟩
def RJ10 : String := "java/lang/System"
def TJ10 : u_T := fun k => match k with
  | _ => ("", "", "", false)
def tyJ10 : Nat → FieldType := fun k => match k with
  | _ => .int
theorem nmJ10 : ∀ a, a < 0 → ∀ b, b < 0 → a ≠ b → (TJ10 a).2.1 ≠ (TJ10 b).2.1 := by decide +kernel
theorem tyJ10_ok : ∀ k, k < 0 → parseFieldDescriptor (TJ10 k).2.2.1 = some (tyJ10 k) := by decide +kernel
def RL : String := "AgingMenLaw"
abbrev cL_law : ByteArray := code
def yL_law : MethodName := ⟨RL, "law", "([I)Z"⟩
abbrev vwCl : List vw_C := [(RX0, TX0, 5), (RX1, TX1, 4), (RX2, TX2, 3), (RX3, TX3, 2), (RX4, TX4, 8), (RX5, TX5, 3), (RX7, TX7, 16), (RX9, TX9, 10), (RX10, TX10, 32)]
/-- the words that every method of ours is given: all of the tables' that keep -/
def UW : List Cond := lw_tbl.filter goodWord
theorem uw_mem {w : Cond} (h : w ∈ lw_tbl) (g : goodWord w = true) : w ∈ UW := List.mem_filter.mpr ⟨h, g⟩
theorem uw_good (c : Cond) : GoodIn (c :: UW) UW := fun w h => ⟨List.mem_cons_of_mem _ h, good_of_word (List.mem_filter.mp h).2⟩
theorem uw_code {c d : Cond} (h : d ∈ UW) : GoodIn (c :: UW) (d :: UW) := fun w hw => (List.mem_cons.mp hw).elim (fun e => e ▸ ⟨List.mem_cons_of_mem _ h, good_of_word (List.mem_filter.mp h).2⟩) (fun h2 => uw_good c w h2)

theorem mw_0 : Cond.selects RX3 yX3_signAt yX3_signAt ∈ UW := uw_mem (List.mem_of_getElem? (i := 0) (by decide +kernel)) (by decide +kernel)
theorem mw_1 : Cond.selects RX3 yX3_fitsBoard yX3_fitsBoard ∈ UW := uw_mem (List.mem_of_getElem? (i := 1) (by decide +kernel)) (by decide +kernel)
theorem mw_2 : Cond.selects RX3 yX3_cellAt yX3_cellAt ∈ UW := uw_mem (List.mem_of_getElem? (i := 2) (by decide +kernel)) (by decide +kernel)
theorem mw_3 : Cond.selects RX9 yX9_cellOrNone yX9_cellOrNone ∈ UW := uw_mem (List.mem_of_getElem? (i := 3) (by decide +kernel)) (by decide +kernel)
theorem mw_4 : Cond.selects RX9 yX9_gameIsGood yX9_gameIsGood ∈ UW := uw_mem (List.mem_of_getElem? (i := 4) (by decide +kernel)) (by decide +kernel)
theorem mw_5 : Cond.selects RX9 yX9_readySolver yX9_readySolver ∈ UW := uw_mem (List.mem_of_getElem? (i := 5) (by decide +kernel)) (by decide +kernel)
theorem mw_6 : Cond.selects RX7 yX7_slotOf yX7_slotOf ∈ UW := uw_mem (List.mem_of_getElem? (i := 6) (by decide +kernel)) (by decide +kernel)
theorem mw_7 : Cond.selects RX7 yX7_isFilled yX7_isFilled ∈ UW := uw_mem (List.mem_of_getElem? (i := 7) (by decide +kernel)) (by decide +kernel)
theorem mw_8 : Cond.selects RX7 yX7_open yX7_open ∈ UW := uw_mem (List.mem_of_getElem? (i := 8) (by decide +kernel)) (by decide +kernel)
theorem mw_9 : Cond.selects RX7 yX7_goOn yX7_goOn ∈ UW := uw_mem (List.mem_of_getElem? (i := 9) (by decide +kernel)) (by decide +kernel)
theorem mw_10 : Cond.selects RX7 yX7_close yX7_close ∈ UW := uw_mem (List.mem_of_getElem? (i := 10) (by decide +kernel)) (by decide +kernel)
theorem mw_11 : Cond.selects RX7 yX7_weigh yX7_weigh ∈ UW := uw_mem (List.mem_of_getElem? (i := 11) (by decide +kernel)) (by decide +kernel)
theorem mw_12 : Cond.selects RX4 yX4_winsAgainstAll yX4_winsAgainstAll ∈ UW := uw_mem (List.mem_of_getElem? (i := 12) (by decide +kernel)) (by decide +kernel)
theorem mw_13 : Cond.selects RX4 yX4_winsAtOnce yX4_winsAtOnce ∈ UW := uw_mem (List.mem_of_getElem? (i := 13) (by decide +kernel)) (by decide +kernel)
theorem mw_14 : Cond.selects RX0 yX0_has yX0_has ∈ UW := uw_mem (List.mem_of_getElem? (i := 14) (by decide +kernel)) (by decide +kernel)
theorem mw_15 : Cond.selects RX0 yX0_begins yX0_begins ∈ UW := uw_mem (List.mem_of_getElem? (i := 15) (by decide +kernel)) (by decide +kernel)
theorem mw_16 : Cond.selects RX9 yX9_imageNumbered yX9_imageNumbered ∈ UW := uw_mem (List.mem_of_getElem? (i := 16) (by decide +kernel)) (by decide +kernel)
theorem mw_17 : Cond.selects RX10 yX10_faultOfBoard yX10_faultOfBoard ∈ UW := uw_mem (List.mem_of_getElem? (i := 17) (by decide +kernel)) (by decide +kernel)
theorem mw_18 : Cond.selects RX10 yX10_faultOfGame yX10_faultOfGame ∈ UW := uw_mem (List.mem_of_getElem? (i := 18) (by decide +kernel)) (by decide +kernel)
theorem mw_19 : Cond.selects RX10 yX10_cellNow yX10_cellNow ∈ UW := uw_mem (List.mem_of_getElem? (i := 19) (by decide +kernel)) (by decide +kernel)
theorem mw_20 : Cond.selects RX10 yX10_kindOf yX10_kindOf ∈ UW := uw_mem (List.mem_of_getElem? (i := 20) (by decide +kernel)) (by decide +kernel)
theorem mw_21 : Cond.selects RX10 yX10_broughtBy yX10_broughtBy ∈ UW := uw_mem (List.mem_of_getElem? (i := 21) (by decide +kernel)) (by decide +kernel)
theorem mw_22 : Cond.selects RX10 yX10_sideMoves yX10_sideMoves ∈ UW := uw_mem (List.mem_of_getElem? (i := 22) (by decide +kernel)) (by decide +kernel)
theorem mw_23 : Cond.selects RX10 yX10_manMoves yX10_manMoves ∈ UW := uw_mem (List.mem_of_getElem? (i := 23) (by decide +kernel)) (by decide +kernel)
theorem mw_24 : Cond.selects RX10 yX10_canGo yX10_canGo ∈ UW := uw_mem (List.mem_of_getElem? (i := 24) (by decide +kernel)) (by decide +kernel)
theorem mw_25 : Cond.selects RX10 yX10_whyNot yX10_whyNot ∈ UW := uw_mem (List.mem_of_getElem? (i := 25) (by decide +kernel)) (by decide +kernel)
theorem mw_26 : Cond.selects RX10 yX10_goGame yX10_goGame ∈ UW := uw_mem (List.mem_of_getElem? (i := 26) (by decide +kernel)) (by decide +kernel)
theorem mw_27 : Cond.selects RX10 yX10_whyAt yX10_whyAt ∈ UW := uw_mem (List.mem_of_getElem? (i := 27) (by decide +kernel)) (by decide +kernel)
theorem mw_28 : Cond.selects RX10 yX10_fromAt yX10_fromAt ∈ UW := uw_mem (List.mem_of_getElem? (i := 28) (by decide +kernel)) (by decide +kernel)
theorem mw_29 : Cond.selects RX10 yX10_toAt yX10_toAt ∈ UW := uw_mem (List.mem_of_getElem? (i := 29) (by decide +kernel)) (by decide +kernel)
theorem mw_30 : Cond.selects RX10 yX10_findMoves yX10_findMoves ∈ UW := uw_mem (List.mem_of_getElem? (i := 30) (by decide +kernel)) (by decide +kernel)
theorem mw_31 : Cond.selects RX10 yX10_moveNumber yX10_moveNumber ∈ UW := uw_mem (List.mem_of_getElem? (i := 31) (by decide +kernel)) (by decide +kernel)
theorem mw_32 : Cond.selects RX10 yX10_findStands yX10_findStands ∈ UW := uw_mem (List.mem_of_getElem? (i := 32) (by decide +kernel)) (by decide +kernel)
theorem mw_33 : Cond.selects RX10 yX10_addStand yX10_addStand ∈ UW := uw_mem (List.mem_of_getElem? (i := 33) (by decide +kernel)) (by decide +kernel)
theorem mw_34 : Cond.selects RX10 yX10_placeOf yX10_placeOf ∈ UW := uw_mem (List.mem_of_getElem? (i := 34) (by decide +kernel)) (by decide +kernel)
theorem mw_35 : Cond.selects RX10 yX10_solveAll yX10_solveAll ∈ UW := uw_mem (List.mem_of_getElem? (i := 35) (by decide +kernel)) (by decide +kernel)
theorem mw_36 : Cond.selects RX10 yX10_solveOne yX10_solveOne ∈ UW := uw_mem (List.mem_of_getElem? (i := 36) (by decide +kernel)) (by decide +kernel)
theorem mw_37 : Cond.selects RX10 yX10_isKey yX10_isKey ∈ UW := uw_mem (List.mem_of_getElem? (i := 37) (by decide +kernel)) (by decide +kernel)
theorem mw_38 : Cond.selects RX10 yX10_winsAtOnce yX10_winsAtOnce ∈ UW := uw_mem (List.mem_of_getElem? (i := 38) (by decide +kernel)) (by decide +kernel)
theorem mw_39 : Cond.selects RX10 yX10_numberAt yX10_numberAt ∈ UW := uw_mem (List.mem_of_getElem? (i := 39) (by decide +kernel)) (by decide +kernel)
theorem mw_40 : Cond.selects RX10 yX10_beginsSo yX10_beginsSo ∈ UW := uw_mem (List.mem_of_getElem? (i := 40) (by decide +kernel)) (by decide +kernel)
theorem mw_41 : Cond.selects RX10 yX10_goOnWith yX10_goOnWith ∈ UW := uw_mem (List.mem_of_getElem? (i := 41) (by decide +kernel)) (by decide +kernel)
theorem mw_42 : Cond.selects RX10 yX10_passAll yX10_passAll ∈ UW := uw_mem (List.mem_of_getElem? (i := 42) (by decide +kernel)) (by decide +kernel)
theorem mw_43 : Cond.selects RX10 yX10_pass yX10_pass ∈ UW := uw_mem (List.mem_of_getElem? (i := 43) (by decide +kernel)) (by decide +kernel)
theorem mw_44 : Cond.initialized RL ∈ UW := uw_mem (List.mem_of_getElem? (i := 44) (by decide +kernel)) (by decide +kernel)
theorem mw_45 : Cond.initialized RX9 ∈ UW := uw_mem (List.mem_of_getElem? (i := 45) (by decide +kernel)) (by decide +kernel)
theorem mw_46 : Cond.initialized RX3 ∈ UW := uw_mem (List.mem_of_getElem? (i := 46) (by decide +kernel)) (by decide +kernel)
theorem mw_47 : Cond.initialized RX5 ∈ UW := uw_mem (List.mem_of_getElem? (i := 47) (by decide +kernel)) (by decide +kernel)
theorem mw_48 : Cond.initialized RX0 ∈ UW := uw_mem (List.mem_of_getElem? (i := 48) (by decide +kernel)) (by decide +kernel)
theorem mw_49 : Cond.initialized RX2 ∈ UW := uw_mem (List.mem_of_getElem? (i := 49) (by decide +kernel)) (by decide +kernel)
theorem mw_50 : Cond.initialized RX4 ∈ UW := uw_mem (List.mem_of_getElem? (i := 50) (by decide +kernel)) (by decide +kernel)
theorem mw_51 : Cond.initialized RX1 ∈ UW := uw_mem (List.mem_of_getElem? (i := 51) (by decide +kernel)) (by decide +kernel)
theorem mw_52 : Cond.initialized RX8 ∈ UW := uw_mem (List.mem_of_getElem? (i := 52) (by decide +kernel)) (by decide +kernel)
theorem mw_53 : Cond.initialized RX10 ∈ UW := uw_mem (List.mem_of_getElem? (i := 53) (by decide +kernel)) (by decide +kernel)
theorem mw_54 : Cond.initialized RJ6 ∈ UW := uw_mem (List.mem_of_getElem? (i := 54) (by decide +kernel)) (by decide +kernel)
theorem mw_55 : Cond.initialized RJ9 ∈ UW := uw_mem (List.mem_of_getElem? (i := 55) (by decide +kernel)) (by decide +kernel)
theorem mw_56 : Cond.initialized RX7 ∈ UW := uw_mem (List.mem_of_getElem? (i := 56) (by decide +kernel)) (by decide +kernel)
theorem mw_57 : Cond.initialized RX6 ∈ UW := uw_mem (List.mem_of_getElem? (i := 57) (by decide +kernel)) (by decide +kernel)
theorem mw_58 : Cond.initialized RJ10 ∈ UW := uw_mem (List.mem_of_getElem? (i := 58) (by decide +kernel)) (by decide +kernel)
theorem mw_59 : Cond.classLink RL 7 RX9 ∈ UW := uw_mem (List.mem_of_getElem? (i := 59) (by decide +kernel)) (by decide +kernel)
theorem mw_60 : Cond.instantiable RX9 10 ∈ UW := uw_mem (List.mem_of_getElem? (i := 60) (by decide +kernel)) (by decide +kernel)
theorem mw_61 : Cond.methodLink RL 9 yX9_init ∈ UW := uw_mem (List.mem_of_getElem? (i := 61) (by decide +kernel)) (by decide +kernel)
theorem mw_62 : Cond.instanceMethod yX9_init ∈ UW := uw_mem (List.mem_of_getElem? (i := 62) (by decide +kernel)) (by decide +kernel)
theorem mw_63 : Cond.code yX9_init cX9_init 1 none ∈ UW := uw_mem (List.mem_of_getElem? (i := 63) (by decide +kernel)) (by decide +kernel)
theorem mw_64 : Cond.methodLink RX9 3 objectInit ∈ UW := uw_mem (List.mem_of_getElem? (i := 64) (by decide +kernel)) (by decide +kernel)
theorem mw_65 : Cond.instanceMethod objectInit ∈ UW := uw_mem (List.mem_of_getElem? (i := 65) (by decide +kernel)) (by decide +kernel)
theorem mw_66 : Cond.code objectInit object_method_1_code 1 none ∈ UW := uw_mem (List.mem_of_getElem? (i := 66) (by decide +kernel)) (by decide +kernel)
theorem mw_67 : Cond.classLink RX9 9 RX3 ∈ UW := uw_mem (List.mem_of_getElem? (i := 67) (by decide +kernel)) (by decide +kernel)
theorem mw_68 : Cond.instantiable RX3 2 ∈ UW := uw_mem (List.mem_of_getElem? (i := 68) (by decide +kernel)) (by decide +kernel)
theorem mw_70 : Cond.instanceMethod yX3_init ∈ UW := uw_mem (List.mem_of_getElem? (i := 70) (by decide +kernel)) (by decide +kernel)
theorem mw_71 : Cond.code yX3_init cX3_init 1 none ∈ UW := uw_mem (List.mem_of_getElem? (i := 71) (by decide +kernel)) (by decide +kernel)
theorem mw_72 : Cond.methodLink RX3 3 objectInit ∈ UW := uw_mem (List.mem_of_getElem? (i := 72) (by decide +kernel)) (by decide +kernel)
theorem mw_73 : Cond.fieldLink RX3 9 "AgingMen$Pad" "signs" "[B" ∈ UW := uw_mem (List.mem_of_getElem? (i := 73) (by decide +kernel)) (by decide +kernel)
theorem mw_74 : Cond.fieldLink RX3 15 "AgingMen$Pad" "size" "I" ∈ UW := uw_mem (List.mem_of_getElem? (i := 74) (by decide +kernel)) (by decide +kernel)
theorem mw_81 : Cond.arrayClass .byte ∈ UW := uw_mem (List.mem_of_getElem? (i := 81) (by decide +kernel)) (by decide +kernel)
theorem mw_82 : Cond.classLink RX9 16 RX5 ∈ UW := uw_mem (List.mem_of_getElem? (i := 82) (by decide +kernel)) (by decide +kernel)
theorem mw_83 : Cond.instantiable RX5 3 ∈ UW := uw_mem (List.mem_of_getElem? (i := 83) (by decide +kernel)) (by decide +kernel)
theorem mw_85 : Cond.instanceMethod yX5_init ∈ UW := uw_mem (List.mem_of_getElem? (i := 85) (by decide +kernel)) (by decide +kernel)
theorem mw_86 : Cond.code yX5_init cX5_init 1 none ∈ UW := uw_mem (List.mem_of_getElem? (i := 86) (by decide +kernel)) (by decide +kernel)
theorem mw_87 : Cond.methodLink RX5 3 objectInit ∈ UW := uw_mem (List.mem_of_getElem? (i := 87) (by decide +kernel)) (by decide +kernel)
theorem mw_88 : Cond.fieldLink RX5 9 "AgingMen$Rules" "boys" "I" ∈ UW := uw_mem (List.mem_of_getElem? (i := 88) (by decide +kernel)) (by decide +kernel)
theorem mw_90 : Cond.fieldLink RX5 15 "AgingMen$Rules" "grown" "I" ∈ UW := uw_mem (List.mem_of_getElem? (i := 90) (by decide +kernel)) (by decide +kernel)
theorem mw_92 : Cond.fieldLink RX5 18 "AgingMen$Rules" "old" "I" ∈ UW := uw_mem (List.mem_of_getElem? (i := 92) (by decide +kernel)) (by decide +kernel)
theorem mw_101 : Cond.classLink RX9 23 RX0 ∈ UW := uw_mem (List.mem_of_getElem? (i := 101) (by decide +kernel)) (by decide +kernel)
theorem mw_102 : Cond.instantiable RX0 5 ∈ UW := uw_mem (List.mem_of_getElem? (i := 102) (by decide +kernel)) (by decide +kernel)
theorem mw_104 : Cond.instanceMethod yX0_init ∈ UW := uw_mem (List.mem_of_getElem? (i := 104) (by decide +kernel)) (by decide +kernel)
theorem mw_105 : Cond.code yX0_init cX0_init 1 none ∈ UW := uw_mem (List.mem_of_getElem? (i := 105) (by decide +kernel)) (by decide +kernel)
theorem mw_106 : Cond.methodLink RX0 3 objectInit ∈ UW := uw_mem (List.mem_of_getElem? (i := 106) (by decide +kernel)) (by decide +kernel)
theorem mw_107 : Cond.fieldLink RX0 9 "AgingMen$Book" "starts" "[J" ∈ UW := uw_mem (List.mem_of_getElem? (i := 107) (by decide +kernel)) (by decide +kernel)
theorem mw_108 : Cond.fieldLink RX0 15 "AgingMen$Book" "lengths" "[I" ∈ UW := uw_mem (List.mem_of_getElem? (i := 108) (by decide +kernel)) (by decide +kernel)
theorem mw_109 : Cond.fieldLink RX0 19 "AgingMen$Book" "results" "[I" ∈ UW := uw_mem (List.mem_of_getElem? (i := 109) (by decide +kernel)) (by decide +kernel)
theorem mw_110 : Cond.fieldLink RX0 22 "AgingMen$Book" "played" "[I" ∈ UW := uw_mem (List.mem_of_getElem? (i := 110) (by decide +kernel)) (by decide +kernel)
theorem mw_111 : Cond.fieldLink RX0 25 "AgingMen$Book" "count" "I" ∈ UW := uw_mem (List.mem_of_getElem? (i := 111) (by decide +kernel)) (by decide +kernel)
theorem mw_124 : Cond.arrayClass .long ∈ UW := uw_mem (List.mem_of_getElem? (i := 124) (by decide +kernel)) (by decide +kernel)
theorem mw_125 : Cond.arrayClass .int ∈ UW := uw_mem (List.mem_of_getElem? (i := 125) (by decide +kernel)) (by decide +kernel)
theorem mw_126 : Cond.classLink RX9 30 RX2 ∈ UW := uw_mem (List.mem_of_getElem? (i := 126) (by decide +kernel)) (by decide +kernel)
theorem mw_127 : Cond.instantiable RX2 3 ∈ UW := uw_mem (List.mem_of_getElem? (i := 127) (by decide +kernel)) (by decide +kernel)
theorem mw_129 : Cond.instanceMethod yX2_init ∈ UW := uw_mem (List.mem_of_getElem? (i := 129) (by decide +kernel)) (by decide +kernel)
theorem mw_130 : Cond.code yX2_init cX2_init 1 none ∈ UW := uw_mem (List.mem_of_getElem? (i := 130) (by decide +kernel)) (by decide +kernel)
theorem mw_131 : Cond.methodLink RX2 3 objectInit ∈ UW := uw_mem (List.mem_of_getElem? (i := 131) (by decide +kernel)) (by decide +kernel)
theorem mw_132 : Cond.fieldLink RX2 9 "AgingMen$Judge" "firstBad" "I" ∈ UW := uw_mem (List.mem_of_getElem? (i := 132) (by decide +kernel)) (by decide +kernel)
theorem mw_134 : Cond.fieldLink RX2 15 "AgingMen$Judge" "reason" "I" ∈ UW := uw_mem (List.mem_of_getElem? (i := 134) (by decide +kernel)) (by decide +kernel)
theorem mw_136 : Cond.fieldLink RX2 18 "AgingMen$Judge" "end" "J" ∈ UW := uw_mem (List.mem_of_getElem? (i := 136) (by decide +kernel)) (by decide +kernel)
theorem mw_145 : Cond.classLink RX9 37 RX4 ∈ UW := uw_mem (List.mem_of_getElem? (i := 145) (by decide +kernel)) (by decide +kernel)
theorem mw_146 : Cond.instantiable RX4 8 ∈ UW := uw_mem (List.mem_of_getElem? (i := 146) (by decide +kernel)) (by decide +kernel)
theorem mw_148 : Cond.instanceMethod yX4_init ∈ UW := uw_mem (List.mem_of_getElem? (i := 148) (by decide +kernel)) (by decide +kernel)
theorem mw_149 : Cond.code yX4_init cX4_init 1 none ∈ UW := uw_mem (List.mem_of_getElem? (i := 149) (by decide +kernel)) (by decide +kernel)
theorem mw_150 : Cond.methodLink RX4 3 objectInit ∈ UW := uw_mem (List.mem_of_getElem? (i := 150) (by decide +kernel)) (by decide +kernel)
theorem mw_151 : Cond.fieldLink RX4 9 "AgingMen$Problem" "firsts" "[I" ∈ UW := uw_mem (List.mem_of_getElem? (i := 151) (by decide +kernel)) (by decide +kernel)
theorem mw_152 : Cond.fieldLink RX4 15 "AgingMen$Problem" "replies" "[I" ∈ UW := uw_mem (List.mem_of_getElem? (i := 152) (by decide +kernel)) (by decide +kernel)
theorem mw_153 : Cond.fieldLink RX4 18 "AgingMen$Problem" "lasts" "[I" ∈ UW := uw_mem (List.mem_of_getElem? (i := 153) (by decide +kernel)) (by decide +kernel)
theorem mw_154 : Cond.fieldLink RX4 21 "AgingMen$Problem" "found" "[I" ∈ UW := uw_mem (List.mem_of_getElem? (i := 154) (by decide +kernel)) (by decide +kernel)
theorem mw_156 : Cond.fieldLink RX4 24 "AgingMen$Problem" "count" "I" ∈ UW := uw_mem (List.mem_of_getElem? (i := 156) (by decide +kernel)) (by decide +kernel)
theorem mw_158 : Cond.fieldLink RX4 28 "AgingMen$Problem" "foundStand" "J" ∈ UW := uw_mem (List.mem_of_getElem? (i := 158) (by decide +kernel)) (by decide +kernel)
theorem mw_159 : Cond.fieldLink RX4 32 "AgingMen$Problem" "foundLaw" "I" ∈ UW := uw_mem (List.mem_of_getElem? (i := 159) (by decide +kernel)) (by decide +kernel)
theorem mw_160 : Cond.fieldLink RX4 35 "AgingMen$Problem" "foundN" "I" ∈ UW := uw_mem (List.mem_of_getElem? (i := 160) (by decide +kernel)) (by decide +kernel)
theorem mw_178 : Cond.classLink RX9 44 RX1 ∈ UW := uw_mem (List.mem_of_getElem? (i := 178) (by decide +kernel)) (by decide +kernel)
theorem mw_179 : Cond.instantiable RX1 4 ∈ UW := uw_mem (List.mem_of_getElem? (i := 179) (by decide +kernel)) (by decide +kernel)
theorem mw_181 : Cond.instanceMethod yX1_init ∈ UW := uw_mem (List.mem_of_getElem? (i := 181) (by decide +kernel)) (by decide +kernel)
theorem mw_182 : Cond.code yX1_init cX1_init 1 none ∈ UW := uw_mem (List.mem_of_getElem? (i := 182) (by decide +kernel)) (by decide +kernel)
theorem mw_183 : Cond.methodLink RX1 1 objectInit ∈ UW := uw_mem (List.mem_of_getElem? (i := 183) (by decide +kernel)) (by decide +kernel)
theorem mw_184 : Cond.classLink RX1 7 RX0 ∈ UW := uw_mem (List.mem_of_getElem? (i := 184) (by decide +kernel)) (by decide +kernel)
theorem mw_186 : Cond.fieldLink RX1 10 "AgingMen$Image" "shelf" "LAgingMen$Book;" ∈ UW := uw_mem (List.mem_of_getElem? (i := 186) (by decide +kernel)) (by decide +kernel)
theorem mw_188 : Cond.fieldLink RX1 16 "AgingMen$Image" "kept" "Z" ∈ UW := uw_mem (List.mem_of_getElem? (i := 188) (by decide +kernel)) (by decide +kernel)
theorem mw_190 : Cond.fieldLink RX1 20 "AgingMen$Image" "stand" "J" ∈ UW := uw_mem (List.mem_of_getElem? (i := 190) (by decide +kernel)) (by decide +kernel)
theorem mw_192 : Cond.fieldLink RX1 24 "AgingMen$Image" "law" "I" ∈ UW := uw_mem (List.mem_of_getElem? (i := 192) (by decide +kernel)) (by decide +kernel)
theorem mw_203 : Cond.constantLong RX9 64 (1092850007424543) ∈ UW := uw_mem (List.mem_of_getElem? (i := 203) (by decide +kernel)) (by decide +kernel)
theorem mw_204 : Cond.methodLink RX9 66 yX8_put ∈ UW := uw_mem (List.mem_of_getElem? (i := 204) (by decide +kernel)) (by decide +kernel)
theorem mw_205 : Cond.static yX8_put ∈ UW := uw_mem (List.mem_of_getElem? (i := 205) (by decide +kernel)) (by decide +kernel)
theorem mw_206 : Cond.code yX8_put cX8_put 6 (some .long) ∈ UW := uw_mem (List.mem_of_getElem? (i := 206) (by decide +kernel)) (by decide +kernel)
theorem mw_207 : Cond.constantLong RX8 17 (511) ∈ UW := uw_mem (List.mem_of_getElem? (i := 207) (by decide +kernel)) (by decide +kernel)
theorem mw_208 : Cond.constantLong RX8 19 (-1) ∈ UW := uw_mem (List.mem_of_getElem? (i := 208) (by decide +kernel)) (by decide +kernel)
theorem mw_209 : Cond.fieldLink RX9 12 "AgingMen" "pad" "LAgingMen$Pad;" ∈ UW := uw_mem (List.mem_of_getElem? (i := 209) (by decide +kernel)) (by decide +kernel)
theorem mw_210 : Cond.fieldLink RX9 19 "AgingMen" "rules" "LAgingMen$Rules;" ∈ UW := uw_mem (List.mem_of_getElem? (i := 210) (by decide +kernel)) (by decide +kernel)
theorem mw_211 : Cond.fieldLink RX9 26 "AgingMen" "shelf" "LAgingMen$Book;" ∈ UW := uw_mem (List.mem_of_getElem? (i := 211) (by decide +kernel)) (by decide +kernel)
theorem mw_212 : Cond.fieldLink RX9 33 "AgingMen" "referee" "LAgingMen$Judge;" ∈ UW := uw_mem (List.mem_of_getElem? (i := 212) (by decide +kernel)) (by decide +kernel)
theorem mw_213 : Cond.fieldLink RX9 40 "AgingMen" "problem" "LAgingMen$Problem;" ∈ UW := uw_mem (List.mem_of_getElem? (i := 213) (by decide +kernel)) (by decide +kernel)
theorem mw_214 : Cond.fieldLink RX9 47 "AgingMen" "firstImage" "LAgingMen$Image;" ∈ UW := uw_mem (List.mem_of_getElem? (i := 214) (by decide +kernel)) (by decide +kernel)
theorem mw_215 : Cond.fieldLink RX9 51 "AgingMen" "secondImage" "LAgingMen$Image;" ∈ UW := uw_mem (List.mem_of_getElem? (i := 215) (by decide +kernel)) (by decide +kernel)
theorem mw_216 : Cond.fieldLink RX9 54 "AgingMen" "row" "[I" ∈ UW := uw_mem (List.mem_of_getElem? (i := 216) (by decide +kernel)) (by decide +kernel)
theorem mw_217 : Cond.fieldLink RX9 58 "AgingMen" "solver" "LAgingMen$Solver;" ∈ UW := uw_mem (List.mem_of_getElem? (i := 217) (by decide +kernel)) (by decide +kernel)
theorem mw_218 : Cond.fieldLink RX9 70 "AgingMen" "stand" "J" ∈ UW := uw_mem (List.mem_of_getElem? (i := 218) (by decide +kernel)) (by decide +kernel)
theorem mw_240 : Cond.methodLink RL 13 yX9_say ∈ UW := uw_mem (List.mem_of_getElem? (i := 240) (by decide +kernel)) (by decide +kernel)
theorem mw_241 : Cond.instanceMethod yX9_say ∈ UW := uw_mem (List.mem_of_getElem? (i := 241) (by decide +kernel)) (by decide +kernel)
theorem mw_242 : Cond.selects RX9 yX9_say yX9_say ∈ UW := uw_mem (List.mem_of_getElem? (i := 242) (by decide +kernel)) (by decide +kernel)
theorem mw_243 : Cond.code yX9_say cX9_say 2 (some .int) ∈ UW := uw_mem (List.mem_of_getElem? (i := 243) (by decide +kernel)) (by decide +kernel)
theorem mw_244 : Cond.methodLink RX9 74 yX3_add ∈ UW := uw_mem (List.mem_of_getElem? (i := 244) (by decide +kernel)) (by decide +kernel)
theorem mw_245 : Cond.instanceMethod yX3_add ∈ UW := uw_mem (List.mem_of_getElem? (i := 245) (by decide +kernel)) (by decide +kernel)
theorem mw_246 : Cond.selects RX3 yX3_add yX3_add ∈ UW := uw_mem (List.mem_of_getElem? (i := 246) (by decide +kernel)) (by decide +kernel)
theorem mw_247 : Cond.code yX3_add cX3_add 2 (some .boolean) ∈ UW := uw_mem (List.mem_of_getElem? (i := 247) (by decide +kernel)) (by decide +kernel)
theorem mw_248 : Cond.methodLink RL 18 yX9_wipe ∈ UW := uw_mem (List.mem_of_getElem? (i := 248) (by decide +kernel)) (by decide +kernel)
theorem mw_249 : Cond.instanceMethod yX9_wipe ∈ UW := uw_mem (List.mem_of_getElem? (i := 249) (by decide +kernel)) (by decide +kernel)
theorem mw_250 : Cond.selects RX9 yX9_wipe yX9_wipe ∈ UW := uw_mem (List.mem_of_getElem? (i := 250) (by decide +kernel)) (by decide +kernel)
theorem mw_251 : Cond.code yX9_wipe cX9_wipe 2 (some .int) ∈ UW := uw_mem (List.mem_of_getElem? (i := 251) (by decide +kernel)) (by decide +kernel)
theorem mw_252 : Cond.methodLink RX9 82 yX3_clear ∈ UW := uw_mem (List.mem_of_getElem? (i := 252) (by decide +kernel)) (by decide +kernel)
theorem mw_253 : Cond.instanceMethod yX3_clear ∈ UW := uw_mem (List.mem_of_getElem? (i := 253) (by decide +kernel)) (by decide +kernel)
theorem mw_254 : Cond.selects RX3 yX3_clear yX3_clear ∈ UW := uw_mem (List.mem_of_getElem? (i := 254) (by decide +kernel)) (by decide +kernel)
theorem mw_255 : Cond.code yX3_clear cX3_clear 1 none ∈ UW := uw_mem (List.mem_of_getElem? (i := 255) (by decide +kernel)) (by decide +kernel)
theorem mw_256 : Cond.methodLink RL 23 yX9_fault ∈ UW := uw_mem (List.mem_of_getElem? (i := 256) (by decide +kernel)) (by decide +kernel)
theorem mw_257 : Cond.instanceMethod yX9_fault ∈ UW := uw_mem (List.mem_of_getElem? (i := 257) (by decide +kernel)) (by decide +kernel)
theorem mw_258 : Cond.selects RX9 yX9_fault yX9_fault ∈ UW := uw_mem (List.mem_of_getElem? (i := 258) (by decide +kernel)) (by decide +kernel)
theorem mw_259 : Cond.code yX9_fault cX9_fault 2 (some .int) ∈ UW := uw_mem (List.mem_of_getElem? (i := 259) (by decide +kernel)) (by decide +kernel)
theorem mw_260 : Cond.methodLink RX9 85 yX3_boardFault ∈ UW := uw_mem (List.mem_of_getElem? (i := 260) (by decide +kernel)) (by decide +kernel)
theorem mw_261 : Cond.instanceMethod yX3_boardFault ∈ UW := uw_mem (List.mem_of_getElem? (i := 261) (by decide +kernel)) (by decide +kernel)
theorem mw_262 : Cond.selects RX3 yX3_boardFault yX3_boardFault ∈ UW := uw_mem (List.mem_of_getElem? (i := 262) (by decide +kernel)) (by decide +kernel)
theorem mw_263 : Cond.code yX3_boardFault cX3_boardFault 6 (some .int) ∈ UW := uw_mem (List.mem_of_getElem? (i := 263) (by decide +kernel)) (by decide +kernel)
theorem mw_264 : Cond.methodLink RX3 19 yX3_signAt ∈ UW := uw_mem (List.mem_of_getElem? (i := 264) (by decide +kernel)) (by decide +kernel)
theorem mw_266 : Cond.instanceMethod yX3_signAt ∈ UW := uw_mem (List.mem_of_getElem? (i := 266) (by decide +kernel)) (by decide +kernel)
theorem mw_267 : Cond.code yX3_signAt cX3_signAt 2 (some .int) ∈ UW := uw_mem (List.mem_of_getElem? (i := 267) (by decide +kernel)) (by decide +kernel)
theorem mw_268 : Cond.methodLink RX3 23 yX3_fitsBoard ∈ UW := uw_mem (List.mem_of_getElem? (i := 268) (by decide +kernel)) (by decide +kernel)
theorem mw_270 : Cond.instanceMethod yX3_fitsBoard ∈ UW := uw_mem (List.mem_of_getElem? (i := 270) (by decide +kernel)) (by decide +kernel)
theorem mw_271 : Cond.code yX3_fitsBoard cX3_fitsBoard 5 (some .boolean) ∈ UW := uw_mem (List.mem_of_getElem? (i := 271) (by decide +kernel)) (by decide +kernel)
theorem mw_272 : Cond.methodLink RX3 30 yX3_isColumn ∈ UW := uw_mem (List.mem_of_getElem? (i := 272) (by decide +kernel)) (by decide +kernel)
theorem mw_273 : Cond.static yX3_isColumn ∈ UW := uw_mem (List.mem_of_getElem? (i := 273) (by decide +kernel)) (by decide +kernel)
theorem mw_274 : Cond.code yX3_isColumn cX3_isColumn 1 (some .boolean) ∈ UW := uw_mem (List.mem_of_getElem? (i := 274) (by decide +kernel)) (by decide +kernel)
theorem mw_275 : Cond.methodLink RX3 34 yX3_isLine ∈ UW := uw_mem (List.mem_of_getElem? (i := 275) (by decide +kernel)) (by decide +kernel)
theorem mw_276 : Cond.static yX3_isLine ∈ UW := uw_mem (List.mem_of_getElem? (i := 276) (by decide +kernel)) (by decide +kernel)
theorem mw_277 : Cond.code yX3_isLine cX3_isLine 1 (some .boolean) ∈ UW := uw_mem (List.mem_of_getElem? (i := 277) (by decide +kernel)) (by decide +kernel)
theorem mw_278 : Cond.methodLink RX3 27 yX3_cellAt ∈ UW := uw_mem (List.mem_of_getElem? (i := 278) (by decide +kernel)) (by decide +kernel)
theorem mw_280 : Cond.instanceMethod yX3_cellAt ∈ UW := uw_mem (List.mem_of_getElem? (i := 280) (by decide +kernel)) (by decide +kernel)
theorem mw_281 : Cond.code yX3_cellAt cX3_cellAt 2 (some .int) ∈ UW := uw_mem (List.mem_of_getElem? (i := 281) (by decide +kernel)) (by decide +kernel)
theorem mw_282 : Cond.methodLink RX9 89 yX3_gameFault ∈ UW := uw_mem (List.mem_of_getElem? (i := 282) (by decide +kernel)) (by decide +kernel)
theorem mw_283 : Cond.instanceMethod yX3_gameFault ∈ UW := uw_mem (List.mem_of_getElem? (i := 283) (by decide +kernel)) (by decide +kernel)
theorem mw_284 : Cond.selects RX3 yX3_gameFault yX3_gameFault ∈ UW := uw_mem (List.mem_of_getElem? (i := 284) (by decide +kernel)) (by decide +kernel)
theorem mw_285 : Cond.code yX3_gameFault cX3_gameFault 4 (some .int) ∈ UW := uw_mem (List.mem_of_getElem? (i := 285) (by decide +kernel)) (by decide +kernel)
theorem mw_286 : Cond.methodLink RL 27 yX9_lay ∈ UW := uw_mem (List.mem_of_getElem? (i := 286) (by decide +kernel)) (by decide +kernel)
theorem mw_287 : Cond.instanceMethod yX9_lay ∈ UW := uw_mem (List.mem_of_getElem? (i := 287) (by decide +kernel)) (by decide +kernel)
theorem mw_288 : Cond.selects RX9 yX9_lay yX9_lay ∈ UW := uw_mem (List.mem_of_getElem? (i := 288) (by decide +kernel)) (by decide +kernel)
theorem mw_289 : Cond.code yX9_lay cX9_lay 1 (some .int) ∈ UW := uw_mem (List.mem_of_getElem? (i := 289) (by decide +kernel)) (by decide +kernel)
theorem mw_290 : Cond.methodLink RX9 92 yX3_boardTold ∈ UW := uw_mem (List.mem_of_getElem? (i := 290) (by decide +kernel)) (by decide +kernel)
theorem mw_291 : Cond.instanceMethod yX3_boardTold ∈ UW := uw_mem (List.mem_of_getElem? (i := 291) (by decide +kernel)) (by decide +kernel)
theorem mw_292 : Cond.selects RX3 yX3_boardTold yX3_boardTold ∈ UW := uw_mem (List.mem_of_getElem? (i := 292) (by decide +kernel)) (by decide +kernel)
theorem mw_293 : Cond.code yX3_boardTold cX3_boardTold 4 (some .long) ∈ UW := uw_mem (List.mem_of_getElem? (i := 293) (by decide +kernel)) (by decide +kernel)
theorem mw_294 : Cond.constantLong RX3 39 (1092850007424543) ∈ UW := uw_mem (List.mem_of_getElem? (i := 294) (by decide +kernel)) (by decide +kernel)
theorem mw_295 : Cond.methodLink RX3 41 yX8_put ∈ UW := uw_mem (List.mem_of_getElem? (i := 295) (by decide +kernel)) (by decide +kernel)
theorem mw_296 : Cond.methodLink RX3 45 yX8_withTurn ∈ UW := uw_mem (List.mem_of_getElem? (i := 296) (by decide +kernel)) (by decide +kernel)
theorem mw_297 : Cond.static yX8_withTurn ∈ UW := uw_mem (List.mem_of_getElem? (i := 297) (by decide +kernel)) (by decide +kernel)
theorem mw_298 : Cond.code yX8_withTurn cX8_withTurn 3 (some .long) ∈ UW := uw_mem (List.mem_of_getElem? (i := 298) (by decide +kernel)) (by decide +kernel)
theorem mw_299 : Cond.constantLong RX8 15 (-18014398509481985) ∈ UW := uw_mem (List.mem_of_getElem? (i := 299) (by decide +kernel)) (by decide +kernel)
theorem mw_300 : Cond.methodLink RX9 96 yX8_countMen ∈ UW := uw_mem (List.mem_of_getElem? (i := 300) (by decide +kernel)) (by decide +kernel)
theorem mw_301 : Cond.static yX8_countMen ∈ UW := uw_mem (List.mem_of_getElem? (i := 301) (by decide +kernel)) (by decide +kernel)
theorem mw_302 : Cond.code yX8_countMen cX8_countMen 2 (some .int) ∈ UW := uw_mem (List.mem_of_getElem? (i := 302) (by decide +kernel)) (by decide +kernel)
theorem mw_303 : Cond.methodLink RX8 21 yX8_cellsOf ∈ UW := uw_mem (List.mem_of_getElem? (i := 303) (by decide +kernel)) (by decide +kernel)
theorem mw_304 : Cond.static yX8_cellsOf ∈ UW := uw_mem (List.mem_of_getElem? (i := 304) (by decide +kernel)) (by decide +kernel)
theorem mw_305 : Cond.code yX8_cellsOf cX8_cellsOf 6 (some .int) ∈ UW := uw_mem (List.mem_of_getElem? (i := 305) (by decide +kernel)) (by decide +kernel)
theorem mw_306 : Cond.methodLink RX8 11 yX8_cellOf ∈ UW := uw_mem (List.mem_of_getElem? (i := 306) (by decide +kernel)) (by decide +kernel)
theorem mw_307 : Cond.static yX8_cellOf ∈ UW := uw_mem (List.mem_of_getElem? (i := 307) (by decide +kernel)) (by decide +kernel)
theorem mw_308 : Cond.code yX8_cellOf cX8_cellOf 3 (some .int) ∈ UW := uw_mem (List.mem_of_getElem? (i := 308) (by decide +kernel)) (by decide +kernel)
theorem mw_309 : Cond.methodLink RX8 24 yJ6_bitCount_0f7a4 ∈ UW := uw_mem (List.mem_of_getElem? (i := 309) (by decide +kernel)) (by decide +kernel)
theorem mw_310 : Cond.static yJ6_bitCount_0f7a4 ∈ UW := uw_mem (List.mem_of_getElem? (i := 310) (by decide +kernel)) (by decide +kernel)
theorem mw_311 : Cond.code yJ6_bitCount_0f7a4 cJ6_bitCount_0f7a4 1 (some .int) ∈ UW := uw_mem (List.mem_of_getElem? (i := 311) (by decide +kernel)) (by decide +kernel)
theorem mw_312 : Cond.constant RJ6 265 (1431655765) ∈ UW := uw_mem (List.mem_of_getElem? (i := 312) (by decide +kernel)) (by decide +kernel)
theorem mw_313 : Cond.constant RJ6 266 (858993459) ∈ UW := uw_mem (List.mem_of_getElem? (i := 313) (by decide +kernel)) (by decide +kernel)
theorem mw_314 : Cond.constant RJ6 267 (252645135) ∈ UW := uw_mem (List.mem_of_getElem? (i := 314) (by decide +kernel)) (by decide +kernel)
theorem mw_315 : Cond.methodLink RL 31 yX9_law ∈ UW := uw_mem (List.mem_of_getElem? (i := 315) (by decide +kernel)) (by decide +kernel)
theorem mw_316 : Cond.instanceMethod yX9_law ∈ UW := uw_mem (List.mem_of_getElem? (i := 316) (by decide +kernel)) (by decide +kernel)
theorem mw_317 : Cond.selects RX9 yX9_law yX9_law ∈ UW := uw_mem (List.mem_of_getElem? (i := 317) (by decide +kernel)) (by decide +kernel)
theorem mw_318 : Cond.code yX9_law cX9_law 5 (some .int) ∈ UW := uw_mem (List.mem_of_getElem? (i := 318) (by decide +kernel)) (by decide +kernel)
theorem mw_319 : Cond.methodLink RX9 100 yX5_code ∈ UW := uw_mem (List.mem_of_getElem? (i := 319) (by decide +kernel)) (by decide +kernel)
theorem mw_320 : Cond.instanceMethod yX5_code ∈ UW := uw_mem (List.mem_of_getElem? (i := 320) (by decide +kernel)) (by decide +kernel)
theorem mw_321 : Cond.selects RX5 yX5_code yX5_code ∈ UW := uw_mem (List.mem_of_getElem? (i := 321) (by decide +kernel)) (by decide +kernel)
theorem mw_322 : Cond.code yX5_code cX5_code 1 (some .int) ∈ UW := uw_mem (List.mem_of_getElem? (i := 322) (by decide +kernel)) (by decide +kernel)
theorem mw_323 : Cond.methodLink RX9 103 yX5_set ∈ UW := uw_mem (List.mem_of_getElem? (i := 323) (by decide +kernel)) (by decide +kernel)
theorem mw_324 : Cond.instanceMethod yX5_set ∈ UW := uw_mem (List.mem_of_getElem? (i := 324) (by decide +kernel)) (by decide +kernel)
theorem mw_325 : Cond.selects RX5 yX5_set yX5_set ∈ UW := uw_mem (List.mem_of_getElem? (i := 325) (by decide +kernel)) (by decide +kernel)
theorem mw_326 : Cond.code yX5_set cX5_set 4 none ∈ UW := uw_mem (List.mem_of_getElem? (i := 326) (by decide +kernel)) (by decide +kernel)
theorem mw_327 : Cond.methodLink RL 36 yX9_man ∈ UW := uw_mem (List.mem_of_getElem? (i := 327) (by decide +kernel)) (by decide +kernel)
theorem mw_328 : Cond.instanceMethod yX9_man ∈ UW := uw_mem (List.mem_of_getElem? (i := 328) (by decide +kernel)) (by decide +kernel)
theorem mw_329 : Cond.selects RX9 yX9_man yX9_man ∈ UW := uw_mem (List.mem_of_getElem? (i := 329) (by decide +kernel)) (by decide +kernel)
theorem mw_330 : Cond.code yX9_man cX9_man 3 (some .int) ∈ UW := uw_mem (List.mem_of_getElem? (i := 330) (by decide +kernel)) (by decide +kernel)
theorem mw_331 : Cond.methodLink RX9 107 yX9_cellOrNone ∈ UW := uw_mem (List.mem_of_getElem? (i := 331) (by decide +kernel)) (by decide +kernel)
theorem mw_333 : Cond.instanceMethod yX9_cellOrNone ∈ UW := uw_mem (List.mem_of_getElem? (i := 333) (by decide +kernel)) (by decide +kernel)
theorem mw_334 : Cond.code yX9_cellOrNone cX9_cellOrNone 2 (some .int) ∈ UW := uw_mem (List.mem_of_getElem? (i := 334) (by decide +kernel)) (by decide +kernel)
theorem mw_335 : Cond.methodLink RX9 118 yX8_isUp ∈ UW := uw_mem (List.mem_of_getElem? (i := 335) (by decide +kernel)) (by decide +kernel)
theorem mw_336 : Cond.static yX8_isUp ∈ UW := uw_mem (List.mem_of_getElem? (i := 336) (by decide +kernel)) (by decide +kernel)
theorem mw_337 : Cond.code yX8_isUp cX8_isUp 3 (some .boolean) ∈ UW := uw_mem (List.mem_of_getElem? (i := 337) (by decide +kernel)) (by decide +kernel)
theorem mw_338 : Cond.methodLink RX9 122 yX8_cellOf ∈ UW := uw_mem (List.mem_of_getElem? (i := 338) (by decide +kernel)) (by decide +kernel)
theorem mw_339 : Cond.methodLink RX9 111 yX8_ageOf ∈ UW := uw_mem (List.mem_of_getElem? (i := 339) (by decide +kernel)) (by decide +kernel)
theorem mw_340 : Cond.static yX8_ageOf ∈ UW := uw_mem (List.mem_of_getElem? (i := 340) (by decide +kernel)) (by decide +kernel)
theorem mw_341 : Cond.code yX8_ageOf cX8_ageOf 3 (some .int) ∈ UW := uw_mem (List.mem_of_getElem? (i := 341) (by decide +kernel)) (by decide +kernel)
theorem mw_342 : Cond.methodLink RX9 115 yX5_kindOf ∈ UW := uw_mem (List.mem_of_getElem? (i := 342) (by decide +kernel)) (by decide +kernel)
theorem mw_343 : Cond.instanceMethod yX5_kindOf ∈ UW := uw_mem (List.mem_of_getElem? (i := 343) (by decide +kernel)) (by decide +kernel)
theorem mw_344 : Cond.selects RX5 yX5_kindOf yX5_kindOf ∈ UW := uw_mem (List.mem_of_getElem? (i := 344) (by decide +kernel)) (by decide +kernel)
theorem mw_345 : Cond.code yX5_kindOf cX5_kindOf 2 (some .int) ∈ UW := uw_mem (List.mem_of_getElem? (i := 345) (by decide +kernel)) (by decide +kernel)
theorem mw_346 : Cond.methodLink RL 41 yX9_on ∈ UW := uw_mem (List.mem_of_getElem? (i := 346) (by decide +kernel)) (by decide +kernel)
theorem mw_347 : Cond.instanceMethod yX9_on ∈ UW := uw_mem (List.mem_of_getElem? (i := 347) (by decide +kernel)) (by decide +kernel)
theorem mw_348 : Cond.selects RX9 yX9_on yX9_on ∈ UW := uw_mem (List.mem_of_getElem? (i := 348) (by decide +kernel)) (by decide +kernel)
theorem mw_349 : Cond.code yX9_on cX9_on 2 (some .int) ∈ UW := uw_mem (List.mem_of_getElem? (i := 349) (by decide +kernel)) (by decide +kernel)
theorem mw_350 : Cond.methodLink RX9 125 yX8_manOn ∈ UW := uw_mem (List.mem_of_getElem? (i := 350) (by decide +kernel)) (by decide +kernel)
theorem mw_351 : Cond.static yX8_manOn ∈ UW := uw_mem (List.mem_of_getElem? (i := 351) (by decide +kernel)) (by decide +kernel)
theorem mw_352 : Cond.code yX8_manOn cX8_manOn 4 (some .int) ∈ UW := uw_mem (List.mem_of_getElem? (i := 352) (by decide +kernel)) (by decide +kernel)
theorem mw_353 : Cond.methodLink RL 45 yX9_state ∈ UW := uw_mem (List.mem_of_getElem? (i := 353) (by decide +kernel)) (by decide +kernel)
theorem mw_354 : Cond.instanceMethod yX9_state ∈ UW := uw_mem (List.mem_of_getElem? (i := 354) (by decide +kernel)) (by decide +kernel)
theorem mw_355 : Cond.selects RX9 yX9_state yX9_state ∈ UW := uw_mem (List.mem_of_getElem? (i := 355) (by decide +kernel)) (by decide +kernel)
theorem mw_356 : Cond.code yX9_state cX9_state 2 (some .int) ∈ UW := uw_mem (List.mem_of_getElem? (i := 356) (by decide +kernel)) (by decide +kernel)
theorem mw_357 : Cond.methodLink RX9 128 yX8_turnOf ∈ UW := uw_mem (List.mem_of_getElem? (i := 357) (by decide +kernel)) (by decide +kernel)
theorem mw_358 : Cond.static yX8_turnOf ∈ UW := uw_mem (List.mem_of_getElem? (i := 358) (by decide +kernel)) (by decide +kernel)
theorem mw_359 : Cond.code yX8_turnOf cX8_turnOf 2 (some .int) ∈ UW := uw_mem (List.mem_of_getElem? (i := 359) (by decide +kernel)) (by decide +kernel)
theorem mw_360 : Cond.methodLink RX9 131 yX5_ending ∈ UW := uw_mem (List.mem_of_getElem? (i := 360) (by decide +kernel)) (by decide +kernel)
theorem mw_361 : Cond.instanceMethod yX5_ending ∈ UW := uw_mem (List.mem_of_getElem? (i := 361) (by decide +kernel)) (by decide +kernel)
theorem mw_362 : Cond.selects RX5 yX5_ending yX5_ending ∈ UW := uw_mem (List.mem_of_getElem? (i := 362) (by decide +kernel)) (by decide +kernel)
theorem mw_363 : Cond.code yX5_ending cX5_ending 4 (some .int) ∈ UW := uw_mem (List.mem_of_getElem? (i := 363) (by decide +kernel)) (by decide +kernel)
theorem mw_364 : Cond.methodLink RX5 52 yX8_isUp ∈ UW := uw_mem (List.mem_of_getElem? (i := 364) (by decide +kernel)) (by decide +kernel)
theorem mw_365 : Cond.methodLink RX5 61 yX5_wonBy ∈ UW := uw_mem (List.mem_of_getElem? (i := 365) (by decide +kernel)) (by decide +kernel)
theorem mw_366 : Cond.static yX5_wonBy ∈ UW := uw_mem (List.mem_of_getElem? (i := 366) (by decide +kernel)) (by decide +kernel)
theorem mw_367 : Cond.code yX5_wonBy cX5_wonBy 1 (some .int) ∈ UW := uw_mem (List.mem_of_getElem? (i := 367) (by decide +kernel)) (by decide +kernel)
theorem mw_368 : Cond.methodLink RX5 64 yX8_turnOf ∈ UW := uw_mem (List.mem_of_getElem? (i := 368) (by decide +kernel)) (by decide +kernel)
theorem mw_369 : Cond.methodLink RX5 68 yX5_reachOfSide ∈ UW := uw_mem (List.mem_of_getElem? (i := 369) (by decide +kernel)) (by decide +kernel)
theorem mw_370 : Cond.instanceMethod yX5_reachOfSide ∈ UW := uw_mem (List.mem_of_getElem? (i := 370) (by decide +kernel)) (by decide +kernel)
theorem mw_371 : Cond.selects RX5 yX5_reachOfSide yX5_reachOfSide ∈ UW := uw_mem (List.mem_of_getElem? (i := 371) (by decide +kernel)) (by decide +kernel)
theorem mw_372 : Cond.code yX5_reachOfSide cX5_reachOfSide 8 (some .int) ∈ UW := uw_mem (List.mem_of_getElem? (i := 372) (by decide +kernel)) (by decide +kernel)
theorem mw_373 : Cond.methodLink RX5 36 yX8_cellsOf ∈ UW := uw_mem (List.mem_of_getElem? (i := 373) (by decide +kernel)) (by decide +kernel)
theorem mw_374 : Cond.methodLink RX5 42 yX8_cellOf ∈ UW := uw_mem (List.mem_of_getElem? (i := 374) (by decide +kernel)) (by decide +kernel)
theorem mw_375 : Cond.methodLink RX5 45 yX8_ageOf ∈ UW := uw_mem (List.mem_of_getElem? (i := 375) (by decide +kernel)) (by decide +kernel)
theorem mw_376 : Cond.methodLink RX5 48 yX5_targets ∈ UW := uw_mem (List.mem_of_getElem? (i := 376) (by decide +kernel)) (by decide +kernel)
theorem mw_377 : Cond.instanceMethod yX5_targets ∈ UW := uw_mem (List.mem_of_getElem? (i := 377) (by decide +kernel)) (by decide +kernel)
theorem mw_378 : Cond.selects RX5 yX5_targets yX5_targets ∈ UW := uw_mem (List.mem_of_getElem? (i := 378) (by decide +kernel)) (by decide +kernel)
theorem mw_379 : Cond.code yX5_targets cX5_targets 5 (some .int) ∈ UW := uw_mem (List.mem_of_getElem? (i := 379) (by decide +kernel)) (by decide +kernel)
theorem mw_380 : Cond.methodLink RX5 21 yX5_kindOf ∈ UW := uw_mem (List.mem_of_getElem? (i := 380) (by decide +kernel)) (by decide +kernel)
theorem mw_381 : Cond.fieldLink RX5 25 "AgingMen$Rules" "JUMPS" "[I" ∈ UW := uw_mem (List.mem_of_getElem? (i := 381) (by decide +kernel)) (by decide +kernel)
theorem mw_383 : Cond.methodLink RX5 29 yX5_straight ∈ UW := uw_mem (List.mem_of_getElem? (i := 383) (by decide +kernel)) (by decide +kernel)
theorem mw_384 : Cond.static yX5_straight ∈ UW := uw_mem (List.mem_of_getElem? (i := 384) (by decide +kernel)) (by decide +kernel)
theorem mw_385 : Cond.code yX5_straight cX5_straight 12 (some .int) ∈ UW := uw_mem (List.mem_of_getElem? (i := 385) (by decide +kernel)) (by decide +kernel)
theorem mw_386 : Cond.fieldLink RX5 33 "AgingMen$Rules" "STEPS" "[I" ∈ UW := uw_mem (List.mem_of_getElem? (i := 386) (by decide +kernel)) (by decide +kernel)
theorem mw_388 : Cond.methodLink RL 49 yX9_judge ∈ UW := uw_mem (List.mem_of_getElem? (i := 388) (by decide +kernel)) (by decide +kernel)
theorem mw_389 : Cond.instanceMethod yX9_judge ∈ UW := uw_mem (List.mem_of_getElem? (i := 389) (by decide +kernel)) (by decide +kernel)
theorem mw_390 : Cond.selects RX9 yX9_judge yX9_judge ∈ UW := uw_mem (List.mem_of_getElem? (i := 390) (by decide +kernel)) (by decide +kernel)
theorem mw_391 : Cond.code yX9_judge cX9_judge 2 (some .int) ∈ UW := uw_mem (List.mem_of_getElem? (i := 391) (by decide +kernel)) (by decide +kernel)
theorem mw_392 : Cond.methodLink RX9 134 yX2_passes ∈ UW := uw_mem (List.mem_of_getElem? (i := 392) (by decide +kernel)) (by decide +kernel)
theorem mw_393 : Cond.instanceMethod yX2_passes ∈ UW := uw_mem (List.mem_of_getElem? (i := 393) (by decide +kernel)) (by decide +kernel)
theorem mw_394 : Cond.selects RX2 yX2_passes yX2_passes ∈ UW := uw_mem (List.mem_of_getElem? (i := 394) (by decide +kernel)) (by decide +kernel)
theorem mw_395 : Cond.code yX2_passes cX2_passes 7 (some .boolean) ∈ UW := uw_mem (List.mem_of_getElem? (i := 395) (by decide +kernel)) (by decide +kernel)
theorem mw_396 : Cond.methodLink RX2 22 yX3_countMoves ∈ UW := uw_mem (List.mem_of_getElem? (i := 396) (by decide +kernel)) (by decide +kernel)
theorem mw_397 : Cond.instanceMethod yX3_countMoves ∈ UW := uw_mem (List.mem_of_getElem? (i := 397) (by decide +kernel)) (by decide +kernel)
theorem mw_398 : Cond.selects RX3 yX3_countMoves yX3_countMoves ∈ UW := uw_mem (List.mem_of_getElem? (i := 398) (by decide +kernel)) (by decide +kernel)
theorem mw_399 : Cond.code yX3_countMoves cX3_countMoves 1 (some .int) ∈ UW := uw_mem (List.mem_of_getElem? (i := 399) (by decide +kernel)) (by decide +kernel)
theorem mw_400 : Cond.methodLink RX2 28 yX3_fromAt ∈ UW := uw_mem (List.mem_of_getElem? (i := 400) (by decide +kernel)) (by decide +kernel)
theorem mw_401 : Cond.instanceMethod yX3_fromAt ∈ UW := uw_mem (List.mem_of_getElem? (i := 401) (by decide +kernel)) (by decide +kernel)
theorem mw_402 : Cond.selects RX3 yX3_fromAt yX3_fromAt ∈ UW := uw_mem (List.mem_of_getElem? (i := 402) (by decide +kernel)) (by decide +kernel)
theorem mw_403 : Cond.code yX3_fromAt cX3_fromAt 2 (some .int) ∈ UW := uw_mem (List.mem_of_getElem? (i := 403) (by decide +kernel)) (by decide +kernel)
theorem mw_404 : Cond.methodLink RX2 32 yX3_toAt ∈ UW := uw_mem (List.mem_of_getElem? (i := 404) (by decide +kernel)) (by decide +kernel)
theorem mw_405 : Cond.instanceMethod yX3_toAt ∈ UW := uw_mem (List.mem_of_getElem? (i := 405) (by decide +kernel)) (by decide +kernel)
theorem mw_406 : Cond.selects RX3 yX3_toAt yX3_toAt ∈ UW := uw_mem (List.mem_of_getElem? (i := 406) (by decide +kernel)) (by decide +kernel)
theorem mw_407 : Cond.code yX3_toAt cX3_toAt 2 (some .int) ∈ UW := uw_mem (List.mem_of_getElem? (i := 407) (by decide +kernel)) (by decide +kernel)
theorem mw_408 : Cond.methodLink RX2 35 yX2_whyNot ∈ UW := uw_mem (List.mem_of_getElem? (i := 408) (by decide +kernel)) (by decide +kernel)
theorem mw_409 : Cond.static yX2_whyNot ∈ UW := uw_mem (List.mem_of_getElem? (i := 409) (by decide +kernel)) (by decide +kernel)
theorem mw_410 : Cond.code yX2_whyNot cX2_whyNot 10 (some .int) ∈ UW := uw_mem (List.mem_of_getElem? (i := 410) (by decide +kernel)) (by decide +kernel)
theorem mw_411 : Cond.methodLink RX2 49 yX5_ending ∈ UW := uw_mem (List.mem_of_getElem? (i := 411) (by decide +kernel)) (by decide +kernel)
theorem mw_412 : Cond.methodLink RX2 39 yX8_manOn ∈ UW := uw_mem (List.mem_of_getElem? (i := 412) (by decide +kernel)) (by decide +kernel)
theorem mw_413 : Cond.methodLink RX2 55 yX8_turnOf ∈ UW := uw_mem (List.mem_of_getElem? (i := 413) (by decide +kernel)) (by decide +kernel)
theorem mw_414 : Cond.methodLink RX2 58 yX8_ageOf ∈ UW := uw_mem (List.mem_of_getElem? (i := 414) (by decide +kernel)) (by decide +kernel)
theorem mw_415 : Cond.methodLink RX2 61 yX5_kindOf ∈ UW := uw_mem (List.mem_of_getElem? (i := 415) (by decide +kernel)) (by decide +kernel)
theorem mw_416 : Cond.methodLink RX2 64 yX5_targets ∈ UW := uw_mem (List.mem_of_getElem? (i := 416) (by decide +kernel)) (by decide +kernel)
theorem mw_417 : Cond.methodLink RX2 68 yX8_cellsOf ∈ UW := uw_mem (List.mem_of_getElem? (i := 417) (by decide +kernel)) (by decide +kernel)
theorem mw_418 : Cond.methodLink RX2 45 yX8_after ∈ UW := uw_mem (List.mem_of_getElem? (i := 418) (by decide +kernel)) (by decide +kernel)
theorem mw_419 : Cond.static yX8_after ∈ UW := uw_mem (List.mem_of_getElem? (i := 419) (by decide +kernel)) (by decide +kernel)
theorem mw_420 : Cond.code yX8_after cX8_after 10 (some .long) ∈ UW := uw_mem (List.mem_of_getElem? (i := 420) (by decide +kernel)) (by decide +kernel)
theorem mw_421 : Cond.methodLink RX8 30 yX8_ageOf ∈ UW := uw_mem (List.mem_of_getElem? (i := 421) (by decide +kernel)) (by decide +kernel)
theorem mw_422 : Cond.methodLink RX8 33 yX8_put ∈ UW := uw_mem (List.mem_of_getElem? (i := 422) (by decide +kernel)) (by decide +kernel)
theorem mw_423 : Cond.constantLong RX8 37 (18014398509481984) ∈ UW := uw_mem (List.mem_of_getElem? (i := 423) (by decide +kernel)) (by decide +kernel)
theorem mw_424 : Cond.methodLink RL 53 yX9_play ∈ UW := uw_mem (List.mem_of_getElem? (i := 424) (by decide +kernel)) (by decide +kernel)
theorem mw_425 : Cond.instanceMethod yX9_play ∈ UW := uw_mem (List.mem_of_getElem? (i := 425) (by decide +kernel)) (by decide +kernel)
theorem mw_426 : Cond.selects RX9 yX9_play yX9_play ∈ UW := uw_mem (List.mem_of_getElem? (i := 426) (by decide +kernel)) (by decide +kernel)
theorem mw_427 : Cond.code yX9_play cX9_play 2 (some .int) ∈ UW := uw_mem (List.mem_of_getElem? (i := 427) (by decide +kernel)) (by decide +kernel)
theorem mw_428 : Cond.methodLink RX9 144 yX9_gameIsGood ∈ UW := uw_mem (List.mem_of_getElem? (i := 428) (by decide +kernel)) (by decide +kernel)
theorem mw_430 : Cond.instanceMethod yX9_gameIsGood ∈ UW := uw_mem (List.mem_of_getElem? (i := 430) (by decide +kernel)) (by decide +kernel)
theorem mw_431 : Cond.code yX9_gameIsGood cX9_gameIsGood 1 (some .boolean) ∈ UW := uw_mem (List.mem_of_getElem? (i := 431) (by decide +kernel)) (by decide +kernel)
theorem mw_432 : Cond.methodLink RX9 148 yX3_countMoves ∈ UW := uw_mem (List.mem_of_getElem? (i := 432) (by decide +kernel)) (by decide +kernel)
theorem mw_433 : Cond.methodLink RL 57 yX9_moves ∈ UW := uw_mem (List.mem_of_getElem? (i := 433) (by decide +kernel)) (by decide +kernel)
theorem mw_434 : Cond.instanceMethod yX9_moves ∈ UW := uw_mem (List.mem_of_getElem? (i := 434) (by decide +kernel)) (by decide +kernel)
theorem mw_435 : Cond.selects RX9 yX9_moves yX9_moves ∈ UW := uw_mem (List.mem_of_getElem? (i := 435) (by decide +kernel)) (by decide +kernel)
theorem mw_436 : Cond.code yX9_moves cX9_moves 3 (some .int) ∈ UW := uw_mem (List.mem_of_getElem? (i := 436) (by decide +kernel)) (by decide +kernel)
theorem mw_437 : Cond.methodLink RX9 154 yX5_list ∈ UW := uw_mem (List.mem_of_getElem? (i := 437) (by decide +kernel)) (by decide +kernel)
theorem mw_438 : Cond.instanceMethod yX5_list ∈ UW := uw_mem (List.mem_of_getElem? (i := 438) (by decide +kernel)) (by decide +kernel)
theorem mw_439 : Cond.selects RX5 yX5_list yX5_list ∈ UW := uw_mem (List.mem_of_getElem? (i := 439) (by decide +kernel)) (by decide +kernel)
theorem mw_440 : Cond.code yX5_list cX5_list 13 (some .int) ∈ UW := uw_mem (List.mem_of_getElem? (i := 440) (by decide +kernel)) (by decide +kernel)
theorem mw_441 : Cond.methodLink RX5 71 yJ6_bitCount_0f7a4 ∈ UW := uw_mem (List.mem_of_getElem? (i := 441) (by decide +kernel)) (by decide +kernel)
theorem mw_442 : Cond.methodLink RX9 158 yX8_asTold ∈ UW := uw_mem (List.mem_of_getElem? (i := 442) (by decide +kernel)) (by decide +kernel)
theorem mw_443 : Cond.static yX8_asTold ∈ UW := uw_mem (List.mem_of_getElem? (i := 443) (by decide +kernel)) (by decide +kernel)
theorem mw_444 : Cond.code yX8_asTold cX8_asTold 3 (some .int) ∈ UW := uw_mem (List.mem_of_getElem? (i := 444) (by decide +kernel)) (by decide +kernel)
theorem mw_445 : Cond.methodLink RL 61 yX9_reach ∈ UW := uw_mem (List.mem_of_getElem? (i := 445) (by decide +kernel)) (by decide +kernel)
theorem mw_446 : Cond.instanceMethod yX9_reach ∈ UW := uw_mem (List.mem_of_getElem? (i := 446) (by decide +kernel)) (by decide +kernel)
theorem mw_447 : Cond.selects RX9 yX9_reach yX9_reach ∈ UW := uw_mem (List.mem_of_getElem? (i := 447) (by decide +kernel)) (by decide +kernel)
theorem mw_448 : Cond.code yX9_reach cX9_reach 2 (some .int) ∈ UW := uw_mem (List.mem_of_getElem? (i := 448) (by decide +kernel)) (by decide +kernel)
theorem mw_449 : Cond.methodLink RX9 161 yX5_reachOfSide ∈ UW := uw_mem (List.mem_of_getElem? (i := 449) (by decide +kernel)) (by decide +kernel)
theorem mw_450 : Cond.methodLink RL 65 yX9_youth ∈ UW := uw_mem (List.mem_of_getElem? (i := 450) (by decide +kernel)) (by decide +kernel)
theorem mw_451 : Cond.instanceMethod yX9_youth ∈ UW := uw_mem (List.mem_of_getElem? (i := 451) (by decide +kernel)) (by decide +kernel)
theorem mw_452 : Cond.selects RX9 yX9_youth yX9_youth ∈ UW := uw_mem (List.mem_of_getElem? (i := 452) (by decide +kernel)) (by decide +kernel)
theorem mw_453 : Cond.code yX9_youth cX9_youth 3 (some .int) ∈ UW := uw_mem (List.mem_of_getElem? (i := 453) (by decide +kernel)) (by decide +kernel)
theorem mw_454 : Cond.methodLink RX9 164 yX5_youthOf ∈ UW := uw_mem (List.mem_of_getElem? (i := 454) (by decide +kernel)) (by decide +kernel)
theorem mw_455 : Cond.instanceMethod yX5_youthOf ∈ UW := uw_mem (List.mem_of_getElem? (i := 455) (by decide +kernel)) (by decide +kernel)
theorem mw_456 : Cond.selects RX5 yX5_youthOf yX5_youthOf ∈ UW := uw_mem (List.mem_of_getElem? (i := 456) (by decide +kernel)) (by decide +kernel)
theorem mw_457 : Cond.code yX5_youthOf cX5_youthOf 6 (some .int) ∈ UW := uw_mem (List.mem_of_getElem? (i := 457) (by decide +kernel)) (by decide +kernel)
theorem mw_458 : Cond.methodLink RX5 56 yJ9_max_7cf53 ∈ UW := uw_mem (List.mem_of_getElem? (i := 458) (by decide +kernel)) (by decide +kernel)
theorem mw_459 : Cond.static yJ9_max_7cf53 ∈ UW := uw_mem (List.mem_of_getElem? (i := 459) (by decide +kernel)) (by decide +kernel)
theorem mw_460 : Cond.code yJ9_max_7cf53 cJ9_max_7cf53 2 (some .int) ∈ UW := uw_mem (List.mem_of_getElem? (i := 460) (by decide +kernel)) (by decide +kernel)
theorem mw_461 : Cond.methodLink RX9 167 yX5_countBlocked ∈ UW := uw_mem (List.mem_of_getElem? (i := 461) (by decide +kernel)) (by decide +kernel)
theorem mw_462 : Cond.instanceMethod yX5_countBlocked ∈ UW := uw_mem (List.mem_of_getElem? (i := 462) (by decide +kernel)) (by decide +kernel)
theorem mw_463 : Cond.selects RX5 yX5_countBlocked yX5_countBlocked ∈ UW := uw_mem (List.mem_of_getElem? (i := 463) (by decide +kernel)) (by decide +kernel)
theorem mw_464 : Cond.code yX5_countBlocked cX5_countBlocked 8 (some .int) ∈ UW := uw_mem (List.mem_of_getElem? (i := 464) (by decide +kernel)) (by decide +kernel)
theorem mw_465 : Cond.methodLink RL 69 yX9_stands ∈ UW := uw_mem (List.mem_of_getElem? (i := 465) (by decide +kernel)) (by decide +kernel)
theorem mw_466 : Cond.instanceMethod yX9_stands ∈ UW := uw_mem (List.mem_of_getElem? (i := 466) (by decide +kernel)) (by decide +kernel)
theorem mw_467 : Cond.selects RX9 yX9_stands yX9_stands ∈ UW := uw_mem (List.mem_of_getElem? (i := 467) (by decide +kernel)) (by decide +kernel)
theorem mw_468 : Cond.code yX9_stands cX9_stands 2 (some .int) ∈ UW := uw_mem (List.mem_of_getElem? (i := 468) (by decide +kernel)) (by decide +kernel)
theorem mw_469 : Cond.methodLink RX9 170 yX9_readySolver ∈ UW := uw_mem (List.mem_of_getElem? (i := 469) (by decide +kernel)) (by decide +kernel)
theorem mw_471 : Cond.instanceMethod yX9_readySolver ∈ UW := uw_mem (List.mem_of_getElem? (i := 471) (by decide +kernel)) (by decide +kernel)
theorem mw_472 : Cond.code yX9_readySolver cX9_readySolver 1 (some (.object "AgingMen$Solver")) ∈ UW := uw_mem (List.mem_of_getElem? (i := 472) (by decide +kernel)) (by decide +kernel)
theorem mw_473 : Cond.classLink RX9 175 RX7 ∈ UW := uw_mem (List.mem_of_getElem? (i := 473) (by decide +kernel)) (by decide +kernel)
theorem mw_474 : Cond.instantiable RX7 16 ∈ UW := uw_mem (List.mem_of_getElem? (i := 474) (by decide +kernel)) (by decide +kernel)
theorem mw_476 : Cond.instanceMethod yX7_init ∈ UW := uw_mem (List.mem_of_getElem? (i := 476) (by decide +kernel)) (by decide +kernel)
theorem mw_477 : Cond.code yX7_init cX7_init 1 none ∈ UW := uw_mem (List.mem_of_getElem? (i := 477) (by decide +kernel)) (by decide +kernel)
theorem mw_478 : Cond.methodLink RX7 3 objectInit ∈ UW := uw_mem (List.mem_of_getElem? (i := 478) (by decide +kernel)) (by decide +kernel)
theorem mw_479 : Cond.constant RX7 11 (32768) ∈ UW := uw_mem (List.mem_of_getElem? (i := 479) (by decide +kernel)) (by decide +kernel)
theorem mw_480 : Cond.fieldLink RX7 12 "AgingMen$Solver" "filled" "[J" ∈ UW := uw_mem (List.mem_of_getElem? (i := 480) (by decide +kernel)) (by decide +kernel)
theorem mw_481 : Cond.fieldLink RX7 16 "AgingMen$Solver" "marks" "[I" ∈ UW := uw_mem (List.mem_of_getElem? (i := 481) (by decide +kernel)) (by decide +kernel)
theorem mw_482 : Cond.fieldLink RX7 20 "AgingMen$Solver" "round" "I" ∈ UW := uw_mem (List.mem_of_getElem? (i := 482) (by decide +kernel)) (by decide +kernel)
theorem mw_483 : Cond.fieldLink RX7 24 "AgingMen$Solver" "path" "[J" ∈ UW := uw_mem (List.mem_of_getElem? (i := 483) (by decide +kernel)) (by decide +kernel)
theorem mw_484 : Cond.fieldLink RX7 27 "AgingMen$Solver" "slots" "[I" ∈ UW := uw_mem (List.mem_of_getElem? (i := 484) (by decide +kernel)) (by decide +kernel)
theorem mw_485 : Cond.fieldLink RX7 30 "AgingMen$Solver" "listed" "[I" ∈ UW := uw_mem (List.mem_of_getElem? (i := 485) (by decide +kernel)) (by decide +kernel)
theorem mw_486 : Cond.fieldLink RX7 33 "AgingMen$Solver" "tried" "[I" ∈ UW := uw_mem (List.mem_of_getElem? (i := 486) (by decide +kernel)) (by decide +kernel)
theorem mw_487 : Cond.fieldLink RX7 36 "AgingMen$Solver" "best" "[I" ∈ UW := uw_mem (List.mem_of_getElem? (i := 487) (by decide +kernel)) (by decide +kernel)
theorem mw_488 : Cond.fieldLink RX7 39 "AgingMen$Solver" "rows" "[I" ∈ UW := uw_mem (List.mem_of_getElem? (i := 488) (by decide +kernel)) (by decide +kernel)
theorem mw_489 : Cond.fieldLink RX7 42 "AgingMen$Solver" "depth" "I" ∈ UW := uw_mem (List.mem_of_getElem? (i := 489) (by decide +kernel)) (by decide +kernel)
theorem mw_490 : Cond.fieldLink RX7 45 "AgingMen$Solver" "solvedStand" "J" ∈ UW := uw_mem (List.mem_of_getElem? (i := 490) (by decide +kernel)) (by decide +kernel)
theorem mw_491 : Cond.fieldLink RX7 49 "AgingMen$Solver" "solvedLaw" "I" ∈ UW := uw_mem (List.mem_of_getElem? (i := 491) (by decide +kernel)) (by decide +kernel)
theorem mw_492 : Cond.fieldLink RX7 52 "AgingMen$Solver" "count" "I" ∈ UW := uw_mem (List.mem_of_getElem? (i := 492) (by decide +kernel)) (by decide +kernel)
theorem mw_494 : Cond.fieldLink RX7 55 "AgingMen$Solver" "full" "Z" ∈ UW := uw_mem (List.mem_of_getElem? (i := 494) (by decide +kernel)) (by decide +kernel)
theorem mw_496 : Cond.fieldLink RX7 59 "AgingMen$Solver" "score" "I" ∈ UW := uw_mem (List.mem_of_getElem? (i := 496) (by decide +kernel)) (by decide +kernel)
theorem mw_498 : Cond.fieldLink RX7 62 "AgingMen$Solver" "bestMove" "I" ∈ UW := uw_mem (List.mem_of_getElem? (i := 498) (by decide +kernel)) (by decide +kernel)
theorem mw_533 : Cond.methodLink RX9 174 yX7_goThrough ∈ UW := uw_mem (List.mem_of_getElem? (i := 533) (by decide +kernel)) (by decide +kernel)
theorem mw_534 : Cond.instanceMethod yX7_goThrough ∈ UW := uw_mem (List.mem_of_getElem? (i := 534) (by decide +kernel)) (by decide +kernel)
theorem mw_535 : Cond.selects RX7 yX7_goThrough yX7_goThrough ∈ UW := uw_mem (List.mem_of_getElem? (i := 535) (by decide +kernel)) (by decide +kernel)
theorem mw_536 : Cond.code yX7_goThrough cX7_goThrough 5 none ∈ UW := uw_mem (List.mem_of_getElem? (i := 536) (by decide +kernel)) (by decide +kernel)
theorem mw_537 : Cond.methodLink RX7 65 yX5_code ∈ UW := uw_mem (List.mem_of_getElem? (i := 537) (by decide +kernel)) (by decide +kernel)
theorem mw_538 : Cond.methodLink RX7 71 yX7_slotOf ∈ UW := uw_mem (List.mem_of_getElem? (i := 538) (by decide +kernel)) (by decide +kernel)
theorem mw_540 : Cond.instanceMethod yX7_slotOf ∈ UW := uw_mem (List.mem_of_getElem? (i := 540) (by decide +kernel)) (by decide +kernel)
theorem mw_541 : Cond.code yX7_slotOf cX7_slotOf 6 (some .int) ∈ UW := uw_mem (List.mem_of_getElem? (i := 541) (by decide +kernel)) (by decide +kernel)
theorem mw_542 : Cond.constantLong RX7 84 (-7046029254386353131) ∈ UW := uw_mem (List.mem_of_getElem? (i := 542) (by decide +kernel)) (by decide +kernel)
theorem mw_543 : Cond.methodLink RX7 86 yX7_isFilled ∈ UW := uw_mem (List.mem_of_getElem? (i := 543) (by decide +kernel)) (by decide +kernel)
theorem mw_545 : Cond.instanceMethod yX7_isFilled ∈ UW := uw_mem (List.mem_of_getElem? (i := 545) (by decide +kernel)) (by decide +kernel)
theorem mw_546 : Cond.code yX7_isFilled cX7_isFilled 2 (some .boolean) ∈ UW := uw_mem (List.mem_of_getElem? (i := 546) (by decide +kernel)) (by decide +kernel)
theorem mw_547 : Cond.methodLink RX7 75 yX7_open ∈ UW := uw_mem (List.mem_of_getElem? (i := 547) (by decide +kernel)) (by decide +kernel)
theorem mw_549 : Cond.instanceMethod yX7_open ∈ UW := uw_mem (List.mem_of_getElem? (i := 549) (by decide +kernel)) (by decide +kernel)
theorem mw_550 : Cond.code yX7_open cX7_open 5 none ∈ UW := uw_mem (List.mem_of_getElem? (i := 550) (by decide +kernel)) (by decide +kernel)
theorem mw_551 : Cond.methodLink RX7 90 yX5_list ∈ UW := uw_mem (List.mem_of_getElem? (i := 551) (by decide +kernel)) (by decide +kernel)
theorem mw_552 : Cond.methodLink RX7 94 yX5_ending ∈ UW := uw_mem (List.mem_of_getElem? (i := 552) (by decide +kernel)) (by decide +kernel)
theorem mw_553 : Cond.methodLink RX7 97 yX8_turnOf ∈ UW := uw_mem (List.mem_of_getElem? (i := 553) (by decide +kernel)) (by decide +kernel)
theorem mw_554 : Cond.methodLink RX7 102 yX6_atEnd ∈ UW := uw_mem (List.mem_of_getElem? (i := 554) (by decide +kernel)) (by decide +kernel)
theorem mw_555 : Cond.static yX6_atEnd ∈ UW := uw_mem (List.mem_of_getElem? (i := 555) (by decide +kernel)) (by decide +kernel)
theorem mw_556 : Cond.code yX6_atEnd cX6_atEnd 2 (some .int) ∈ UW := uw_mem (List.mem_of_getElem? (i := 556) (by decide +kernel)) (by decide +kernel)
theorem mw_557 : Cond.methodLink RX6 11 yX5_wonBy ∈ UW := uw_mem (List.mem_of_getElem? (i := 557) (by decide +kernel)) (by decide +kernel)
theorem mw_558 : Cond.constant RX7 79 (1000000) ∈ UW := uw_mem (List.mem_of_getElem? (i := 558) (by decide +kernel)) (by decide +kernel)
theorem mw_559 : Cond.methodLink RX7 80 yX7_goOn ∈ UW := uw_mem (List.mem_of_getElem? (i := 559) (by decide +kernel)) (by decide +kernel)
theorem mw_561 : Cond.instanceMethod yX7_goOn ∈ UW := uw_mem (List.mem_of_getElem? (i := 561) (by decide +kernel)) (by decide +kernel)
theorem mw_562 : Cond.code yX7_goOn cX7_goOn 7 none ∈ UW := uw_mem (List.mem_of_getElem? (i := 562) (by decide +kernel)) (by decide +kernel)
theorem mw_563 : Cond.methodLink RX7 108 yX7_close ∈ UW := uw_mem (List.mem_of_getElem? (i := 563) (by decide +kernel)) (by decide +kernel)
theorem mw_565 : Cond.instanceMethod yX7_close ∈ UW := uw_mem (List.mem_of_getElem? (i := 565) (by decide +kernel)) (by decide +kernel)
theorem mw_566 : Cond.code yX7_close cX7_close 3 none ∈ UW := uw_mem (List.mem_of_getElem? (i := 566) (by decide +kernel)) (by decide +kernel)
theorem mw_567 : Cond.methodLink RX7 116 yX7_weigh ∈ UW := uw_mem (List.mem_of_getElem? (i := 567) (by decide +kernel)) (by decide +kernel)
theorem mw_569 : Cond.instanceMethod yX7_weigh ∈ UW := uw_mem (List.mem_of_getElem? (i := 569) (by decide +kernel)) (by decide +kernel)
theorem mw_570 : Cond.code yX7_weigh cX7_weigh 4 none ∈ UW := uw_mem (List.mem_of_getElem? (i := 570) (by decide +kernel)) (by decide +kernel)
theorem mw_571 : Cond.methodLink RX7 120 yX6_before ∈ UW := uw_mem (List.mem_of_getElem? (i := 571) (by decide +kernel)) (by decide +kernel)
theorem mw_572 : Cond.static yX6_before ∈ UW := uw_mem (List.mem_of_getElem? (i := 572) (by decide +kernel)) (by decide +kernel)
theorem mw_573 : Cond.code yX6_before cX6_before 1 (some .int) ∈ UW := uw_mem (List.mem_of_getElem? (i := 573) (by decide +kernel)) (by decide +kernel)
theorem mw_574 : Cond.methodLink RX7 112 yX8_after ∈ UW := uw_mem (List.mem_of_getElem? (i := 574) (by decide +kernel)) (by decide +kernel)
theorem mw_575 : Cond.methodLink RL 73 yX9_solve ∈ UW := uw_mem (List.mem_of_getElem? (i := 575) (by decide +kernel)) (by decide +kernel)
theorem mw_576 : Cond.instanceMethod yX9_solve ∈ UW := uw_mem (List.mem_of_getElem? (i := 576) (by decide +kernel)) (by decide +kernel)
theorem mw_577 : Cond.selects RX9 yX9_solve yX9_solve ∈ UW := uw_mem (List.mem_of_getElem? (i := 577) (by decide +kernel)) (by decide +kernel)
theorem mw_578 : Cond.code yX9_solve cX9_solve 3 (some .int) ∈ UW := uw_mem (List.mem_of_getElem? (i := 578) (by decide +kernel)) (by decide +kernel)
theorem mw_579 : Cond.methodLink RX9 193 yX6_bringing ∈ UW := uw_mem (List.mem_of_getElem? (i := 579) (by decide +kernel)) (by decide +kernel)
theorem mw_580 : Cond.static yX6_bringing ∈ UW := uw_mem (List.mem_of_getElem? (i := 580) (by decide +kernel)) (by decide +kernel)
theorem mw_581 : Cond.code yX6_bringing cX6_bringing 1 (some .int) ∈ UW := uw_mem (List.mem_of_getElem? (i := 581) (by decide +kernel)) (by decide +kernel)
theorem mw_582 : Cond.methodLink RX9 198 yX6_length ∈ UW := uw_mem (List.mem_of_getElem? (i := 582) (by decide +kernel)) (by decide +kernel)
theorem mw_583 : Cond.static yX6_length ∈ UW := uw_mem (List.mem_of_getElem? (i := 583) (by decide +kernel)) (by decide +kernel)
theorem mw_584 : Cond.code yX6_length cX6_length 1 (some .int) ∈ UW := uw_mem (List.mem_of_getElem? (i := 584) (by decide +kernel)) (by decide +kernel)
theorem mw_585 : Cond.methodLink RL 77 yX9_keys ∈ UW := uw_mem (List.mem_of_getElem? (i := 585) (by decide +kernel)) (by decide +kernel)
theorem mw_586 : Cond.instanceMethod yX9_keys ∈ UW := uw_mem (List.mem_of_getElem? (i := 586) (by decide +kernel)) (by decide +kernel)
theorem mw_587 : Cond.selects RX9 yX9_keys yX9_keys ∈ UW := uw_mem (List.mem_of_getElem? (i := 587) (by decide +kernel)) (by decide +kernel)
theorem mw_588 : Cond.code yX9_keys cX9_keys 3 (some .int) ∈ UW := uw_mem (List.mem_of_getElem? (i := 588) (by decide +kernel)) (by decide +kernel)
theorem mw_589 : Cond.methodLink RX9 202 yX4_find ∈ UW := uw_mem (List.mem_of_getElem? (i := 589) (by decide +kernel)) (by decide +kernel)
theorem mw_590 : Cond.instanceMethod yX4_find ∈ UW := uw_mem (List.mem_of_getElem? (i := 590) (by decide +kernel)) (by decide +kernel)
theorem mw_591 : Cond.selects RX4 yX4_find yX4_find ∈ UW := uw_mem (List.mem_of_getElem? (i := 591) (by decide +kernel)) (by decide +kernel)
theorem mw_592 : Cond.code yX4_find cX4_find 12 none ∈ UW := uw_mem (List.mem_of_getElem? (i := 592) (by decide +kernel)) (by decide +kernel)
theorem mw_593 : Cond.methodLink RX4 38 yX5_code ∈ UW := uw_mem (List.mem_of_getElem? (i := 593) (by decide +kernel)) (by decide +kernel)
theorem mw_594 : Cond.methodLink RX4 44 yX8_turnOf ∈ UW := uw_mem (List.mem_of_getElem? (i := 594) (by decide +kernel)) (by decide +kernel)
theorem mw_595 : Cond.methodLink RX4 50 yX5_wonBy ∈ UW := uw_mem (List.mem_of_getElem? (i := 595) (by decide +kernel)) (by decide +kernel)
theorem mw_596 : Cond.methodLink RX4 54 yX5_list ∈ UW := uw_mem (List.mem_of_getElem? (i := 596) (by decide +kernel)) (by decide +kernel)
theorem mw_597 : Cond.methodLink RX4 58 yX8_after ∈ UW := uw_mem (List.mem_of_getElem? (i := 597) (by decide +kernel)) (by decide +kernel)
theorem mw_598 : Cond.methodLink RX4 62 yX5_ending ∈ UW := uw_mem (List.mem_of_getElem? (i := 598) (by decide +kernel)) (by decide +kernel)
theorem mw_599 : Cond.methodLink RX4 65 yX4_winsAgainstAll ∈ UW := uw_mem (List.mem_of_getElem? (i := 599) (by decide +kernel)) (by decide +kernel)
theorem mw_601 : Cond.instanceMethod yX4_winsAgainstAll ∈ UW := uw_mem (List.mem_of_getElem? (i := 601) (by decide +kernel)) (by decide +kernel)
theorem mw_602 : Cond.code yX4_winsAgainstAll cX4_winsAgainstAll 6 (some .boolean) ∈ UW := uw_mem (List.mem_of_getElem? (i := 602) (by decide +kernel)) (by decide +kernel)
theorem mw_603 : Cond.methodLink RX4 69 yX4_winsAtOnce ∈ UW := uw_mem (List.mem_of_getElem? (i := 603) (by decide +kernel)) (by decide +kernel)
theorem mw_605 : Cond.instanceMethod yX4_winsAtOnce ∈ UW := uw_mem (List.mem_of_getElem? (i := 605) (by decide +kernel)) (by decide +kernel)
theorem mw_606 : Cond.code yX4_winsAtOnce cX4_winsAtOnce 7 (some .boolean) ∈ UW := uw_mem (List.mem_of_getElem? (i := 606) (by decide +kernel)) (by decide +kernel)
theorem mw_607 : Cond.methodLink RL 81 yX9_even ∈ UW := uw_mem (List.mem_of_getElem? (i := 607) (by decide +kernel)) (by decide +kernel)
theorem mw_608 : Cond.instanceMethod yX9_even ∈ UW := uw_mem (List.mem_of_getElem? (i := 608) (by decide +kernel)) (by decide +kernel)
theorem mw_609 : Cond.selects RX9 yX9_even yX9_even ∈ UW := uw_mem (List.mem_of_getElem? (i := 609) (by decide +kernel)) (by decide +kernel)
theorem mw_610 : Cond.code yX9_even cX9_even 6 (some .int) ∈ UW := uw_mem (List.mem_of_getElem? (i := 610) (by decide +kernel)) (by decide +kernel)
theorem mw_611 : Cond.methodLink RL 85 yX9_book ∈ UW := uw_mem (List.mem_of_getElem? (i := 611) (by decide +kernel)) (by decide +kernel)
theorem mw_612 : Cond.instanceMethod yX9_book ∈ UW := uw_mem (List.mem_of_getElem? (i := 612) (by decide +kernel)) (by decide +kernel)
theorem mw_613 : Cond.selects RX9 yX9_book yX9_book ∈ UW := uw_mem (List.mem_of_getElem? (i := 613) (by decide +kernel)) (by decide +kernel)
theorem mw_614 : Cond.code yX9_book cX9_book 2 (some .int) ∈ UW := uw_mem (List.mem_of_getElem? (i := 614) (by decide +kernel)) (by decide +kernel)
theorem mw_615 : Cond.methodLink RX9 211 yX0_add ∈ UW := uw_mem (List.mem_of_getElem? (i := 615) (by decide +kernel)) (by decide +kernel)
theorem mw_616 : Cond.instanceMethod yX0_add ∈ UW := uw_mem (List.mem_of_getElem? (i := 616) (by decide +kernel)) (by decide +kernel)
theorem mw_617 : Cond.selects RX0 yX0_add yX0_add ∈ UW := uw_mem (List.mem_of_getElem? (i := 617) (by decide +kernel)) (by decide +kernel)
theorem mw_618 : Cond.code yX0_add cX0_add 7 (some .int) ∈ UW := uw_mem (List.mem_of_getElem? (i := 618) (by decide +kernel)) (by decide +kernel)
theorem mw_619 : Cond.methodLink RX0 29 yX3_countMoves ∈ UW := uw_mem (List.mem_of_getElem? (i := 619) (by decide +kernel)) (by decide +kernel)
theorem mw_620 : Cond.methodLink RX0 35 yX0_moveOnPad ∈ UW := uw_mem (List.mem_of_getElem? (i := 620) (by decide +kernel)) (by decide +kernel)
theorem mw_621 : Cond.static yX0_moveOnPad ∈ UW := uw_mem (List.mem_of_getElem? (i := 621) (by decide +kernel)) (by decide +kernel)
theorem mw_622 : Cond.code yX0_moveOnPad cX0_moveOnPad 2 (some .int) ∈ UW := uw_mem (List.mem_of_getElem? (i := 622) (by decide +kernel)) (by decide +kernel)
theorem mw_623 : Cond.methodLink RX0 39 yX3_fromAt ∈ UW := uw_mem (List.mem_of_getElem? (i := 623) (by decide +kernel)) (by decide +kernel)
theorem mw_624 : Cond.methodLink RX0 43 yX3_toAt ∈ UW := uw_mem (List.mem_of_getElem? (i := 624) (by decide +kernel)) (by decide +kernel)
theorem mw_625 : Cond.methodLink RL 89 yX9_booked ∈ UW := uw_mem (List.mem_of_getElem? (i := 625) (by decide +kernel)) (by decide +kernel)
theorem mw_626 : Cond.instanceMethod yX9_booked ∈ UW := uw_mem (List.mem_of_getElem? (i := 626) (by decide +kernel)) (by decide +kernel)
theorem mw_627 : Cond.selects RX9 yX9_booked yX9_booked ∈ UW := uw_mem (List.mem_of_getElem? (i := 627) (by decide +kernel)) (by decide +kernel)
theorem mw_628 : Cond.code yX9_booked cX9_booked 3 (some .int) ∈ UW := uw_mem (List.mem_of_getElem? (i := 628) (by decide +kernel)) (by decide +kernel)
theorem mw_629 : Cond.methodLink RX9 214 yX0_lengthOf ∈ UW := uw_mem (List.mem_of_getElem? (i := 629) (by decide +kernel)) (by decide +kernel)
theorem mw_630 : Cond.instanceMethod yX0_lengthOf ∈ UW := uw_mem (List.mem_of_getElem? (i := 630) (by decide +kernel)) (by decide +kernel)
theorem mw_631 : Cond.selects RX0 yX0_lengthOf yX0_lengthOf ∈ UW := uw_mem (List.mem_of_getElem? (i := 631) (by decide +kernel)) (by decide +kernel)
theorem mw_632 : Cond.code yX0_lengthOf cX0_lengthOf 2 (some .int) ∈ UW := uw_mem (List.mem_of_getElem? (i := 632) (by decide +kernel)) (by decide +kernel)
theorem mw_633 : Cond.methodLink RX0 52 yX0_has ∈ UW := uw_mem (List.mem_of_getElem? (i := 633) (by decide +kernel)) (by decide +kernel)
theorem mw_635 : Cond.instanceMethod yX0_has ∈ UW := uw_mem (List.mem_of_getElem? (i := 635) (by decide +kernel)) (by decide +kernel)
theorem mw_636 : Cond.code yX0_has cX0_has 2 (some .boolean) ∈ UW := uw_mem (List.mem_of_getElem? (i := 636) (by decide +kernel)) (by decide +kernel)
theorem mw_637 : Cond.methodLink RX9 217 yX0_broughtBy ∈ UW := uw_mem (List.mem_of_getElem? (i := 637) (by decide +kernel)) (by decide +kernel)
theorem mw_638 : Cond.instanceMethod yX0_broughtBy ∈ UW := uw_mem (List.mem_of_getElem? (i := 638) (by decide +kernel)) (by decide +kernel)
theorem mw_639 : Cond.selects RX0 yX0_broughtBy yX0_broughtBy ∈ UW := uw_mem (List.mem_of_getElem? (i := 639) (by decide +kernel)) (by decide +kernel)
theorem mw_640 : Cond.code yX0_broughtBy cX0_broughtBy 2 (some .int) ∈ UW := uw_mem (List.mem_of_getElem? (i := 640) (by decide +kernel)) (by decide +kernel)
theorem mw_641 : Cond.methodLink RX9 220 yX0_moveOf ∈ UW := uw_mem (List.mem_of_getElem? (i := 641) (by decide +kernel)) (by decide +kernel)
theorem mw_642 : Cond.instanceMethod yX0_moveOf ∈ UW := uw_mem (List.mem_of_getElem? (i := 642) (by decide +kernel)) (by decide +kernel)
theorem mw_643 : Cond.selects RX0 yX0_moveOf yX0_moveOf ∈ UW := uw_mem (List.mem_of_getElem? (i := 643) (by decide +kernel)) (by decide +kernel)
theorem mw_644 : Cond.code yX0_moveOf cX0_moveOf 3 (some .int) ∈ UW := uw_mem (List.mem_of_getElem? (i := 644) (by decide +kernel)) (by decide +kernel)
theorem mw_645 : Cond.methodLink RX0 56 yX0_lengthOf ∈ UW := uw_mem (List.mem_of_getElem? (i := 645) (by decide +kernel)) (by decide +kernel)
theorem mw_646 : Cond.methodLink RL 93 yX9_next ∈ UW := uw_mem (List.mem_of_getElem? (i := 646) (by decide +kernel)) (by decide +kernel)
theorem mw_647 : Cond.instanceMethod yX9_next ∈ UW := uw_mem (List.mem_of_getElem? (i := 647) (by decide +kernel)) (by decide +kernel)
theorem mw_648 : Cond.selects RX9 yX9_next yX9_next ∈ UW := uw_mem (List.mem_of_getElem? (i := 648) (by decide +kernel)) (by decide +kernel)
theorem mw_649 : Cond.code yX9_next cX9_next 3 (some .int) ∈ UW := uw_mem (List.mem_of_getElem? (i := 649) (by decide +kernel)) (by decide +kernel)
theorem mw_650 : Cond.methodLink RX9 224 yX0_countBegun ∈ UW := uw_mem (List.mem_of_getElem? (i := 650) (by decide +kernel)) (by decide +kernel)
theorem mw_651 : Cond.instanceMethod yX0_countBegun ∈ UW := uw_mem (List.mem_of_getElem? (i := 651) (by decide +kernel)) (by decide +kernel)
theorem mw_652 : Cond.selects RX0 yX0_countBegun yX0_countBegun ∈ UW := uw_mem (List.mem_of_getElem? (i := 652) (by decide +kernel)) (by decide +kernel)
theorem mw_653 : Cond.code yX0_countBegun cX0_countBegun 6 (some .int) ∈ UW := uw_mem (List.mem_of_getElem? (i := 653) (by decide +kernel)) (by decide +kernel)
theorem mw_654 : Cond.methodLink RX0 63 yX0_begins ∈ UW := uw_mem (List.mem_of_getElem? (i := 654) (by decide +kernel)) (by decide +kernel)
theorem mw_656 : Cond.instanceMethod yX0_begins ∈ UW := uw_mem (List.mem_of_getElem? (i := 656) (by decide +kernel)) (by decide +kernel)
theorem mw_657 : Cond.code yX0_begins cX0_begins 6 (some .boolean) ∈ UW := uw_mem (List.mem_of_getElem? (i := 657) (by decide +kernel)) (by decide +kernel)
theorem mw_658 : Cond.methodLink RX0 59 yX0_moveOf ∈ UW := uw_mem (List.mem_of_getElem? (i := 658) (by decide +kernel)) (by decide +kernel)
theorem mw_659 : Cond.methodLink RX9 228 yX0_countWon ∈ UW := uw_mem (List.mem_of_getElem? (i := 659) (by decide +kernel)) (by decide +kernel)
theorem mw_660 : Cond.instanceMethod yX0_countWon ∈ UW := uw_mem (List.mem_of_getElem? (i := 660) (by decide +kernel)) (by decide +kernel)
theorem mw_661 : Cond.selects RX0 yX0_countWon yX0_countWon ∈ UW := uw_mem (List.mem_of_getElem? (i := 661) (by decide +kernel)) (by decide +kernel)
theorem mw_662 : Cond.code yX0_countWon cX0_countWon 7 (some .int) ∈ UW := uw_mem (List.mem_of_getElem? (i := 662) (by decide +kernel)) (by decide +kernel)
theorem mw_663 : Cond.methodLink RX0 67 yX0_broughtBy ∈ UW := uw_mem (List.mem_of_getElem? (i := 663) (by decide +kernel)) (by decide +kernel)
theorem mw_664 : Cond.methodLink RX9 231 yX0_mostPlayed ∈ UW := uw_mem (List.mem_of_getElem? (i := 664) (by decide +kernel)) (by decide +kernel)
theorem mw_665 : Cond.instanceMethod yX0_mostPlayed ∈ UW := uw_mem (List.mem_of_getElem? (i := 665) (by decide +kernel)) (by decide +kernel)
theorem mw_666 : Cond.selects RX0 yX0_mostPlayed yX0_mostPlayed ∈ UW := uw_mem (List.mem_of_getElem? (i := 666) (by decide +kernel)) (by decide +kernel)
theorem mw_667 : Cond.code yX0_mostPlayed cX0_mostPlayed 9 (some .int) ∈ UW := uw_mem (List.mem_of_getElem? (i := 667) (by decide +kernel)) (by decide +kernel)
theorem mw_668 : Cond.methodLink RX0 70 yX0_timesPlayed ∈ UW := uw_mem (List.mem_of_getElem? (i := 668) (by decide +kernel)) (by decide +kernel)
theorem mw_669 : Cond.instanceMethod yX0_timesPlayed ∈ UW := uw_mem (List.mem_of_getElem? (i := 669) (by decide +kernel)) (by decide +kernel)
theorem mw_670 : Cond.selects RX0 yX0_timesPlayed yX0_timesPlayed ∈ UW := uw_mem (List.mem_of_getElem? (i := 670) (by decide +kernel)) (by decide +kernel)
theorem mw_671 : Cond.code yX0_timesPlayed cX0_timesPlayed 7 (some .int) ∈ UW := uw_mem (List.mem_of_getElem? (i := 671) (by decide +kernel)) (by decide +kernel)
theorem mw_672 : Cond.methodLink RX9 234 yX0_timesPlayed ∈ UW := uw_mem (List.mem_of_getElem? (i := 672) (by decide +kernel)) (by decide +kernel)
theorem mw_673 : Cond.methodLink RL 97 yX9_drawn ∈ UW := uw_mem (List.mem_of_getElem? (i := 673) (by decide +kernel)) (by decide +kernel)
theorem mw_674 : Cond.instanceMethod yX9_drawn ∈ UW := uw_mem (List.mem_of_getElem? (i := 674) (by decide +kernel)) (by decide +kernel)
theorem mw_675 : Cond.selects RX9 yX9_drawn yX9_drawn ∈ UW := uw_mem (List.mem_of_getElem? (i := 675) (by decide +kernel)) (by decide +kernel)
theorem mw_676 : Cond.code yX9_drawn cX9_drawn 10 (some .int) ∈ UW := uw_mem (List.mem_of_getElem? (i := 676) (by decide +kernel)) (by decide +kernel)
theorem mw_677 : Cond.constant RX9 237 (65537) ∈ UW := uw_mem (List.mem_of_getElem? (i := 677) (by decide +kernel)) (by decide +kernel)
theorem mw_678 : Cond.methodLink RX9 238 yX8_after ∈ UW := uw_mem (List.mem_of_getElem? (i := 678) (by decide +kernel)) (by decide +kernel)
theorem mw_679 : Cond.methodLink RL 101 yX9_mirror ∈ UW := uw_mem (List.mem_of_getElem? (i := 679) (by decide +kernel)) (by decide +kernel)
theorem mw_680 : Cond.instanceMethod yX9_mirror ∈ UW := uw_mem (List.mem_of_getElem? (i := 680) (by decide +kernel)) (by decide +kernel)
theorem mw_681 : Cond.selects RX9 yX9_mirror yX9_mirror ∈ UW := uw_mem (List.mem_of_getElem? (i := 681) (by decide +kernel)) (by decide +kernel)
theorem mw_682 : Cond.code yX9_mirror cX9_mirror 2 (some .int) ∈ UW := uw_mem (List.mem_of_getElem? (i := 682) (by decide +kernel)) (by decide +kernel)
theorem mw_683 : Cond.methodLink RX9 242 yX8_mirrored ∈ UW := uw_mem (List.mem_of_getElem? (i := 683) (by decide +kernel)) (by decide +kernel)
theorem mw_684 : Cond.static yX8_mirrored ∈ UW := uw_mem (List.mem_of_getElem? (i := 684) (by decide +kernel)) (by decide +kernel)
theorem mw_685 : Cond.code yX8_mirrored cX8_mirrored 7 (some .long) ∈ UW := uw_mem (List.mem_of_getElem? (i := 685) (by decide +kernel)) (by decide +kernel)
theorem mw_686 : Cond.methodLink RX8 39 yX8_mirroredCell ∈ UW := uw_mem (List.mem_of_getElem? (i := 686) (by decide +kernel)) (by decide +kernel)
theorem mw_687 : Cond.static yX8_mirroredCell ∈ UW := uw_mem (List.mem_of_getElem? (i := 687) (by decide +kernel)) (by decide +kernel)
theorem mw_688 : Cond.code yX8_mirroredCell cX8_mirroredCell 6 (some .int) ∈ UW := uw_mem (List.mem_of_getElem? (i := 688) (by decide +kernel)) (by decide +kernel)
theorem mw_689 : Cond.methodLink RL 105 yX9_like ∈ UW := uw_mem (List.mem_of_getElem? (i := 689) (by decide +kernel)) (by decide +kernel)
theorem mw_690 : Cond.instanceMethod yX9_like ∈ UW := uw_mem (List.mem_of_getElem? (i := 690) (by decide +kernel)) (by decide +kernel)
theorem mw_691 : Cond.selects RX9 yX9_like yX9_like ∈ UW := uw_mem (List.mem_of_getElem? (i := 691) (by decide +kernel)) (by decide +kernel)
theorem mw_692 : Cond.code yX9_like cX9_like 5 (some .int) ∈ UW := uw_mem (List.mem_of_getElem? (i := 692) (by decide +kernel)) (by decide +kernel)
theorem mw_693 : Cond.methodLink RL 109 yX9_image ∈ UW := uw_mem (List.mem_of_getElem? (i := 693) (by decide +kernel)) (by decide +kernel)
theorem mw_694 : Cond.instanceMethod yX9_image ∈ UW := uw_mem (List.mem_of_getElem? (i := 694) (by decide +kernel)) (by decide +kernel)
theorem mw_695 : Cond.selects RX9 yX9_image yX9_image ∈ UW := uw_mem (List.mem_of_getElem? (i := 695) (by decide +kernel)) (by decide +kernel)
theorem mw_696 : Cond.code yX9_image cX9_image 3 (some .int) ∈ UW := uw_mem (List.mem_of_getElem? (i := 696) (by decide +kernel)) (by decide +kernel)
theorem mw_697 : Cond.methodLink RX9 245 yX9_imageNumbered ∈ UW := uw_mem (List.mem_of_getElem? (i := 697) (by decide +kernel)) (by decide +kernel)
theorem mw_699 : Cond.instanceMethod yX9_imageNumbered ∈ UW := uw_mem (List.mem_of_getElem? (i := 699) (by decide +kernel)) (by decide +kernel)
theorem mw_700 : Cond.code yX9_imageNumbered cX9_imageNumbered 2 (some (.object "AgingMen$Image")) ∈ UW := uw_mem (List.mem_of_getElem? (i := 700) (by decide +kernel)) (by decide +kernel)
theorem mw_701 : Cond.methodLink RX9 257 yX0_copyFrom ∈ UW := uw_mem (List.mem_of_getElem? (i := 701) (by decide +kernel)) (by decide +kernel)
theorem mw_702 : Cond.instanceMethod yX0_copyFrom ∈ UW := uw_mem (List.mem_of_getElem? (i := 702) (by decide +kernel)) (by decide +kernel)
theorem mw_703 : Cond.selects RX0 yX0_copyFrom yX0_copyFrom ∈ UW := uw_mem (List.mem_of_getElem? (i := 703) (by decide +kernel)) (by decide +kernel)
theorem mw_704 : Cond.code yX0_copyFrom cX0_copyFrom 2 none ∈ UW := uw_mem (List.mem_of_getElem? (i := 704) (by decide +kernel)) (by decide +kernel)
theorem mw_705 : Cond.methodLink RX0 46 arraycopyName ∈ UW := uw_mem (List.mem_of_getElem? (i := 705) (by decide +kernel)) (by decide +kernel)
theorem mw_706 : Cond.static arraycopyName ∈ UW := uw_mem (List.mem_of_getElem? (i := 706) (by decide +kernel)) (by decide +kernel)
theorem mw_707 : Cond.native arraycopyName ∈ UW := uw_mem (List.mem_of_getElem? (i := 707) (by decide +kernel)) (by decide +kernel)
theorem mw_708 : Cond.methodLink RL 113 yX9_restore ∈ UW := uw_mem (List.mem_of_getElem? (i := 708) (by decide +kernel)) (by decide +kernel)
theorem mw_709 : Cond.instanceMethod yX9_restore ∈ UW := uw_mem (List.mem_of_getElem? (i := 709) (by decide +kernel)) (by decide +kernel)
theorem mw_710 : Cond.selects RX9 yX9_restore yX9_restore ∈ UW := uw_mem (List.mem_of_getElem? (i := 710) (by decide +kernel)) (by decide +kernel)
theorem mw_711 : Cond.code yX9_restore cX9_restore 3 (some .int) ∈ UW := uw_mem (List.mem_of_getElem? (i := 711) (by decide +kernel)) (by decide +kernel)
theorem mw_712 : Cond.methodLink RL 117 yX9_told ∈ UW := uw_mem (List.mem_of_getElem? (i := 712) (by decide +kernel)) (by decide +kernel)
theorem mw_713 : Cond.instanceMethod yX9_told ∈ UW := uw_mem (List.mem_of_getElem? (i := 713) (by decide +kernel)) (by decide +kernel)
theorem mw_714 : Cond.selects RX9 yX9_told yX9_told ∈ UW := uw_mem (List.mem_of_getElem? (i := 714) (by decide +kernel)) (by decide +kernel)
theorem mw_715 : Cond.code yX9_told cX9_told 2 (some .int) ∈ UW := uw_mem (List.mem_of_getElem? (i := 715) (by decide +kernel)) (by decide +kernel)
theorem mw_716 : Cond.classLink RL 10 RX10 ∈ UW := uw_mem (List.mem_of_getElem? (i := 716) (by decide +kernel)) (by decide +kernel)
theorem mw_717 : Cond.instantiable RX10 32 ∈ UW := uw_mem (List.mem_of_getElem? (i := 717) (by decide +kernel)) (by decide +kernel)
theorem mw_718 : Cond.methodLink RL 12 yX10_init ∈ UW := uw_mem (List.mem_of_getElem? (i := 718) (by decide +kernel)) (by decide +kernel)
theorem mw_719 : Cond.instanceMethod yX10_init ∈ UW := uw_mem (List.mem_of_getElem? (i := 719) (by decide +kernel)) (by decide +kernel)
theorem mw_720 : Cond.code yX10_init cX10_init 1 none ∈ UW := uw_mem (List.mem_of_getElem? (i := 720) (by decide +kernel)) (by decide +kernel)
theorem mw_721 : Cond.methodLink RX10 1 objectInit ∈ UW := uw_mem (List.mem_of_getElem? (i := 721) (by decide +kernel)) (by decide +kernel)
theorem mw_722 : Cond.constant RX10 23 (65536) ∈ UW := uw_mem (List.mem_of_getElem? (i := 722) (by decide +kernel)) (by decide +kernel)
theorem mw_723 : Cond.constantLong RX10 67 (1092850007424543) ∈ UW := uw_mem (List.mem_of_getElem? (i := 723) (by decide +kernel)) (by decide +kernel)
theorem mw_724 : Cond.methodLink RX10 73 yX10_put ∈ UW := uw_mem (List.mem_of_getElem? (i := 724) (by decide +kernel)) (by decide +kernel)
theorem mw_725 : Cond.static yX10_put ∈ UW := uw_mem (List.mem_of_getElem? (i := 725) (by decide +kernel)) (by decide +kernel)
theorem mw_726 : Cond.code yX10_put cX10_put 5 (some .long) ∈ UW := uw_mem (List.mem_of_getElem? (i := 726) (by decide +kernel)) (by decide +kernel)
theorem mw_727 : Cond.constantLong RX10 87 (511) ∈ UW := uw_mem (List.mem_of_getElem? (i := 727) (by decide +kernel)) (by decide +kernel)
theorem mw_728 : Cond.constantLong RX10 89 (-1) ∈ UW := uw_mem (List.mem_of_getElem? (i := 728) (by decide +kernel)) (by decide +kernel)
theorem mw_729 : Cond.fieldLink RX10 69 "AgingMenModel" "board" "J" ∈ UW := uw_mem (List.mem_of_getElem? (i := 729) (by decide +kernel)) (by decide +kernel)
theorem mw_730 : Cond.fieldLink RX10 77 "AgingMenModel" "boys" "I" ∈ UW := uw_mem (List.mem_of_getElem? (i := 730) (by decide +kernel)) (by decide +kernel)
theorem mw_731 : Cond.fieldLink RX10 81 "AgingMenModel" "grown" "I" ∈ UW := uw_mem (List.mem_of_getElem? (i := 731) (by decide +kernel)) (by decide +kernel)
theorem mw_732 : Cond.fieldLink RX10 84 "AgingMenModel" "old" "I" ∈ UW := uw_mem (List.mem_of_getElem? (i := 732) (by decide +kernel)) (by decide +kernel)
theorem mw_733 : Cond.fieldLink RX10 7 "AgingMenModel" "moveMan" "[I" ∈ UW := uw_mem (List.mem_of_getElem? (i := 733) (by decide +kernel)) (by decide +kernel)
theorem mw_734 : Cond.fieldLink RX10 13 "AgingMenModel" "moveTo" "[I" ∈ UW := uw_mem (List.mem_of_getElem? (i := 734) (by decide +kernel)) (by decide +kernel)
theorem mw_735 : Cond.fieldLink RX10 132 "AgingMenModel" "moveMany" "I" ∈ UW := uw_mem (List.mem_of_getElem? (i := 735) (by decide +kernel)) (by decide +kernel)
theorem mw_736 : Cond.fieldLink RX10 16 "AgingMenModel" "pad" "[I" ∈ UW := uw_mem (List.mem_of_getElem? (i := 736) (by decide +kernel)) (by decide +kernel)
theorem mw_737 : Cond.fieldLink RX10 146 "AgingMenModel" "padMany" "I" ∈ UW := uw_mem (List.mem_of_getElem? (i := 737) (by decide +kernel)) (by decide +kernel)
theorem mw_738 : Cond.fieldLink RX10 149 "AgingMenModel" "read" "J" ∈ UW := uw_mem (List.mem_of_getElem? (i := 738) (by decide +kernel)) (by decide +kernel)
theorem mw_739 : Cond.fieldLink RX10 196 "AgingMenModel" "badMove" "I" ∈ UW := uw_mem (List.mem_of_getElem? (i := 739) (by decide +kernel)) (by decide +kernel)
theorem mw_740 : Cond.fieldLink RX10 199 "AgingMenModel" "badWhy" "I" ∈ UW := uw_mem (List.mem_of_getElem? (i := 740) (by decide +kernel)) (by decide +kernel)
theorem mw_741 : Cond.fieldLink RX10 187 "AgingMenModel" "played" "J" ∈ UW := uw_mem (List.mem_of_getElem? (i := 741) (by decide +kernel)) (by decide +kernel)
theorem mw_742 : Cond.fieldLink RX10 19 "AgingMenModel" "stands" "[J" ∈ UW := uw_mem (List.mem_of_getElem? (i := 742) (by decide +kernel)) (by decide +kernel)
theorem mw_743 : Cond.fieldLink RX10 24 "AgingMenModel" "place" "[I" ∈ UW := uw_mem (List.mem_of_getElem? (i := 743) (by decide +kernel)) (by decide +kernel)
theorem mw_744 : Cond.fieldLink RX10 27 "AgingMenModel" "result" "[I" ∈ UW := uw_mem (List.mem_of_getElem? (i := 744) (by decide +kernel)) (by decide +kernel)
theorem mw_745 : Cond.fieldLink RX10 30 "AgingMenModel" "lasts" "[I" ∈ UW := uw_mem (List.mem_of_getElem? (i := 745) (by decide +kernel)) (by decide +kernel)
theorem mw_746 : Cond.fieldLink RX10 33 "AgingMenModel" "bestMove" "[I" ∈ UW := uw_mem (List.mem_of_getElem? (i := 746) (by decide +kernel)) (by decide +kernel)
theorem mw_747 : Cond.fieldLink RX10 226 "AgingMenModel" "standMany" "I" ∈ UW := uw_mem (List.mem_of_getElem? (i := 747) (by decide +kernel)) (by decide +kernel)
theorem mw_748 : Cond.fieldLink RX10 36 "AgingMenModel" "replies" "[J" ∈ UW := uw_mem (List.mem_of_getElem? (i := 748) (by decide +kernel)) (by decide +kernel)
theorem mw_749 : Cond.fieldLink RX10 39 "AgingMenModel" "firsts" "[J" ∈ UW := uw_mem (List.mem_of_getElem? (i := 749) (by decide +kernel)) (by decide +kernel)
theorem mw_750 : Cond.fieldLink RX10 42 "AgingMenModel" "firstMove" "[I" ∈ UW := uw_mem (List.mem_of_getElem? (i := 750) (by decide +kernel)) (by decide +kernel)
theorem mw_751 : Cond.fieldLink RX10 45 "AgingMenModel" "gameBoard" "[J" ∈ UW := uw_mem (List.mem_of_getElem? (i := 751) (by decide +kernel)) (by decide +kernel)
theorem mw_752 : Cond.fieldLink RX10 48 "AgingMenModel" "gameMany" "[I" ∈ UW := uw_mem (List.mem_of_getElem? (i := 752) (by decide +kernel)) (by decide +kernel)
theorem mw_753 : Cond.fieldLink RX10 51 "AgingMenModel" "gameMove" "[I" ∈ UW := uw_mem (List.mem_of_getElem? (i := 753) (by decide +kernel)) (by decide +kernel)
theorem mw_754 : Cond.fieldLink RX10 54 "AgingMenModel" "gameBrought" "[I" ∈ UW := uw_mem (List.mem_of_getElem? (i := 754) (by decide +kernel)) (by decide +kernel)
theorem mw_755 : Cond.fieldLink RX10 258 "AgingMenModel" "games" "I" ∈ UW := uw_mem (List.mem_of_getElem? (i := 755) (by decide +kernel)) (by decide +kernel)
theorem mw_756 : Cond.fieldLink RX10 57 "AgingMenModel" "keptBoards" "[J" ∈ UW := uw_mem (List.mem_of_getElem? (i := 756) (by decide +kernel)) (by decide +kernel)
theorem mw_757 : Cond.fieldLink RX10 60 "AgingMenModel" "kept" "[I" ∈ UW := uw_mem (List.mem_of_getElem? (i := 757) (by decide +kernel)) (by decide +kernel)
theorem mw_758 : Cond.fieldLink RX10 63 "AgingMenModel" "isKept" "[Z" ∈ UW := uw_mem (List.mem_of_getElem? (i := 758) (by decide +kernel)) (by decide +kernel)
theorem mw_759 : Cond.fieldLink RX10 294 "AgingMenModel" "keptAt" "I" ∈ UW := uw_mem (List.mem_of_getElem? (i := 759) (by decide +kernel)) (by decide +kernel)
theorem mw_760 : Cond.fieldLink RX10 290 "AgingMenModel" "isWriting" "Z" ∈ UW := uw_mem (List.mem_of_getElem? (i := 760) (by decide +kernel)) (by decide +kernel)
theorem mw_826 : Cond.arrayClass .boolean ∈ UW := uw_mem (List.mem_of_getElem? (i := 826) (by decide +kernel)) (by decide +kernel)
theorem mw_827 : Cond.methodLink RL 17 yX10_say ∈ UW := uw_mem (List.mem_of_getElem? (i := 827) (by decide +kernel)) (by decide +kernel)
theorem mw_828 : Cond.instanceMethod yX10_say ∈ UW := uw_mem (List.mem_of_getElem? (i := 828) (by decide +kernel)) (by decide +kernel)
theorem mw_829 : Cond.selects RX10 yX10_say yX10_say ∈ UW := uw_mem (List.mem_of_getElem? (i := 829) (by decide +kernel)) (by decide +kernel)
theorem mw_830 : Cond.code yX10_say cX10_say 2 (some .int) ∈ UW := uw_mem (List.mem_of_getElem? (i := 830) (by decide +kernel)) (by decide +kernel)
theorem mw_831 : Cond.constantLong RX10 138 (33) ∈ UW := uw_mem (List.mem_of_getElem? (i := 831) (by decide +kernel)) (by decide +kernel)
theorem mw_832 : Cond.constantLong RX10 140 (126) ∈ UW := uw_mem (List.mem_of_getElem? (i := 832) (by decide +kernel)) (by decide +kernel)
theorem mw_833 : Cond.methodLink RX10 142 yX10_in ∈ UW := uw_mem (List.mem_of_getElem? (i := 833) (by decide +kernel)) (by decide +kernel)
theorem mw_834 : Cond.static yX10_in ∈ UW := uw_mem (List.mem_of_getElem? (i := 834) (by decide +kernel)) (by decide +kernel)
theorem mw_835 : Cond.code yX10_in cX10_in 6 (some .boolean) ∈ UW := uw_mem (List.mem_of_getElem? (i := 835) (by decide +kernel)) (by decide +kernel)
theorem mw_836 : Cond.methodLink RL 22 yX10_wipe ∈ UW := uw_mem (List.mem_of_getElem? (i := 836) (by decide +kernel)) (by decide +kernel)
theorem mw_837 : Cond.instanceMethod yX10_wipe ∈ UW := uw_mem (List.mem_of_getElem? (i := 837) (by decide +kernel)) (by decide +kernel)
theorem mw_838 : Cond.selects RX10 yX10_wipe yX10_wipe ∈ UW := uw_mem (List.mem_of_getElem? (i := 838) (by decide +kernel)) (by decide +kernel)
theorem mw_839 : Cond.code yX10_wipe cX10_wipe 2 (some .int) ∈ UW := uw_mem (List.mem_of_getElem? (i := 839) (by decide +kernel)) (by decide +kernel)
theorem mw_840 : Cond.methodLink RL 26 yX10_fault ∈ UW := uw_mem (List.mem_of_getElem? (i := 840) (by decide +kernel)) (by decide +kernel)
theorem mw_841 : Cond.instanceMethod yX10_fault ∈ UW := uw_mem (List.mem_of_getElem? (i := 841) (by decide +kernel)) (by decide +kernel)
theorem mw_842 : Cond.selects RX10 yX10_fault yX10_fault ∈ UW := uw_mem (List.mem_of_getElem? (i := 842) (by decide +kernel)) (by decide +kernel)
theorem mw_843 : Cond.code yX10_fault cX10_fault 2 (some .int) ∈ UW := uw_mem (List.mem_of_getElem? (i := 843) (by decide +kernel)) (by decide +kernel)
theorem mw_844 : Cond.methodLink RX10 166 yX10_faultOfBoard ∈ UW := uw_mem (List.mem_of_getElem? (i := 844) (by decide +kernel)) (by decide +kernel)
theorem mw_846 : Cond.instanceMethod yX10_faultOfBoard ∈ UW := uw_mem (List.mem_of_getElem? (i := 846) (by decide +kernel)) (by decide +kernel)
theorem mw_847 : Cond.code yX10_faultOfBoard cX10_faultOfBoard 7 (some .int) ∈ UW := uw_mem (List.mem_of_getElem? (i := 847) (by decide +kernel)) (by decide +kernel)
theorem mw_848 : Cond.methodLink RX10 123 yX10_turnOf ∈ UW := uw_mem (List.mem_of_getElem? (i := 848) (by decide +kernel)) (by decide +kernel)
theorem mw_849 : Cond.static yX10_turnOf ∈ UW := uw_mem (List.mem_of_getElem? (i := 849) (by decide +kernel)) (by decide +kernel)
theorem mw_850 : Cond.code yX10_turnOf cX10_turnOf 2 (some .int) ∈ UW := uw_mem (List.mem_of_getElem? (i := 850) (by decide +kernel)) (by decide +kernel)
theorem mw_851 : Cond.constantLong RX10 152 (5) ∈ UW := uw_mem (List.mem_of_getElem? (i := 851) (by decide +kernel)) (by decide +kernel)
theorem mw_852 : Cond.methodLink RX10 91 yX10_cellOf ∈ UW := uw_mem (List.mem_of_getElem? (i := 852) (by decide +kernel)) (by decide +kernel)
theorem mw_853 : Cond.static yX10_cellOf ∈ UW := uw_mem (List.mem_of_getElem? (i := 853) (by decide +kernel)) (by decide +kernel)
theorem mw_854 : Cond.code yX10_cellOf cX10_cellOf 3 (some .int) ∈ UW := uw_mem (List.mem_of_getElem? (i := 854) (by decide +kernel)) (by decide +kernel)
theorem mw_855 : Cond.constantLong RX10 130 (18014398509481984) ∈ UW := uw_mem (List.mem_of_getElem? (i := 855) (by decide +kernel)) (by decide +kernel)
theorem mw_856 : Cond.constantLong RX10 154 (97) ∈ UW := uw_mem (List.mem_of_getElem? (i := 856) (by decide +kernel)) (by decide +kernel)
theorem mw_857 : Cond.constantLong RX10 156 (101) ∈ UW := uw_mem (List.mem_of_getElem? (i := 857) (by decide +kernel)) (by decide +kernel)
theorem mw_858 : Cond.constantLong RX10 158 (49) ∈ UW := uw_mem (List.mem_of_getElem? (i := 858) (by decide +kernel)) (by decide +kernel)
theorem mw_859 : Cond.constantLong RX10 160 (53) ∈ UW := uw_mem (List.mem_of_getElem? (i := 859) (by decide +kernel)) (by decide +kernel)
theorem mw_860 : Cond.methodLink RX10 109 yX10_manOn ∈ UW := uw_mem (List.mem_of_getElem? (i := 860) (by decide +kernel)) (by decide +kernel)
theorem mw_861 : Cond.static yX10_manOn ∈ UW := uw_mem (List.mem_of_getElem? (i := 861) (by decide +kernel)) (by decide +kernel)
theorem mw_862 : Cond.code yX10_manOn cX10_manOn 4 (some .int) ∈ UW := uw_mem (List.mem_of_getElem? (i := 862) (by decide +kernel)) (by decide +kernel)
theorem mw_863 : Cond.constantLong RX10 162 (48) ∈ UW := uw_mem (List.mem_of_getElem? (i := 863) (by decide +kernel)) (by decide +kernel)
theorem mw_864 : Cond.constantLong RX10 164 (57) ∈ UW := uw_mem (List.mem_of_getElem? (i := 864) (by decide +kernel)) (by decide +kernel)
theorem mw_865 : Cond.methodLink RX10 170 yX10_faultOfGame ∈ UW := uw_mem (List.mem_of_getElem? (i := 865) (by decide +kernel)) (by decide +kernel)
theorem mw_867 : Cond.instanceMethod yX10_faultOfGame ∈ UW := uw_mem (List.mem_of_getElem? (i := 867) (by decide +kernel)) (by decide +kernel)
theorem mw_868 : Cond.code yX10_faultOfGame cX10_faultOfGame 3 (some .int) ∈ UW := uw_mem (List.mem_of_getElem? (i := 868) (by decide +kernel)) (by decide +kernel)
theorem mw_869 : Cond.methodLink RL 30 yX10_lay ∈ UW := uw_mem (List.mem_of_getElem? (i := 869) (by decide +kernel)) (by decide +kernel)
theorem mw_870 : Cond.instanceMethod yX10_lay ∈ UW := uw_mem (List.mem_of_getElem? (i := 870) (by decide +kernel)) (by decide +kernel)
theorem mw_871 : Cond.selects RX10 yX10_lay yX10_lay ∈ UW := uw_mem (List.mem_of_getElem? (i := 871) (by decide +kernel)) (by decide +kernel)
theorem mw_872 : Cond.code yX10_lay cX10_lay 1 (some .int) ∈ UW := uw_mem (List.mem_of_getElem? (i := 872) (by decide +kernel)) (by decide +kernel)
theorem mw_873 : Cond.methodLink RX10 173 yX10_standing ∈ UW := uw_mem (List.mem_of_getElem? (i := 873) (by decide +kernel)) (by decide +kernel)
theorem mw_874 : Cond.static yX10_standing ∈ UW := uw_mem (List.mem_of_getElem? (i := 874) (by decide +kernel)) (by decide +kernel)
theorem mw_875 : Cond.code yX10_standing cX10_standing 4 (some .int) ∈ UW := uw_mem (List.mem_of_getElem? (i := 875) (by decide +kernel)) (by decide +kernel)
theorem mw_876 : Cond.methodLink RL 35 yX10_law ∈ UW := uw_mem (List.mem_of_getElem? (i := 876) (by decide +kernel)) (by decide +kernel)
theorem mw_877 : Cond.instanceMethod yX10_law ∈ UW := uw_mem (List.mem_of_getElem? (i := 877) (by decide +kernel)) (by decide +kernel)
theorem mw_878 : Cond.selects RX10 yX10_law yX10_law ∈ UW := uw_mem (List.mem_of_getElem? (i := 878) (by decide +kernel)) (by decide +kernel)
theorem mw_879 : Cond.code yX10_law cX10_law 5 (some .int) ∈ UW := uw_mem (List.mem_of_getElem? (i := 879) (by decide +kernel)) (by decide +kernel)
theorem mw_880 : Cond.constantLong RX10 176 (9) ∈ UW := uw_mem (List.mem_of_getElem? (i := 880) (by decide +kernel)) (by decide +kernel)
theorem mw_881 : Cond.methodLink RL 40 yX10_man ∈ UW := uw_mem (List.mem_of_getElem? (i := 881) (by decide +kernel)) (by decide +kernel)
theorem mw_882 : Cond.instanceMethod yX10_man ∈ UW := uw_mem (List.mem_of_getElem? (i := 882) (by decide +kernel)) (by decide +kernel)
theorem mw_883 : Cond.selects RX10 yX10_man yX10_man ∈ UW := uw_mem (List.mem_of_getElem? (i := 883) (by decide +kernel)) (by decide +kernel)
theorem mw_884 : Cond.code yX10_man cX10_man 3 (some .int) ∈ UW := uw_mem (List.mem_of_getElem? (i := 884) (by decide +kernel)) (by decide +kernel)
theorem mw_885 : Cond.methodLink RX10 178 yX10_isMan ∈ UW := uw_mem (List.mem_of_getElem? (i := 885) (by decide +kernel)) (by decide +kernel)
theorem mw_886 : Cond.static yX10_isMan ∈ UW := uw_mem (List.mem_of_getElem? (i := 886) (by decide +kernel)) (by decide +kernel)
theorem mw_887 : Cond.code yX10_isMan cX10_isMan 1 (some .boolean) ∈ UW := uw_mem (List.mem_of_getElem? (i := 887) (by decide +kernel)) (by decide +kernel)
theorem mw_888 : Cond.methodLink RX10 182 yX10_cellNow ∈ UW := uw_mem (List.mem_of_getElem? (i := 888) (by decide +kernel)) (by decide +kernel)
theorem mw_890 : Cond.instanceMethod yX10_cellNow ∈ UW := uw_mem (List.mem_of_getElem? (i := 890) (by decide +kernel)) (by decide +kernel)
theorem mw_891 : Cond.code yX10_cellNow cX10_cellNow 3 (some .int) ∈ UW := uw_mem (List.mem_of_getElem? (i := 891) (by decide +kernel)) (by decide +kernel)
theorem mw_892 : Cond.methodLink RX10 95 yX10_ageOf ∈ UW := uw_mem (List.mem_of_getElem? (i := 892) (by decide +kernel)) (by decide +kernel)
theorem mw_893 : Cond.static yX10_ageOf ∈ UW := uw_mem (List.mem_of_getElem? (i := 893) (by decide +kernel)) (by decide +kernel)
theorem mw_894 : Cond.code yX10_ageOf cX10_ageOf 3 (some .int) ∈ UW := uw_mem (List.mem_of_getElem? (i := 894) (by decide +kernel)) (by decide +kernel)
theorem mw_895 : Cond.methodLink RX10 98 yX10_kindOf ∈ UW := uw_mem (List.mem_of_getElem? (i := 895) (by decide +kernel)) (by decide +kernel)
theorem mw_897 : Cond.instanceMethod yX10_kindOf ∈ UW := uw_mem (List.mem_of_getElem? (i := 897) (by decide +kernel)) (by decide +kernel)
theorem mw_898 : Cond.code yX10_kindOf cX10_kindOf 2 (some .int) ∈ UW := uw_mem (List.mem_of_getElem? (i := 898) (by decide +kernel)) (by decide +kernel)
theorem mw_899 : Cond.methodLink RL 44 yX10_on ∈ UW := uw_mem (List.mem_of_getElem? (i := 899) (by decide +kernel)) (by decide +kernel)
theorem mw_900 : Cond.instanceMethod yX10_on ∈ UW := uw_mem (List.mem_of_getElem? (i := 900) (by decide +kernel)) (by decide +kernel)
theorem mw_901 : Cond.selects RX10 yX10_on yX10_on ∈ UW := uw_mem (List.mem_of_getElem? (i := 901) (by decide +kernel)) (by decide +kernel)
theorem mw_902 : Cond.code yX10_on cX10_on 2 (some .int) ∈ UW := uw_mem (List.mem_of_getElem? (i := 902) (by decide +kernel)) (by decide +kernel)
theorem mw_903 : Cond.constantLong RX10 185 (24) ∈ UW := uw_mem (List.mem_of_getElem? (i := 903) (by decide +kernel)) (by decide +kernel)
theorem mw_904 : Cond.methodLink RL 48 yX10_state ∈ UW := uw_mem (List.mem_of_getElem? (i := 904) (by decide +kernel)) (by decide +kernel)
theorem mw_905 : Cond.instanceMethod yX10_state ∈ UW := uw_mem (List.mem_of_getElem? (i := 905) (by decide +kernel)) (by decide +kernel)
theorem mw_906 : Cond.selects RX10 yX10_state yX10_state ∈ UW := uw_mem (List.mem_of_getElem? (i := 906) (by decide +kernel)) (by decide +kernel)
theorem mw_907 : Cond.code yX10_state cX10_state 2 (some .int) ∈ UW := uw_mem (List.mem_of_getElem? (i := 907) (by decide +kernel)) (by decide +kernel)
theorem mw_908 : Cond.methodLink RX10 135 yX10_broughtBy ∈ UW := uw_mem (List.mem_of_getElem? (i := 908) (by decide +kernel)) (by decide +kernel)
theorem mw_910 : Cond.instanceMethod yX10_broughtBy ∈ UW := uw_mem (List.mem_of_getElem? (i := 910) (by decide +kernel)) (by decide +kernel)
theorem mw_911 : Cond.code yX10_broughtBy cX10_broughtBy 4 (some .int) ∈ UW := uw_mem (List.mem_of_getElem? (i := 911) (by decide +kernel)) (by decide +kernel)
theorem mw_912 : Cond.methodLink RX10 127 yX10_sideMoves ∈ UW := uw_mem (List.mem_of_getElem? (i := 912) (by decide +kernel)) (by decide +kernel)
theorem mw_914 : Cond.instanceMethod yX10_sideMoves ∈ UW := uw_mem (List.mem_of_getElem? (i := 914) (by decide +kernel)) (by decide +kernel)
theorem mw_915 : Cond.code yX10_sideMoves cX10_sideMoves 4 (some .boolean) ∈ UW := uw_mem (List.mem_of_getElem? (i := 915) (by decide +kernel)) (by decide +kernel)
theorem mw_916 : Cond.methodLink RX10 119 yX10_manMoves ∈ UW := uw_mem (List.mem_of_getElem? (i := 916) (by decide +kernel)) (by decide +kernel)
theorem mw_918 : Cond.instanceMethod yX10_manMoves ∈ UW := uw_mem (List.mem_of_getElem? (i := 918) (by decide +kernel)) (by decide +kernel)
theorem mw_919 : Cond.code yX10_manMoves cX10_manMoves 5 (some .boolean) ∈ UW := uw_mem (List.mem_of_getElem? (i := 919) (by decide +kernel)) (by decide +kernel)
theorem mw_920 : Cond.methodLink RX10 116 yX10_canGo ∈ UW := uw_mem (List.mem_of_getElem? (i := 920) (by decide +kernel)) (by decide +kernel)
theorem mw_922 : Cond.instanceMethod yX10_canGo ∈ UW := uw_mem (List.mem_of_getElem? (i := 922) (by decide +kernel)) (by decide +kernel)
theorem mw_923 : Cond.code yX10_canGo cX10_canGo 5 (some .boolean) ∈ UW := uw_mem (List.mem_of_getElem? (i := 923) (by decide +kernel)) (by decide +kernel)
theorem mw_924 : Cond.methodLink RX10 112 yX10_whyNot ∈ UW := uw_mem (List.mem_of_getElem? (i := 924) (by decide +kernel)) (by decide +kernel)
theorem mw_926 : Cond.instanceMethod yX10_whyNot ∈ UW := uw_mem (List.mem_of_getElem? (i := 926) (by decide +kernel)) (by decide +kernel)
theorem mw_927 : Cond.code yX10_whyNot cX10_whyNot 11 (some .int) ∈ UW := uw_mem (List.mem_of_getElem? (i := 927) (by decide +kernel)) (by decide +kernel)
theorem mw_928 : Cond.methodLink RX10 102 yX10_size ∈ UW := uw_mem (List.mem_of_getElem? (i := 928) (by decide +kernel)) (by decide +kernel)
theorem mw_929 : Cond.static yX10_size ∈ UW := uw_mem (List.mem_of_getElem? (i := 929) (by decide +kernel)) (by decide +kernel)
theorem mw_930 : Cond.code yX10_size cX10_size 1 (some .int) ∈ UW := uw_mem (List.mem_of_getElem? (i := 930) (by decide +kernel)) (by decide +kernel)
theorem mw_931 : Cond.methodLink RX10 105 yX10_isBetween ∈ UW := uw_mem (List.mem_of_getElem? (i := 931) (by decide +kernel)) (by decide +kernel)
theorem mw_932 : Cond.static yX10_isBetween ∈ UW := uw_mem (List.mem_of_getElem? (i := 932) (by decide +kernel)) (by decide +kernel)
theorem mw_933 : Cond.code yX10_isBetween cX10_isBetween 8 (some .boolean) ∈ UW := uw_mem (List.mem_of_getElem? (i := 933) (by decide +kernel)) (by decide +kernel)
theorem mw_934 : Cond.methodLink RL 52 yX10_judge ∈ UW := uw_mem (List.mem_of_getElem? (i := 934) (by decide +kernel)) (by decide +kernel)
theorem mw_935 : Cond.instanceMethod yX10_judge ∈ UW := uw_mem (List.mem_of_getElem? (i := 935) (by decide +kernel)) (by decide +kernel)
theorem mw_936 : Cond.selects RX10 yX10_judge yX10_judge ∈ UW := uw_mem (List.mem_of_getElem? (i := 936) (by decide +kernel)) (by decide +kernel)
theorem mw_937 : Cond.code yX10_judge cX10_judge 2 (some .int) ∈ UW := uw_mem (List.mem_of_getElem? (i := 937) (by decide +kernel)) (by decide +kernel)
theorem mw_938 : Cond.methodLink RX10 209 yX10_goGame ∈ UW := uw_mem (List.mem_of_getElem? (i := 938) (by decide +kernel)) (by decide +kernel)
theorem mw_940 : Cond.instanceMethod yX10_goGame ∈ UW := uw_mem (List.mem_of_getElem? (i := 940) (by decide +kernel)) (by decide +kernel)
theorem mw_941 : Cond.code yX10_goGame cX10_goGame 3 (some .boolean) ∈ UW := uw_mem (List.mem_of_getElem? (i := 941) (by decide +kernel)) (by decide +kernel)
theorem mw_942 : Cond.methodLink RX10 202 yX10_whyAt ∈ UW := uw_mem (List.mem_of_getElem? (i := 942) (by decide +kernel)) (by decide +kernel)
theorem mw_944 : Cond.instanceMethod yX10_whyAt ∈ UW := uw_mem (List.mem_of_getElem? (i := 944) (by decide +kernel)) (by decide +kernel)
theorem mw_945 : Cond.code yX10_whyAt cX10_whyAt 3 (some .int) ∈ UW := uw_mem (List.mem_of_getElem? (i := 945) (by decide +kernel)) (by decide +kernel)
theorem mw_946 : Cond.methodLink RX10 190 yX10_fromAt ∈ UW := uw_mem (List.mem_of_getElem? (i := 946) (by decide +kernel)) (by decide +kernel)
theorem mw_948 : Cond.instanceMethod yX10_fromAt ∈ UW := uw_mem (List.mem_of_getElem? (i := 948) (by decide +kernel)) (by decide +kernel)
theorem mw_949 : Cond.code yX10_fromAt cX10_fromAt 2 (some .int) ∈ UW := uw_mem (List.mem_of_getElem? (i := 949) (by decide +kernel)) (by decide +kernel)
theorem mw_950 : Cond.methodLink RX10 193 yX10_toAt ∈ UW := uw_mem (List.mem_of_getElem? (i := 950) (by decide +kernel)) (by decide +kernel)
theorem mw_952 : Cond.instanceMethod yX10_toAt ∈ UW := uw_mem (List.mem_of_getElem? (i := 952) (by decide +kernel)) (by decide +kernel)
theorem mw_953 : Cond.code yX10_toAt cX10_toAt 2 (some .int) ∈ UW := uw_mem (List.mem_of_getElem? (i := 953) (by decide +kernel)) (by decide +kernel)
theorem mw_954 : Cond.methodLink RX10 205 yX10_gone ∈ UW := uw_mem (List.mem_of_getElem? (i := 954) (by decide +kernel)) (by decide +kernel)
theorem mw_955 : Cond.static yX10_gone ∈ UW := uw_mem (List.mem_of_getElem? (i := 955) (by decide +kernel)) (by decide +kernel)
theorem mw_956 : Cond.code yX10_gone cX10_gone 8 (some .long) ∈ UW := uw_mem (List.mem_of_getElem? (i := 956) (by decide +kernel)) (by decide +kernel)
theorem mw_957 : Cond.methodLink RL 56 yX10_play ∈ UW := uw_mem (List.mem_of_getElem? (i := 957) (by decide +kernel)) (by decide +kernel)
theorem mw_958 : Cond.instanceMethod yX10_play ∈ UW := uw_mem (List.mem_of_getElem? (i := 958) (by decide +kernel)) (by decide +kernel)
theorem mw_959 : Cond.selects RX10 yX10_play yX10_play ∈ UW := uw_mem (List.mem_of_getElem? (i := 959) (by decide +kernel)) (by decide +kernel)
theorem mw_960 : Cond.code yX10_play cX10_play 2 (some .int) ∈ UW := uw_mem (List.mem_of_getElem? (i := 960) (by decide +kernel)) (by decide +kernel)
theorem mw_961 : Cond.methodLink RL 60 yX10_moves ∈ UW := uw_mem (List.mem_of_getElem? (i := 961) (by decide +kernel)) (by decide +kernel)
theorem mw_962 : Cond.instanceMethod yX10_moves ∈ UW := uw_mem (List.mem_of_getElem? (i := 962) (by decide +kernel)) (by decide +kernel)
theorem mw_963 : Cond.selects RX10 yX10_moves yX10_moves ∈ UW := uw_mem (List.mem_of_getElem? (i := 963) (by decide +kernel)) (by decide +kernel)
theorem mw_964 : Cond.code yX10_moves cX10_moves 2 (some .int) ∈ UW := uw_mem (List.mem_of_getElem? (i := 964) (by decide +kernel)) (by decide +kernel)
theorem mw_965 : Cond.methodLink RX10 213 yX10_findMoves ∈ UW := uw_mem (List.mem_of_getElem? (i := 965) (by decide +kernel)) (by decide +kernel)
theorem mw_967 : Cond.instanceMethod yX10_findMoves ∈ UW := uw_mem (List.mem_of_getElem? (i := 967) (by decide +kernel)) (by decide +kernel)
theorem mw_968 : Cond.code yX10_findMoves cX10_findMoves 6 none ∈ UW := uw_mem (List.mem_of_getElem? (i := 968) (by decide +kernel)) (by decide +kernel)
theorem mw_969 : Cond.methodLink RX10 217 yX10_moveNumber ∈ UW := uw_mem (List.mem_of_getElem? (i := 969) (by decide +kernel)) (by decide +kernel)
theorem mw_971 : Cond.instanceMethod yX10_moveNumber ∈ UW := uw_mem (List.mem_of_getElem? (i := 971) (by decide +kernel)) (by decide +kernel)
theorem mw_972 : Cond.code yX10_moveNumber cX10_moveNumber 4 (some .int) ∈ UW := uw_mem (List.mem_of_getElem? (i := 972) (by decide +kernel)) (by decide +kernel)
theorem mw_973 : Cond.methodLink RL 64 yX10_reach ∈ UW := uw_mem (List.mem_of_getElem? (i := 973) (by decide +kernel)) (by decide +kernel)
theorem mw_974 : Cond.instanceMethod yX10_reach ∈ UW := uw_mem (List.mem_of_getElem? (i := 974) (by decide +kernel)) (by decide +kernel)
theorem mw_975 : Cond.selects RX10 yX10_reach yX10_reach ∈ UW := uw_mem (List.mem_of_getElem? (i := 975) (by decide +kernel)) (by decide +kernel)
theorem mw_976 : Cond.code yX10_reach cX10_reach 5 (some .int) ∈ UW := uw_mem (List.mem_of_getElem? (i := 976) (by decide +kernel)) (by decide +kernel)
theorem mw_977 : Cond.methodLink RL 68 yX10_youth ∈ UW := uw_mem (List.mem_of_getElem? (i := 977) (by decide +kernel)) (by decide +kernel)
theorem mw_978 : Cond.instanceMethod yX10_youth ∈ UW := uw_mem (List.mem_of_getElem? (i := 978) (by decide +kernel)) (by decide +kernel)
theorem mw_979 : Cond.selects RX10 yX10_youth yX10_youth ∈ UW := uw_mem (List.mem_of_getElem? (i := 979) (by decide +kernel)) (by decide +kernel)
theorem mw_980 : Cond.code yX10_youth cX10_youth 7 (some .int) ∈ UW := uw_mem (List.mem_of_getElem? (i := 980) (by decide +kernel)) (by decide +kernel)
theorem mw_981 : Cond.methodLink RL 72 yX10_stands ∈ UW := uw_mem (List.mem_of_getElem? (i := 981) (by decide +kernel)) (by decide +kernel)
theorem mw_982 : Cond.instanceMethod yX10_stands ∈ UW := uw_mem (List.mem_of_getElem? (i := 982) (by decide +kernel)) (by decide +kernel)
theorem mw_983 : Cond.selects RX10 yX10_stands yX10_stands ∈ UW := uw_mem (List.mem_of_getElem? (i := 983) (by decide +kernel)) (by decide +kernel)
theorem mw_984 : Cond.code yX10_stands cX10_stands 1 (some .int) ∈ UW := uw_mem (List.mem_of_getElem? (i := 984) (by decide +kernel)) (by decide +kernel)
theorem mw_985 : Cond.methodLink RX10 232 yX10_findStands ∈ UW := uw_mem (List.mem_of_getElem? (i := 985) (by decide +kernel)) (by decide +kernel)
theorem mw_987 : Cond.instanceMethod yX10_findStands ∈ UW := uw_mem (List.mem_of_getElem? (i := 987) (by decide +kernel)) (by decide +kernel)
theorem mw_988 : Cond.code yX10_findStands cX10_findStands 5 (some .boolean) ∈ UW := uw_mem (List.mem_of_getElem? (i := 988) (by decide +kernel)) (by decide +kernel)
theorem mw_989 : Cond.methodLink RX10 229 yX10_addStand ∈ UW := uw_mem (List.mem_of_getElem? (i := 989) (by decide +kernel)) (by decide +kernel)
theorem mw_991 : Cond.instanceMethod yX10_addStand ∈ UW := uw_mem (List.mem_of_getElem? (i := 991) (by decide +kernel)) (by decide +kernel)
theorem mw_992 : Cond.code yX10_addStand cX10_addStand 4 none ∈ UW := uw_mem (List.mem_of_getElem? (i := 992) (by decide +kernel)) (by decide +kernel)
theorem mw_993 : Cond.methodLink RX10 223 yX10_placeOf ∈ UW := uw_mem (List.mem_of_getElem? (i := 993) (by decide +kernel)) (by decide +kernel)
theorem mw_995 : Cond.instanceMethod yX10_placeOf ∈ UW := uw_mem (List.mem_of_getElem? (i := 995) (by decide +kernel)) (by decide +kernel)
theorem mw_996 : Cond.code yX10_placeOf cX10_placeOf 4 (some .int) ∈ UW := uw_mem (List.mem_of_getElem? (i := 996) (by decide +kernel)) (by decide +kernel)
theorem mw_997 : Cond.constantLong RX10 220 (-7046029254386353131) ∈ UW := uw_mem (List.mem_of_getElem? (i := 997) (by decide +kernel)) (by decide +kernel)
theorem mw_998 : Cond.constant RX10 222 (65535) ∈ UW := uw_mem (List.mem_of_getElem? (i := 998) (by decide +kernel)) (by decide +kernel)
theorem mw_999 : Cond.methodLink RL 76 yX10_solve ∈ UW := uw_mem (List.mem_of_getElem? (i := 999) (by decide +kernel)) (by decide +kernel)
theorem mw_1000 : Cond.instanceMethod yX10_solve ∈ UW := uw_mem (List.mem_of_getElem? (i := 1000) (by decide +kernel)) (by decide +kernel)
theorem mw_1001 : Cond.selects RX10 yX10_solve yX10_solve ∈ UW := uw_mem (List.mem_of_getElem? (i := 1001) (by decide +kernel)) (by decide +kernel)
theorem mw_1002 : Cond.code yX10_solve cX10_solve 2 (some .int) ∈ UW := uw_mem (List.mem_of_getElem? (i := 1002) (by decide +kernel)) (by decide +kernel)
theorem mw_1003 : Cond.constantLong RX10 247 (2) ∈ UW := uw_mem (List.mem_of_getElem? (i := 1003) (by decide +kernel)) (by decide +kernel)
theorem mw_1004 : Cond.methodLink RX10 249 yX10_solveAll ∈ UW := uw_mem (List.mem_of_getElem? (i := 1004) (by decide +kernel)) (by decide +kernel)
theorem mw_1006 : Cond.instanceMethod yX10_solveAll ∈ UW := uw_mem (List.mem_of_getElem? (i := 1006) (by decide +kernel)) (by decide +kernel)
theorem mw_1007 : Cond.code yX10_solveAll cX10_solveAll 5 (some .boolean) ∈ UW := uw_mem (List.mem_of_getElem? (i := 1007) (by decide +kernel)) (by decide +kernel)
theorem mw_1008 : Cond.methodLink RX10 236 yX10_oldness ∈ UW := uw_mem (List.mem_of_getElem? (i := 1008) (by decide +kernel)) (by decide +kernel)
theorem mw_1009 : Cond.static yX10_oldness ∈ UW := uw_mem (List.mem_of_getElem? (i := 1009) (by decide +kernel)) (by decide +kernel)
theorem mw_1010 : Cond.code yX10_oldness cX10_oldness 4 (some .int) ∈ UW := uw_mem (List.mem_of_getElem? (i := 1010) (by decide +kernel)) (by decide +kernel)
theorem mw_1011 : Cond.methodLink RX10 239 yX10_solveOne ∈ UW := uw_mem (List.mem_of_getElem? (i := 1011) (by decide +kernel)) (by decide +kernel)
theorem mw_1013 : Cond.instanceMethod yX10_solveOne ∈ UW := uw_mem (List.mem_of_getElem? (i := 1013) (by decide +kernel)) (by decide +kernel)
theorem mw_1014 : Cond.code yX10_solveOne cX10_solveOne 7 none ∈ UW := uw_mem (List.mem_of_getElem? (i := 1014) (by decide +kernel)) (by decide +kernel)
theorem mw_1015 : Cond.methodLink RX10 243 yX10_isBetter ∈ UW := uw_mem (List.mem_of_getElem? (i := 1015) (by decide +kernel)) (by decide +kernel)
theorem mw_1016 : Cond.static yX10_isBetter ∈ UW := uw_mem (List.mem_of_getElem? (i := 1016) (by decide +kernel)) (by decide +kernel)
theorem mw_1017 : Cond.code yX10_isBetter cX10_isBetter 4 (some .boolean) ∈ UW := uw_mem (List.mem_of_getElem? (i := 1017) (by decide +kernel)) (by decide +kernel)
theorem mw_1018 : Cond.methodLink RL 80 yX10_keys ∈ UW := uw_mem (List.mem_of_getElem? (i := 1018) (by decide +kernel)) (by decide +kernel)
theorem mw_1019 : Cond.instanceMethod yX10_keys ∈ UW := uw_mem (List.mem_of_getElem? (i := 1019) (by decide +kernel)) (by decide +kernel)
theorem mw_1020 : Cond.selects RX10 yX10_keys yX10_keys ∈ UW := uw_mem (List.mem_of_getElem? (i := 1020) (by decide +kernel)) (by decide +kernel)
theorem mw_1021 : Cond.code yX10_keys cX10_keys 6 (some .int) ∈ UW := uw_mem (List.mem_of_getElem? (i := 1021) (by decide +kernel)) (by decide +kernel)
theorem mw_1022 : Cond.methodLink RX10 255 yX10_isKey ∈ UW := uw_mem (List.mem_of_getElem? (i := 1022) (by decide +kernel)) (by decide +kernel)
theorem mw_1024 : Cond.instanceMethod yX10_isKey ∈ UW := uw_mem (List.mem_of_getElem? (i := 1024) (by decide +kernel)) (by decide +kernel)
theorem mw_1025 : Cond.code yX10_isKey cX10_isKey 8 (some .boolean) ∈ UW := uw_mem (List.mem_of_getElem? (i := 1025) (by decide +kernel)) (by decide +kernel)
theorem mw_1026 : Cond.methodLink RX10 252 yX10_winsAtOnce ∈ UW := uw_mem (List.mem_of_getElem? (i := 1026) (by decide +kernel)) (by decide +kernel)
theorem mw_1028 : Cond.instanceMethod yX10_winsAtOnce ∈ UW := uw_mem (List.mem_of_getElem? (i := 1028) (by decide +kernel)) (by decide +kernel)
theorem mw_1029 : Cond.code yX10_winsAtOnce cX10_winsAtOnce 5 (some .boolean) ∈ UW := uw_mem (List.mem_of_getElem? (i := 1029) (by decide +kernel)) (by decide +kernel)
theorem mw_1030 : Cond.methodLink RL 84 yX10_even ∈ UW := uw_mem (List.mem_of_getElem? (i := 1030) (by decide +kernel)) (by decide +kernel)
theorem mw_1031 : Cond.instanceMethod yX10_even ∈ UW := uw_mem (List.mem_of_getElem? (i := 1031) (by decide +kernel)) (by decide +kernel)
theorem mw_1032 : Cond.selects RX10 yX10_even yX10_even ∈ UW := uw_mem (List.mem_of_getElem? (i := 1032) (by decide +kernel)) (by decide +kernel)
theorem mw_1033 : Cond.code yX10_even cX10_even 5 (some .int) ∈ UW := uw_mem (List.mem_of_getElem? (i := 1033) (by decide +kernel)) (by decide +kernel)
theorem mw_1034 : Cond.methodLink RL 88 yX10_book ∈ UW := uw_mem (List.mem_of_getElem? (i := 1034) (by decide +kernel)) (by decide +kernel)
theorem mw_1035 : Cond.instanceMethod yX10_book ∈ UW := uw_mem (List.mem_of_getElem? (i := 1035) (by decide +kernel)) (by decide +kernel)
theorem mw_1036 : Cond.selects RX10 yX10_book yX10_book ∈ UW := uw_mem (List.mem_of_getElem? (i := 1036) (by decide +kernel)) (by decide +kernel)
theorem mw_1037 : Cond.code yX10_book cX10_book 2 (some .int) ∈ UW := uw_mem (List.mem_of_getElem? (i := 1037) (by decide +kernel)) (by decide +kernel)
theorem mw_1038 : Cond.methodLink RX10 261 yX10_numberAt ∈ UW := uw_mem (List.mem_of_getElem? (i := 1038) (by decide +kernel)) (by decide +kernel)
theorem mw_1040 : Cond.instanceMethod yX10_numberAt ∈ UW := uw_mem (List.mem_of_getElem? (i := 1040) (by decide +kernel)) (by decide +kernel)
theorem mw_1041 : Cond.code yX10_numberAt cX10_numberAt 2 (some .int) ∈ UW := uw_mem (List.mem_of_getElem? (i := 1041) (by decide +kernel)) (by decide +kernel)
theorem mw_1042 : Cond.methodLink RL 92 yX10_booked ∈ UW := uw_mem (List.mem_of_getElem? (i := 1042) (by decide +kernel)) (by decide +kernel)
theorem mw_1043 : Cond.instanceMethod yX10_booked ∈ UW := uw_mem (List.mem_of_getElem? (i := 1043) (by decide +kernel)) (by decide +kernel)
theorem mw_1044 : Cond.selects RX10 yX10_booked yX10_booked ∈ UW := uw_mem (List.mem_of_getElem? (i := 1044) (by decide +kernel)) (by decide +kernel)
theorem mw_1045 : Cond.code yX10_booked cX10_booked 3 (some .int) ∈ UW := uw_mem (List.mem_of_getElem? (i := 1045) (by decide +kernel)) (by decide +kernel)
theorem mw_1046 : Cond.constantLong RX10 264 (10) ∈ UW := uw_mem (List.mem_of_getElem? (i := 1046) (by decide +kernel)) (by decide +kernel)
theorem mw_1047 : Cond.constantLong RX10 266 (21) ∈ UW := uw_mem (List.mem_of_getElem? (i := 1047) (by decide +kernel)) (by decide +kernel)
theorem mw_1048 : Cond.methodLink RL 96 yX10_next ∈ UW := uw_mem (List.mem_of_getElem? (i := 1048) (by decide +kernel)) (by decide +kernel)
theorem mw_1049 : Cond.instanceMethod yX10_next ∈ UW := uw_mem (List.mem_of_getElem? (i := 1049) (by decide +kernel)) (by decide +kernel)
theorem mw_1050 : Cond.selects RX10 yX10_next yX10_next ∈ UW := uw_mem (List.mem_of_getElem? (i := 1050) (by decide +kernel)) (by decide +kernel)
theorem mw_1051 : Cond.code yX10_next cX10_next 9 (some .int) ∈ UW := uw_mem (List.mem_of_getElem? (i := 1051) (by decide +kernel)) (by decide +kernel)
theorem mw_1052 : Cond.constantLong RX10 271 (4) ∈ UW := uw_mem (List.mem_of_getElem? (i := 1052) (by decide +kernel)) (by decide +kernel)
theorem mw_1053 : Cond.methodLink RX10 268 yX10_beginsSo ∈ UW := uw_mem (List.mem_of_getElem? (i := 1053) (by decide +kernel)) (by decide +kernel)
theorem mw_1055 : Cond.instanceMethod yX10_beginsSo ∈ UW := uw_mem (List.mem_of_getElem? (i := 1055) (by decide +kernel)) (by decide +kernel)
theorem mw_1056 : Cond.code yX10_beginsSo cX10_beginsSo 5 (some .boolean) ∈ UW := uw_mem (List.mem_of_getElem? (i := 1056) (by decide +kernel)) (by decide +kernel)
theorem mw_1057 : Cond.methodLink RX10 273 yX10_goOnWith ∈ UW := uw_mem (List.mem_of_getElem? (i := 1057) (by decide +kernel)) (by decide +kernel)
theorem mw_1059 : Cond.instanceMethod yX10_goOnWith ∈ UW := uw_mem (List.mem_of_getElem? (i := 1059) (by decide +kernel)) (by decide +kernel)
theorem mw_1060 : Cond.code yX10_goOnWith cX10_goOnWith 4 (some .int) ∈ UW := uw_mem (List.mem_of_getElem? (i := 1060) (by decide +kernel)) (by decide +kernel)
theorem mw_1061 : Cond.methodLink RL 100 yX10_drawn ∈ UW := uw_mem (List.mem_of_getElem? (i := 1061) (by decide +kernel)) (by decide +kernel)
theorem mw_1062 : Cond.instanceMethod yX10_drawn ∈ UW := uw_mem (List.mem_of_getElem? (i := 1062) (by decide +kernel)) (by decide +kernel)
theorem mw_1063 : Cond.selects RX10 yX10_drawn yX10_drawn ∈ UW := uw_mem (List.mem_of_getElem? (i := 1063) (by decide +kernel)) (by decide +kernel)
theorem mw_1064 : Cond.code yX10_drawn cX10_drawn 8 (some .int) ∈ UW := uw_mem (List.mem_of_getElem? (i := 1064) (by decide +kernel)) (by decide +kernel)
theorem mw_1065 : Cond.constantLong RX10 276 (9999) ∈ UW := uw_mem (List.mem_of_getElem? (i := 1065) (by decide +kernel)) (by decide +kernel)
theorem mw_1066 : Cond.constantLong RX10 278 (75) ∈ UW := uw_mem (List.mem_of_getElem? (i := 1066) (by decide +kernel)) (by decide +kernel)
theorem mw_1067 : Cond.constantLong RX10 280 (74) ∈ UW := uw_mem (List.mem_of_getElem? (i := 1067) (by decide +kernel)) (by decide +kernel)
theorem mw_1068 : Cond.constantLong RX10 282 (65537) ∈ UW := uw_mem (List.mem_of_getElem? (i := 1068) (by decide +kernel)) (by decide +kernel)
theorem mw_1069 : Cond.methodLink RL 104 yX10_mirror ∈ UW := uw_mem (List.mem_of_getElem? (i := 1069) (by decide +kernel)) (by decide +kernel)
theorem mw_1070 : Cond.instanceMethod yX10_mirror ∈ UW := uw_mem (List.mem_of_getElem? (i := 1070) (by decide +kernel)) (by decide +kernel)
theorem mw_1071 : Cond.selects RX10 yX10_mirror yX10_mirror ∈ UW := uw_mem (List.mem_of_getElem? (i := 1071) (by decide +kernel)) (by decide +kernel)
theorem mw_1072 : Cond.code yX10_mirror cX10_mirror 2 (some .int) ∈ UW := uw_mem (List.mem_of_getElem? (i := 1072) (by decide +kernel)) (by decide +kernel)
theorem mw_1073 : Cond.constantLong RX10 284 (3) ∈ UW := uw_mem (List.mem_of_getElem? (i := 1073) (by decide +kernel)) (by decide +kernel)
theorem mw_1074 : Cond.methodLink RX10 286 yX10_mirrored ∈ UW := uw_mem (List.mem_of_getElem? (i := 1074) (by decide +kernel)) (by decide +kernel)
theorem mw_1075 : Cond.static yX10_mirrored ∈ UW := uw_mem (List.mem_of_getElem? (i := 1075) (by decide +kernel)) (by decide +kernel)
theorem mw_1076 : Cond.code yX10_mirrored cX10_mirrored 9 (some .long) ∈ UW := uw_mem (List.mem_of_getElem? (i := 1076) (by decide +kernel)) (by decide +kernel)
theorem mw_1077 : Cond.methodLink RL 108 yX10_like ∈ UW := uw_mem (List.mem_of_getElem? (i := 1077) (by decide +kernel)) (by decide +kernel)
theorem mw_1078 : Cond.instanceMethod yX10_like ∈ UW := uw_mem (List.mem_of_getElem? (i := 1078) (by decide +kernel)) (by decide +kernel)
theorem mw_1079 : Cond.selects RX10 yX10_like yX10_like ∈ UW := uw_mem (List.mem_of_getElem? (i := 1079) (by decide +kernel)) (by decide +kernel)
theorem mw_1080 : Cond.code yX10_like cX10_like 3 (some .int) ∈ UW := uw_mem (List.mem_of_getElem? (i := 1080) (by decide +kernel)) (by decide +kernel)
theorem mw_1081 : Cond.methodLink RL 112 yX10_image ∈ UW := uw_mem (List.mem_of_getElem? (i := 1081) (by decide +kernel)) (by decide +kernel)
theorem mw_1082 : Cond.instanceMethod yX10_image ∈ UW := uw_mem (List.mem_of_getElem? (i := 1082) (by decide +kernel)) (by decide +kernel)
theorem mw_1083 : Cond.selects RX10 yX10_image yX10_image ∈ UW := uw_mem (List.mem_of_getElem? (i := 1083) (by decide +kernel)) (by decide +kernel)
theorem mw_1084 : Cond.code yX10_image cX10_image 2 (some .int) ∈ UW := uw_mem (List.mem_of_getElem? (i := 1084) (by decide +kernel)) (by decide +kernel)
theorem mw_1085 : Cond.methodLink RX10 300 yX10_passAll ∈ UW := uw_mem (List.mem_of_getElem? (i := 1085) (by decide +kernel)) (by decide +kernel)
theorem mw_1087 : Cond.instanceMethod yX10_passAll ∈ UW := uw_mem (List.mem_of_getElem? (i := 1087) (by decide +kernel)) (by decide +kernel)
theorem mw_1088 : Cond.code yX10_passAll cX10_passAll 4 none ∈ UW := uw_mem (List.mem_of_getElem? (i := 1088) (by decide +kernel)) (by decide +kernel)
theorem mw_1089 : Cond.methodLink RX10 297 yX10_pass ∈ UW := uw_mem (List.mem_of_getElem? (i := 1089) (by decide +kernel)) (by decide +kernel)
theorem mw_1091 : Cond.instanceMethod yX10_pass ∈ UW := uw_mem (List.mem_of_getElem? (i := 1091) (by decide +kernel)) (by decide +kernel)
theorem mw_1092 : Cond.code yX10_pass cX10_pass 3 (some .int) ∈ UW := uw_mem (List.mem_of_getElem? (i := 1092) (by decide +kernel)) (by decide +kernel)
theorem mw_1093 : Cond.methodLink RL 116 yX10_restore ∈ UW := uw_mem (List.mem_of_getElem? (i := 1093) (by decide +kernel)) (by decide +kernel)
theorem mw_1094 : Cond.instanceMethod yX10_restore ∈ UW := uw_mem (List.mem_of_getElem? (i := 1094) (by decide +kernel)) (by decide +kernel)
theorem mw_1095 : Cond.selects RX10 yX10_restore yX10_restore ∈ UW := uw_mem (List.mem_of_getElem? (i := 1095) (by decide +kernel)) (by decide +kernel)
theorem mw_1096 : Cond.code yX10_restore cX10_restore 2 (some .int) ∈ UW := uw_mem (List.mem_of_getElem? (i := 1096) (by decide +kernel)) (by decide +kernel)
theorem mw_1097 : Cond.methodLink RL 120 yX10_told ∈ UW := uw_mem (List.mem_of_getElem? (i := 1097) (by decide +kernel)) (by decide +kernel)
theorem mw_1098 : Cond.instanceMethod yX10_told ∈ UW := uw_mem (List.mem_of_getElem? (i := 1098) (by decide +kernel)) (by decide +kernel)
theorem mw_1099 : Cond.selects RX10 yX10_told yX10_told ∈ UW := uw_mem (List.mem_of_getElem? (i := 1099) (by decide +kernel)) (by decide +kernel)
theorem mw_1100 : Cond.code yX10_told cX10_told 2 (some .int) ∈ UW := uw_mem (List.mem_of_getElem? (i := 1100) (by decide +kernel)) (by decide +kernel)
theorem mw_1101 : Cond.constantLong RX10 303 (15) ∈ UW := uw_mem (List.mem_of_getElem? (i := 1101) (by decide +kernel)) (by decide +kernel)
theorem mw_1102 : Cond.constantLong RX10 305 (20) ∈ UW := uw_mem (List.mem_of_getElem? (i := 1102) (by decide +kernel)) (by decide +kernel)
theorem mw_1103 : Cond.constantLong RX10 307 (25) ∈ UW := uw_mem (List.mem_of_getElem? (i := 1103) (by decide +kernel)) (by decide +kernel)
def nestW : List Cond := [Cond.methodLinkNest RX9 11 yX3_init "AgingMen", Cond.fieldLinkNest RX9 78 "AgingMen$Pad" "size" "I" "AgingMen", Cond.methodLinkNest RX9 18 yX5_init "AgingMen", Cond.fieldLinkNest RX9 261 "AgingMen$Rules" "boys" "I" "AgingMen", Cond.fieldLinkNest RX9 264 "AgingMen$Rules" "grown" "I" "AgingMen", Cond.fieldLinkNest RX9 267 "AgingMen$Rules" "old" "I" "AgingMen", Cond.methodLinkNest RX9 25 yX0_init "AgingMen", Cond.fieldLinkNest RX9 210 "AgingMen$Book" "count" "I" "AgingMen", Cond.methodLinkNest RX9 32 yX2_init "AgingMen", Cond.fieldLinkNest RX9 138 "AgingMen$Judge" "firstBad" "I" "AgingMen", Cond.fieldLinkNest RX9 141 "AgingMen$Judge" "reason" "I" "AgingMen", Cond.fieldLinkNest RX9 151 "AgingMen$Judge" "end" "J" "AgingMen", Cond.methodLinkNest RX9 39 yX4_init "AgingMen", Cond.fieldLinkNest RX9 207 "AgingMen$Problem" "found" "[I" "AgingMen", Cond.fieldLinkNest RX9 206 "AgingMen$Problem" "count" "I" "AgingMen", Cond.methodLinkNest RX9 46 yX1_init "AgingMen", Cond.methodLinkNest RX1 9 yX0_init "AgingMen", Cond.fieldLinkNest RX9 256 "AgingMen$Image" "shelf" "LAgingMen$Book;" "AgingMen", Cond.fieldLinkNest RX9 249 "AgingMen$Image" "kept" "Z" "AgingMen", Cond.fieldLinkNest RX9 252 "AgingMen$Image" "stand" "J" "AgingMen", Cond.fieldLinkNest RX9 253 "AgingMen$Image" "law" "I" "AgingMen", Cond.methodLinkNest RX9 201 yX7_init "AgingMen", Cond.fieldLinkNest RX9 184 "AgingMen$Solver" "count" "I" "AgingMen", Cond.fieldLinkNest RX9 180 "AgingMen$Solver" "full" "Z" "AgingMen", Cond.fieldLinkNest RX9 190 "AgingMen$Solver" "score" "I" "AgingMen", Cond.fieldLinkNest RX9 187 "AgingMen$Solver" "bestMove" "I" "AgingMen"]
theorem uin_X0 : ∀ w ∈ u_ws RX0 TX0 5, w ∈ UW := fun w h => uw_mem ((by decide +kernel : ∀ w ∈ u_ws RX0 TX0 5, w ∈ lw_tbl) w h) ((by decide +kernel : ∀ w ∈ u_ws RX0 TX0 5, goodWord w = true) w h)
theorem uin_X1 : ∀ w ∈ u_ws RX1 TX1 4, w ∈ UW := fun w h => uw_mem ((by decide +kernel : ∀ w ∈ u_ws RX1 TX1 4, w ∈ lw_tbl) w h) ((by decide +kernel : ∀ w ∈ u_ws RX1 TX1 4, goodWord w = true) w h)
theorem uin_X2 : ∀ w ∈ u_ws RX2 TX2 3, w ∈ UW := fun w h => uw_mem ((by decide +kernel : ∀ w ∈ u_ws RX2 TX2 3, w ∈ lw_tbl) w h) ((by decide +kernel : ∀ w ∈ u_ws RX2 TX2 3, goodWord w = true) w h)
theorem uin_X3 : ∀ w ∈ u_ws RX3 TX3 2, w ∈ UW := fun w h => uw_mem ((by decide +kernel : ∀ w ∈ u_ws RX3 TX3 2, w ∈ lw_tbl) w h) ((by decide +kernel : ∀ w ∈ u_ws RX3 TX3 2, goodWord w = true) w h)
theorem uin_X4 : ∀ w ∈ u_ws RX4 TX4 8, w ∈ UW := fun w h => uw_mem ((by decide +kernel : ∀ w ∈ u_ws RX4 TX4 8, w ∈ lw_tbl) w h) ((by decide +kernel : ∀ w ∈ u_ws RX4 TX4 8, goodWord w = true) w h)
theorem uin_X5 : ∀ w ∈ u_ws RX5 TX5 3, w ∈ UW := fun w h => uw_mem ((by decide +kernel : ∀ w ∈ u_ws RX5 TX5 3, w ∈ lw_tbl) w h) ((by decide +kernel : ∀ w ∈ u_ws RX5 TX5 3, goodWord w = true) w h)
theorem uin_X7 : ∀ w ∈ u_ws RX7 TX7 16, w ∈ UW := fun w h => uw_mem ((by decide +kernel : ∀ w ∈ u_ws RX7 TX7 16, w ∈ lw_tbl) w h) ((by decide +kernel : ∀ w ∈ u_ws RX7 TX7 16, goodWord w = true) w h)
theorem uin_X9 : ∀ w ∈ u_ws RX9 TX9 10, w ∈ UW := fun w h => uw_mem ((by decide +kernel : ∀ w ∈ u_ws RX9 TX9 10, w ∈ lw_tbl) w h) ((by decide +kernel : ∀ w ∈ u_ws RX9 TX9 10, goodWord w = true) w h)
theorem uin_X10 : ∀ w ∈ u_ws RX10 TX10 32, w ∈ UW := fun w h => uw_mem ((by decide +kernel : ∀ w ∈ u_ws RX10 TX10 32, w ∈ lw_tbl) w h) ((by decide +kernel : ∀ w ∈ u_ws RX10 TX10 32, goodWord w = true) w h)
def FLp (own : String) (index ci : Nat) (C : String) (T : u_T) (N k : Nat) : Prop := vwCl[ci]? = some (C, T, N) ∧ k < N ∧ (∀ w ∈ u_ws C T N, w ∈ UW) ∧ (T k).1 = C ∧ Cond.fieldLink own index C (T k).2.1 (T k).2.2.1 ∈ UW
def FLn (own : String) (index ci : Nat) (C : String) (T : u_T) (N k : Nat) (host : String) : Prop := vwCl[ci]? = some (C, T, N) ∧ k < N ∧ (∀ w ∈ u_ws C T N, w ∈ UW) ∧ (T k).1 = C ∧ Cond.fieldLinkNest own index C (T k).2.1 (T k).2.2.1 host ∈ nestW
def FTp (T : u_T) (N k : Nat) (ty : FieldType) : Prop := (∃ ty0 : Nat → FieldType, ∀ k, k < N → parseFieldDescriptor (T k).2.2.1 = some (ty0 k)) ∧ (∀ a, a < N → ∀ b, b < N → a ≠ b → (T a).2.1 ≠ (T b).2.1) ∧ parseFieldDescriptor (T k).2.2.1 = some ty
theorem ft_X0_0 : FTp TX0 5 0 (.array .long) := ⟨⟨tyX0, tyX0_ok⟩, nmX0, by decide +kernel⟩
theorem ft_X0_1 : FTp TX0 5 1 (.array .int) := ⟨⟨tyX0, tyX0_ok⟩, nmX0, by decide +kernel⟩
theorem ft_X0_2 : FTp TX0 5 2 (.array .int) := ⟨⟨tyX0, tyX0_ok⟩, nmX0, by decide +kernel⟩
theorem ft_X0_3 : FTp TX0 5 3 (.array .int) := ⟨⟨tyX0, tyX0_ok⟩, nmX0, by decide +kernel⟩
theorem ft_X0_4 : FTp TX0 5 4 .int := ⟨⟨tyX0, tyX0_ok⟩, nmX0, by decide +kernel⟩
theorem ft_X1_0 : FTp TX1 4 0 (.object "AgingMen$Book") := ⟨⟨tyX1, tyX1_ok⟩, nmX1, by decide +kernel⟩
theorem ft_X1_1 : FTp TX1 4 1 .boolean := ⟨⟨tyX1, tyX1_ok⟩, nmX1, by decide +kernel⟩
theorem ft_X1_2 : FTp TX1 4 2 .long := ⟨⟨tyX1, tyX1_ok⟩, nmX1, by decide +kernel⟩
theorem ft_X1_3 : FTp TX1 4 3 .int := ⟨⟨tyX1, tyX1_ok⟩, nmX1, by decide +kernel⟩
theorem ft_X2_0 : FTp TX2 3 0 .int := ⟨⟨tyX2, tyX2_ok⟩, nmX2, by decide +kernel⟩
theorem ft_X2_1 : FTp TX2 3 1 .int := ⟨⟨tyX2, tyX2_ok⟩, nmX2, by decide +kernel⟩
theorem ft_X2_2 : FTp TX2 3 2 .long := ⟨⟨tyX2, tyX2_ok⟩, nmX2, by decide +kernel⟩
theorem ft_X3_0 : FTp TX3 2 0 (.array .byte) := ⟨⟨tyX3, tyX3_ok⟩, nmX3, by decide +kernel⟩
theorem ft_X3_1 : FTp TX3 2 1 .int := ⟨⟨tyX3, tyX3_ok⟩, nmX3, by decide +kernel⟩
theorem ft_X4_0 : FTp TX4 8 0 (.array .int) := ⟨⟨tyX4, tyX4_ok⟩, nmX4, by decide +kernel⟩
theorem ft_X4_1 : FTp TX4 8 1 (.array .int) := ⟨⟨tyX4, tyX4_ok⟩, nmX4, by decide +kernel⟩
theorem ft_X4_2 : FTp TX4 8 2 (.array .int) := ⟨⟨tyX4, tyX4_ok⟩, nmX4, by decide +kernel⟩
theorem ft_X4_3 : FTp TX4 8 3 (.array .int) := ⟨⟨tyX4, tyX4_ok⟩, nmX4, by decide +kernel⟩
theorem ft_X4_4 : FTp TX4 8 4 .int := ⟨⟨tyX4, tyX4_ok⟩, nmX4, by decide +kernel⟩
theorem ft_X4_5 : FTp TX4 8 5 .long := ⟨⟨tyX4, tyX4_ok⟩, nmX4, by decide +kernel⟩
theorem ft_X4_6 : FTp TX4 8 6 .int := ⟨⟨tyX4, tyX4_ok⟩, nmX4, by decide +kernel⟩
theorem ft_X4_7 : FTp TX4 8 7 .int := ⟨⟨tyX4, tyX4_ok⟩, nmX4, by decide +kernel⟩
theorem ft_X5_0 : FTp TX5 3 0 .int := ⟨⟨tyX5, tyX5_ok⟩, nmX5, by decide +kernel⟩
theorem ft_X5_1 : FTp TX5 3 1 .int := ⟨⟨tyX5, tyX5_ok⟩, nmX5, by decide +kernel⟩
theorem ft_X5_2 : FTp TX5 3 2 .int := ⟨⟨tyX5, tyX5_ok⟩, nmX5, by decide +kernel⟩
theorem ft_X7_0 : FTp TX7 16 0 (.array .long) := ⟨⟨tyX7, tyX7_ok⟩, nmX7, by decide +kernel⟩
theorem ft_X7_1 : FTp TX7 16 1 (.array .int) := ⟨⟨tyX7, tyX7_ok⟩, nmX7, by decide +kernel⟩
theorem ft_X7_2 : FTp TX7 16 2 .int := ⟨⟨tyX7, tyX7_ok⟩, nmX7, by decide +kernel⟩
theorem ft_X7_3 : FTp TX7 16 3 (.array .long) := ⟨⟨tyX7, tyX7_ok⟩, nmX7, by decide +kernel⟩
theorem ft_X7_4 : FTp TX7 16 4 (.array .int) := ⟨⟨tyX7, tyX7_ok⟩, nmX7, by decide +kernel⟩
theorem ft_X7_5 : FTp TX7 16 5 (.array .int) := ⟨⟨tyX7, tyX7_ok⟩, nmX7, by decide +kernel⟩
theorem ft_X7_6 : FTp TX7 16 6 (.array .int) := ⟨⟨tyX7, tyX7_ok⟩, nmX7, by decide +kernel⟩
theorem ft_X7_7 : FTp TX7 16 7 (.array .int) := ⟨⟨tyX7, tyX7_ok⟩, nmX7, by decide +kernel⟩
theorem ft_X7_8 : FTp TX7 16 8 (.array .int) := ⟨⟨tyX7, tyX7_ok⟩, nmX7, by decide +kernel⟩
theorem ft_X7_9 : FTp TX7 16 9 .int := ⟨⟨tyX7, tyX7_ok⟩, nmX7, by decide +kernel⟩
theorem ft_X7_10 : FTp TX7 16 10 .long := ⟨⟨tyX7, tyX7_ok⟩, nmX7, by decide +kernel⟩
theorem ft_X7_11 : FTp TX7 16 11 .int := ⟨⟨tyX7, tyX7_ok⟩, nmX7, by decide +kernel⟩
theorem ft_X7_12 : FTp TX7 16 12 .int := ⟨⟨tyX7, tyX7_ok⟩, nmX7, by decide +kernel⟩
theorem ft_X7_13 : FTp TX7 16 13 .boolean := ⟨⟨tyX7, tyX7_ok⟩, nmX7, by decide +kernel⟩
theorem ft_X7_14 : FTp TX7 16 14 .int := ⟨⟨tyX7, tyX7_ok⟩, nmX7, by decide +kernel⟩
theorem ft_X7_15 : FTp TX7 16 15 .int := ⟨⟨tyX7, tyX7_ok⟩, nmX7, by decide +kernel⟩
theorem ft_X9_0 : FTp TX9 10 0 (.object "AgingMen$Pad") := ⟨⟨tyX9, tyX9_ok⟩, nmX9, by decide +kernel⟩
theorem ft_X9_1 : FTp TX9 10 1 (.object "AgingMen$Rules") := ⟨⟨tyX9, tyX9_ok⟩, nmX9, by decide +kernel⟩
theorem ft_X9_2 : FTp TX9 10 2 (.object "AgingMen$Book") := ⟨⟨tyX9, tyX9_ok⟩, nmX9, by decide +kernel⟩
theorem ft_X9_3 : FTp TX9 10 3 (.object "AgingMen$Judge") := ⟨⟨tyX9, tyX9_ok⟩, nmX9, by decide +kernel⟩
theorem ft_X9_4 : FTp TX9 10 4 (.object "AgingMen$Problem") := ⟨⟨tyX9, tyX9_ok⟩, nmX9, by decide +kernel⟩
theorem ft_X9_5 : FTp TX9 10 5 (.object "AgingMen$Image") := ⟨⟨tyX9, tyX9_ok⟩, nmX9, by decide +kernel⟩
theorem ft_X9_6 : FTp TX9 10 6 (.object "AgingMen$Image") := ⟨⟨tyX9, tyX9_ok⟩, nmX9, by decide +kernel⟩
theorem ft_X9_7 : FTp TX9 10 7 (.array .int) := ⟨⟨tyX9, tyX9_ok⟩, nmX9, by decide +kernel⟩
theorem ft_X9_8 : FTp TX9 10 8 (.object "AgingMen$Solver") := ⟨⟨tyX9, tyX9_ok⟩, nmX9, by decide +kernel⟩
theorem ft_X9_9 : FTp TX9 10 9 .long := ⟨⟨tyX9, tyX9_ok⟩, nmX9, by decide +kernel⟩
theorem ft_X10_0 : FTp TX10 32 0 .long := ⟨⟨tyX10, tyX10_ok⟩, nmX10, by decide +kernel⟩
theorem ft_X10_1 : FTp TX10 32 1 .int := ⟨⟨tyX10, tyX10_ok⟩, nmX10, by decide +kernel⟩
theorem ft_X10_2 : FTp TX10 32 2 .int := ⟨⟨tyX10, tyX10_ok⟩, nmX10, by decide +kernel⟩
theorem ft_X10_3 : FTp TX10 32 3 .int := ⟨⟨tyX10, tyX10_ok⟩, nmX10, by decide +kernel⟩
theorem ft_X10_4 : FTp TX10 32 4 (.array .int) := ⟨⟨tyX10, tyX10_ok⟩, nmX10, by decide +kernel⟩
theorem ft_X10_5 : FTp TX10 32 5 (.array .int) := ⟨⟨tyX10, tyX10_ok⟩, nmX10, by decide +kernel⟩
theorem ft_X10_6 : FTp TX10 32 6 .int := ⟨⟨tyX10, tyX10_ok⟩, nmX10, by decide +kernel⟩
theorem ft_X10_7 : FTp TX10 32 7 (.array .int) := ⟨⟨tyX10, tyX10_ok⟩, nmX10, by decide +kernel⟩
theorem ft_X10_8 : FTp TX10 32 8 .int := ⟨⟨tyX10, tyX10_ok⟩, nmX10, by decide +kernel⟩
theorem ft_X10_9 : FTp TX10 32 9 .long := ⟨⟨tyX10, tyX10_ok⟩, nmX10, by decide +kernel⟩
theorem ft_X10_10 : FTp TX10 32 10 .int := ⟨⟨tyX10, tyX10_ok⟩, nmX10, by decide +kernel⟩
theorem ft_X10_11 : FTp TX10 32 11 .int := ⟨⟨tyX10, tyX10_ok⟩, nmX10, by decide +kernel⟩
theorem ft_X10_12 : FTp TX10 32 12 .long := ⟨⟨tyX10, tyX10_ok⟩, nmX10, by decide +kernel⟩
theorem ft_X10_13 : FTp TX10 32 13 (.array .long) := ⟨⟨tyX10, tyX10_ok⟩, nmX10, by decide +kernel⟩
theorem ft_X10_14 : FTp TX10 32 14 (.array .int) := ⟨⟨tyX10, tyX10_ok⟩, nmX10, by decide +kernel⟩
theorem ft_X10_15 : FTp TX10 32 15 (.array .int) := ⟨⟨tyX10, tyX10_ok⟩, nmX10, by decide +kernel⟩
theorem ft_X10_16 : FTp TX10 32 16 (.array .int) := ⟨⟨tyX10, tyX10_ok⟩, nmX10, by decide +kernel⟩
theorem ft_X10_17 : FTp TX10 32 17 (.array .int) := ⟨⟨tyX10, tyX10_ok⟩, nmX10, by decide +kernel⟩
theorem ft_X10_18 : FTp TX10 32 18 .int := ⟨⟨tyX10, tyX10_ok⟩, nmX10, by decide +kernel⟩
theorem ft_X10_19 : FTp TX10 32 19 (.array .long) := ⟨⟨tyX10, tyX10_ok⟩, nmX10, by decide +kernel⟩
theorem ft_X10_20 : FTp TX10 32 20 (.array .long) := ⟨⟨tyX10, tyX10_ok⟩, nmX10, by decide +kernel⟩
theorem ft_X10_21 : FTp TX10 32 21 (.array .int) := ⟨⟨tyX10, tyX10_ok⟩, nmX10, by decide +kernel⟩
theorem ft_X10_22 : FTp TX10 32 22 (.array .long) := ⟨⟨tyX10, tyX10_ok⟩, nmX10, by decide +kernel⟩
theorem ft_X10_23 : FTp TX10 32 23 (.array .int) := ⟨⟨tyX10, tyX10_ok⟩, nmX10, by decide +kernel⟩
theorem ft_X10_24 : FTp TX10 32 24 (.array .int) := ⟨⟨tyX10, tyX10_ok⟩, nmX10, by decide +kernel⟩
theorem ft_X10_25 : FTp TX10 32 25 (.array .int) := ⟨⟨tyX10, tyX10_ok⟩, nmX10, by decide +kernel⟩
theorem ft_X10_26 : FTp TX10 32 26 .int := ⟨⟨tyX10, tyX10_ok⟩, nmX10, by decide +kernel⟩
theorem ft_X10_27 : FTp TX10 32 27 (.array .long) := ⟨⟨tyX10, tyX10_ok⟩, nmX10, by decide +kernel⟩
theorem ft_X10_28 : FTp TX10 32 28 (.array .int) := ⟨⟨tyX10, tyX10_ok⟩, nmX10, by decide +kernel⟩
theorem ft_X10_29 : FTp TX10 32 29 (.array .boolean) := ⟨⟨tyX10, tyX10_ok⟩, nmX10, by decide +kernel⟩
theorem ft_X10_30 : FTp TX10 32 30 .int := ⟨⟨tyX10, tyX10_ok⟩, nmX10, by decide +kernel⟩
theorem ft_X10_31 : FTp TX10 32 31 .boolean := ⟨⟨tyX10, tyX10_ok⟩, nmX10, by decide +kernel⟩
theorem fl_X3_9 : FLp RX3 9 3 RX3 TX3 2 0 := ⟨rfl, by decide, uin_X3, rfl, mw_73⟩
theorem fl_X3_15 : FLp RX3 15 3 RX3 TX3 2 1 := ⟨rfl, by decide, uin_X3, rfl, mw_74⟩
theorem fl_X9_78 : FLn RX9 78 3 RX3 TX3 2 1 "AgingMen" := ⟨rfl, by decide, uin_X3, rfl, List.mem_of_getElem? (i := 1) rfl⟩
theorem fl_X5_9 : FLp RX5 9 5 RX5 TX5 3 0 := ⟨rfl, by decide, uin_X5, rfl, mw_88⟩
theorem fl_X9_261 : FLn RX9 261 5 RX5 TX5 3 0 "AgingMen" := ⟨rfl, by decide, uin_X5, rfl, List.mem_of_getElem? (i := 3) rfl⟩
theorem fl_X5_15 : FLp RX5 15 5 RX5 TX5 3 1 := ⟨rfl, by decide, uin_X5, rfl, mw_90⟩
theorem fl_X9_264 : FLn RX9 264 5 RX5 TX5 3 1 "AgingMen" := ⟨rfl, by decide, uin_X5, rfl, List.mem_of_getElem? (i := 4) rfl⟩
theorem fl_X5_18 : FLp RX5 18 5 RX5 TX5 3 2 := ⟨rfl, by decide, uin_X5, rfl, mw_92⟩
theorem fl_X9_267 : FLn RX9 267 5 RX5 TX5 3 2 "AgingMen" := ⟨rfl, by decide, uin_X5, rfl, List.mem_of_getElem? (i := 5) rfl⟩
theorem fl_X0_9 : FLp RX0 9 0 RX0 TX0 5 0 := ⟨rfl, by decide, uin_X0, rfl, mw_107⟩
theorem fl_X0_15 : FLp RX0 15 0 RX0 TX0 5 1 := ⟨rfl, by decide, uin_X0, rfl, mw_108⟩
theorem fl_X0_19 : FLp RX0 19 0 RX0 TX0 5 2 := ⟨rfl, by decide, uin_X0, rfl, mw_109⟩
theorem fl_X0_22 : FLp RX0 22 0 RX0 TX0 5 3 := ⟨rfl, by decide, uin_X0, rfl, mw_110⟩
theorem fl_X0_25 : FLp RX0 25 0 RX0 TX0 5 4 := ⟨rfl, by decide, uin_X0, rfl, mw_111⟩
theorem fl_X9_210 : FLn RX9 210 0 RX0 TX0 5 4 "AgingMen" := ⟨rfl, by decide, uin_X0, rfl, List.mem_of_getElem? (i := 7) rfl⟩
theorem fl_X2_9 : FLp RX2 9 2 RX2 TX2 3 0 := ⟨rfl, by decide, uin_X2, rfl, mw_132⟩
theorem fl_X9_138 : FLn RX9 138 2 RX2 TX2 3 0 "AgingMen" := ⟨rfl, by decide, uin_X2, rfl, List.mem_of_getElem? (i := 9) rfl⟩
theorem fl_X2_15 : FLp RX2 15 2 RX2 TX2 3 1 := ⟨rfl, by decide, uin_X2, rfl, mw_134⟩
theorem fl_X9_141 : FLn RX9 141 2 RX2 TX2 3 1 "AgingMen" := ⟨rfl, by decide, uin_X2, rfl, List.mem_of_getElem? (i := 10) rfl⟩
theorem fl_X2_18 : FLp RX2 18 2 RX2 TX2 3 2 := ⟨rfl, by decide, uin_X2, rfl, mw_136⟩
theorem fl_X9_151 : FLn RX9 151 2 RX2 TX2 3 2 "AgingMen" := ⟨rfl, by decide, uin_X2, rfl, List.mem_of_getElem? (i := 11) rfl⟩
theorem fl_X4_9 : FLp RX4 9 4 RX4 TX4 8 0 := ⟨rfl, by decide, uin_X4, rfl, mw_151⟩
theorem fl_X4_15 : FLp RX4 15 4 RX4 TX4 8 1 := ⟨rfl, by decide, uin_X4, rfl, mw_152⟩
theorem fl_X4_18 : FLp RX4 18 4 RX4 TX4 8 2 := ⟨rfl, by decide, uin_X4, rfl, mw_153⟩
theorem fl_X4_21 : FLp RX4 21 4 RX4 TX4 8 3 := ⟨rfl, by decide, uin_X4, rfl, mw_154⟩
theorem fl_X9_207 : FLn RX9 207 4 RX4 TX4 8 3 "AgingMen" := ⟨rfl, by decide, uin_X4, rfl, List.mem_of_getElem? (i := 13) rfl⟩
theorem fl_X4_24 : FLp RX4 24 4 RX4 TX4 8 4 := ⟨rfl, by decide, uin_X4, rfl, mw_156⟩
theorem fl_X9_206 : FLn RX9 206 4 RX4 TX4 8 4 "AgingMen" := ⟨rfl, by decide, uin_X4, rfl, List.mem_of_getElem? (i := 14) rfl⟩
theorem fl_X4_28 : FLp RX4 28 4 RX4 TX4 8 5 := ⟨rfl, by decide, uin_X4, rfl, mw_158⟩
theorem fl_X4_32 : FLp RX4 32 4 RX4 TX4 8 6 := ⟨rfl, by decide, uin_X4, rfl, mw_159⟩
theorem fl_X4_35 : FLp RX4 35 4 RX4 TX4 8 7 := ⟨rfl, by decide, uin_X4, rfl, mw_160⟩
theorem fl_X1_10 : FLp RX1 10 1 RX1 TX1 4 0 := ⟨rfl, by decide, uin_X1, rfl, mw_186⟩
theorem fl_X9_256 : FLn RX9 256 1 RX1 TX1 4 0 "AgingMen" := ⟨rfl, by decide, uin_X1, rfl, List.mem_of_getElem? (i := 17) rfl⟩
theorem fl_X1_16 : FLp RX1 16 1 RX1 TX1 4 1 := ⟨rfl, by decide, uin_X1, rfl, mw_188⟩
theorem fl_X9_249 : FLn RX9 249 1 RX1 TX1 4 1 "AgingMen" := ⟨rfl, by decide, uin_X1, rfl, List.mem_of_getElem? (i := 18) rfl⟩
theorem fl_X1_20 : FLp RX1 20 1 RX1 TX1 4 2 := ⟨rfl, by decide, uin_X1, rfl, mw_190⟩
theorem fl_X9_252 : FLn RX9 252 1 RX1 TX1 4 2 "AgingMen" := ⟨rfl, by decide, uin_X1, rfl, List.mem_of_getElem? (i := 19) rfl⟩
theorem fl_X1_24 : FLp RX1 24 1 RX1 TX1 4 3 := ⟨rfl, by decide, uin_X1, rfl, mw_192⟩
theorem fl_X9_253 : FLn RX9 253 1 RX1 TX1 4 3 "AgingMen" := ⟨rfl, by decide, uin_X1, rfl, List.mem_of_getElem? (i := 20) rfl⟩
theorem fl_X9_12 : FLp RX9 12 7 RX9 TX9 10 0 := ⟨rfl, by decide, uin_X9, rfl, mw_209⟩
theorem fl_X9_19 : FLp RX9 19 7 RX9 TX9 10 1 := ⟨rfl, by decide, uin_X9, rfl, mw_210⟩
theorem fl_X9_26 : FLp RX9 26 7 RX9 TX9 10 2 := ⟨rfl, by decide, uin_X9, rfl, mw_211⟩
theorem fl_X9_33 : FLp RX9 33 7 RX9 TX9 10 3 := ⟨rfl, by decide, uin_X9, rfl, mw_212⟩
theorem fl_X9_40 : FLp RX9 40 7 RX9 TX9 10 4 := ⟨rfl, by decide, uin_X9, rfl, mw_213⟩
theorem fl_X9_47 : FLp RX9 47 7 RX9 TX9 10 5 := ⟨rfl, by decide, uin_X9, rfl, mw_214⟩
theorem fl_X9_51 : FLp RX9 51 7 RX9 TX9 10 6 := ⟨rfl, by decide, uin_X9, rfl, mw_215⟩
theorem fl_X9_54 : FLp RX9 54 7 RX9 TX9 10 7 := ⟨rfl, by decide, uin_X9, rfl, mw_216⟩
theorem fl_X9_58 : FLp RX9 58 7 RX9 TX9 10 8 := ⟨rfl, by decide, uin_X9, rfl, mw_217⟩
theorem fl_X9_70 : FLp RX9 70 7 RX9 TX9 10 9 := ⟨rfl, by decide, uin_X9, rfl, mw_218⟩
theorem fl_X7_12 : FLp RX7 12 6 RX7 TX7 16 0 := ⟨rfl, by decide, uin_X7, rfl, mw_480⟩
theorem fl_X7_16 : FLp RX7 16 6 RX7 TX7 16 1 := ⟨rfl, by decide, uin_X7, rfl, mw_481⟩
theorem fl_X7_20 : FLp RX7 20 6 RX7 TX7 16 2 := ⟨rfl, by decide, uin_X7, rfl, mw_482⟩
theorem fl_X7_24 : FLp RX7 24 6 RX7 TX7 16 3 := ⟨rfl, by decide, uin_X7, rfl, mw_483⟩
theorem fl_X7_27 : FLp RX7 27 6 RX7 TX7 16 4 := ⟨rfl, by decide, uin_X7, rfl, mw_484⟩
theorem fl_X7_30 : FLp RX7 30 6 RX7 TX7 16 5 := ⟨rfl, by decide, uin_X7, rfl, mw_485⟩
theorem fl_X7_33 : FLp RX7 33 6 RX7 TX7 16 6 := ⟨rfl, by decide, uin_X7, rfl, mw_486⟩
theorem fl_X7_36 : FLp RX7 36 6 RX7 TX7 16 7 := ⟨rfl, by decide, uin_X7, rfl, mw_487⟩
theorem fl_X7_39 : FLp RX7 39 6 RX7 TX7 16 8 := ⟨rfl, by decide, uin_X7, rfl, mw_488⟩
theorem fl_X7_42 : FLp RX7 42 6 RX7 TX7 16 9 := ⟨rfl, by decide, uin_X7, rfl, mw_489⟩
theorem fl_X7_45 : FLp RX7 45 6 RX7 TX7 16 10 := ⟨rfl, by decide, uin_X7, rfl, mw_490⟩
theorem fl_X7_49 : FLp RX7 49 6 RX7 TX7 16 11 := ⟨rfl, by decide, uin_X7, rfl, mw_491⟩
theorem fl_X7_52 : FLp RX7 52 6 RX7 TX7 16 12 := ⟨rfl, by decide, uin_X7, rfl, mw_492⟩
theorem fl_X9_184 : FLn RX9 184 6 RX7 TX7 16 12 "AgingMen" := ⟨rfl, by decide, uin_X7, rfl, List.mem_of_getElem? (i := 22) rfl⟩
theorem fl_X7_55 : FLp RX7 55 6 RX7 TX7 16 13 := ⟨rfl, by decide, uin_X7, rfl, mw_494⟩
theorem fl_X9_180 : FLn RX9 180 6 RX7 TX7 16 13 "AgingMen" := ⟨rfl, by decide, uin_X7, rfl, List.mem_of_getElem? (i := 23) rfl⟩
theorem fl_X7_59 : FLp RX7 59 6 RX7 TX7 16 14 := ⟨rfl, by decide, uin_X7, rfl, mw_496⟩
theorem fl_X9_190 : FLn RX9 190 6 RX7 TX7 16 14 "AgingMen" := ⟨rfl, by decide, uin_X7, rfl, List.mem_of_getElem? (i := 24) rfl⟩
theorem fl_X7_62 : FLp RX7 62 6 RX7 TX7 16 15 := ⟨rfl, by decide, uin_X7, rfl, mw_498⟩
theorem fl_X9_187 : FLn RX9 187 6 RX7 TX7 16 15 "AgingMen" := ⟨rfl, by decide, uin_X7, rfl, List.mem_of_getElem? (i := 25) rfl⟩
theorem fl_X10_69 : FLp RX10 69 8 RX10 TX10 32 0 := ⟨rfl, by decide, uin_X10, rfl, mw_729⟩
theorem fl_X10_77 : FLp RX10 77 8 RX10 TX10 32 1 := ⟨rfl, by decide, uin_X10, rfl, mw_730⟩
theorem fl_X10_81 : FLp RX10 81 8 RX10 TX10 32 2 := ⟨rfl, by decide, uin_X10, rfl, mw_731⟩
theorem fl_X10_84 : FLp RX10 84 8 RX10 TX10 32 3 := ⟨rfl, by decide, uin_X10, rfl, mw_732⟩
theorem fl_X10_7 : FLp RX10 7 8 RX10 TX10 32 4 := ⟨rfl, by decide, uin_X10, rfl, mw_733⟩
theorem fl_X10_13 : FLp RX10 13 8 RX10 TX10 32 5 := ⟨rfl, by decide, uin_X10, rfl, mw_734⟩
theorem fl_X10_132 : FLp RX10 132 8 RX10 TX10 32 6 := ⟨rfl, by decide, uin_X10, rfl, mw_735⟩
theorem fl_X10_16 : FLp RX10 16 8 RX10 TX10 32 7 := ⟨rfl, by decide, uin_X10, rfl, mw_736⟩
theorem fl_X10_146 : FLp RX10 146 8 RX10 TX10 32 8 := ⟨rfl, by decide, uin_X10, rfl, mw_737⟩
theorem fl_X10_149 : FLp RX10 149 8 RX10 TX10 32 9 := ⟨rfl, by decide, uin_X10, rfl, mw_738⟩
theorem fl_X10_196 : FLp RX10 196 8 RX10 TX10 32 10 := ⟨rfl, by decide, uin_X10, rfl, mw_739⟩
theorem fl_X10_199 : FLp RX10 199 8 RX10 TX10 32 11 := ⟨rfl, by decide, uin_X10, rfl, mw_740⟩
theorem fl_X10_187 : FLp RX10 187 8 RX10 TX10 32 12 := ⟨rfl, by decide, uin_X10, rfl, mw_741⟩
theorem fl_X10_19 : FLp RX10 19 8 RX10 TX10 32 13 := ⟨rfl, by decide, uin_X10, rfl, mw_742⟩
theorem fl_X10_24 : FLp RX10 24 8 RX10 TX10 32 14 := ⟨rfl, by decide, uin_X10, rfl, mw_743⟩
theorem fl_X10_27 : FLp RX10 27 8 RX10 TX10 32 15 := ⟨rfl, by decide, uin_X10, rfl, mw_744⟩
theorem fl_X10_30 : FLp RX10 30 8 RX10 TX10 32 16 := ⟨rfl, by decide, uin_X10, rfl, mw_745⟩
theorem fl_X10_33 : FLp RX10 33 8 RX10 TX10 32 17 := ⟨rfl, by decide, uin_X10, rfl, mw_746⟩
theorem fl_X10_226 : FLp RX10 226 8 RX10 TX10 32 18 := ⟨rfl, by decide, uin_X10, rfl, mw_747⟩
theorem fl_X10_36 : FLp RX10 36 8 RX10 TX10 32 19 := ⟨rfl, by decide, uin_X10, rfl, mw_748⟩
theorem fl_X10_39 : FLp RX10 39 8 RX10 TX10 32 20 := ⟨rfl, by decide, uin_X10, rfl, mw_749⟩
theorem fl_X10_42 : FLp RX10 42 8 RX10 TX10 32 21 := ⟨rfl, by decide, uin_X10, rfl, mw_750⟩
theorem fl_X10_45 : FLp RX10 45 8 RX10 TX10 32 22 := ⟨rfl, by decide, uin_X10, rfl, mw_751⟩
theorem fl_X10_48 : FLp RX10 48 8 RX10 TX10 32 23 := ⟨rfl, by decide, uin_X10, rfl, mw_752⟩
theorem fl_X10_51 : FLp RX10 51 8 RX10 TX10 32 24 := ⟨rfl, by decide, uin_X10, rfl, mw_753⟩
theorem fl_X10_54 : FLp RX10 54 8 RX10 TX10 32 25 := ⟨rfl, by decide, uin_X10, rfl, mw_754⟩
theorem fl_X10_258 : FLp RX10 258 8 RX10 TX10 32 26 := ⟨rfl, by decide, uin_X10, rfl, mw_755⟩
theorem fl_X10_57 : FLp RX10 57 8 RX10 TX10 32 27 := ⟨rfl, by decide, uin_X10, rfl, mw_756⟩
theorem fl_X10_60 : FLp RX10 60 8 RX10 TX10 32 28 := ⟨rfl, by decide, uin_X10, rfl, mw_757⟩
theorem fl_X10_63 : FLp RX10 63 8 RX10 TX10 32 29 := ⟨rfl, by decide, uin_X10, rfl, mw_758⟩
theorem fl_X10_294 : FLp RX10 294 8 RX10 TX10 32 30 := ⟨rfl, by decide, uin_X10, rfl, mw_759⟩
theorem fl_X10_290 : FLp RX10 290 8 RX10 TX10 32 31 := ⟨rfl, by decide, uin_X10, rfl, mw_760⟩
def okD (y : MethodName) (k : Nat) : Prop := y.cls ≠ "java/lang/invoke/MethodHandle" ∧ y.cls ≠ "java/lang/invoke/VarHandle" ∧ (parseMethodDescriptor y.desc).map (fun d => d.parameters.length) = some k
def SMs (y : MethodName) (b : ByteArray) (n : Nat) (r : Option FieldType) (k : Nat) : Prop := Cond.code y b n r ∈ UW ∧ Cond.static y ∈ UW ∧ Cond.initialized y.cls ∈ UW ∧ okD y k
def SMv (y : MethodName) (b : ByteArray) (n : Nat) (r : Option FieldType) (k : Nat) : Prop := Cond.code y b n r ∈ UW ∧ Cond.instanceMethod y ∈ UW ∧ Cond.selects y.cls y y ∈ UW ∧ Cond.initialized y.cls ∈ UW ∧ okD y k
def SMi (y : MethodName) (b : ByteArray) (n : Nat) (k : Nat) : Prop := Cond.code y b n none ∈ UW ∧ Cond.instanceMethod y ∈ UW ∧ Cond.initialized y.cls ∈ UW ∧ y.name = "<init>" ∧ okD y k
theorem sm_X0_init : SMi yX0_init cX0_init 1 0 := ⟨mw_105, mw_104, mw_48, rfl, by decide +kernel, by decide +kernel, by decide +kernel⟩
theorem sm_X0_add : SMv yX0_add cX0_add 7 (some .int) 3 := ⟨mw_618, mw_616, mw_617, mw_48, by decide +kernel, by decide +kernel, by decide +kernel⟩
theorem sm_X0_moveOnPad : SMs yX0_moveOnPad cX0_moveOnPad 2 (some .int) 2 := ⟨mw_622, mw_621, mw_48, by decide +kernel, by decide +kernel, by decide +kernel⟩
theorem sm_X0_copyFrom : SMv yX0_copyFrom cX0_copyFrom 2 none 1 := ⟨mw_704, mw_702, mw_703, mw_48, by decide +kernel, by decide +kernel, by decide +kernel⟩
theorem sm_X0_has : SMv yX0_has cX0_has 2 (some .boolean) 1 := ⟨mw_636, mw_635, mw_14, mw_48, by decide +kernel, by decide +kernel, by decide +kernel⟩
theorem sm_X0_lengthOf : SMv yX0_lengthOf cX0_lengthOf 2 (some .int) 1 := ⟨mw_632, mw_630, mw_631, mw_48, by decide +kernel, by decide +kernel, by decide +kernel⟩
theorem sm_X0_broughtBy : SMv yX0_broughtBy cX0_broughtBy 2 (some .int) 1 := ⟨mw_640, mw_638, mw_639, mw_48, by decide +kernel, by decide +kernel, by decide +kernel⟩
theorem sm_X0_moveOf : SMv yX0_moveOf cX0_moveOf 3 (some .int) 2 := ⟨mw_644, mw_642, mw_643, mw_48, by decide +kernel, by decide +kernel, by decide +kernel⟩
theorem sm_X0_begins : SMv yX0_begins cX0_begins 6 (some .boolean) 3 := ⟨mw_657, mw_656, mw_15, mw_48, by decide +kernel, by decide +kernel, by decide +kernel⟩
theorem sm_X0_countBegun : SMv yX0_countBegun cX0_countBegun 6 (some .int) 2 := ⟨mw_653, mw_651, mw_652, mw_48, by decide +kernel, by decide +kernel, by decide +kernel⟩
theorem sm_X0_countWon : SMv yX0_countWon cX0_countWon 7 (some .int) 3 := ⟨mw_662, mw_660, mw_661, mw_48, by decide +kernel, by decide +kernel, by decide +kernel⟩
theorem sm_X0_timesPlayed : SMv yX0_timesPlayed cX0_timesPlayed 7 (some .int) 3 := ⟨mw_671, mw_669, mw_670, mw_48, by decide +kernel, by decide +kernel, by decide +kernel⟩
theorem sm_X0_mostPlayed : SMv yX0_mostPlayed cX0_mostPlayed 9 (some .int) 2 := ⟨mw_667, mw_665, mw_666, mw_48, by decide +kernel, by decide +kernel, by decide +kernel⟩
theorem sm_X1_init : SMi yX1_init cX1_init 1 0 := ⟨mw_182, mw_181, mw_51, rfl, by decide +kernel, by decide +kernel, by decide +kernel⟩
theorem sm_X2_init : SMi yX2_init cX2_init 1 0 := ⟨mw_130, mw_129, mw_49, rfl, by decide +kernel, by decide +kernel, by decide +kernel⟩
theorem sm_X2_passes : SMv yX2_passes cX2_passes 7 (some .boolean) 3 := ⟨mw_395, mw_393, mw_394, mw_49, by decide +kernel, by decide +kernel, by decide +kernel⟩
theorem sm_X2_whyNot : SMs yX2_whyNot cX2_whyNot 10 (some .int) 4 := ⟨mw_410, mw_409, mw_49, by decide +kernel, by decide +kernel, by decide +kernel⟩
theorem sm_X3_init : SMi yX3_init cX3_init 1 0 := ⟨mw_71, mw_70, mw_46, rfl, by decide +kernel, by decide +kernel, by decide +kernel⟩
theorem sm_X3_add : SMv yX3_add cX3_add 2 (some .boolean) 1 := ⟨mw_247, mw_245, mw_246, mw_46, by decide +kernel, by decide +kernel, by decide +kernel⟩
theorem sm_X3_clear : SMv yX3_clear cX3_clear 1 none 0 := ⟨mw_255, mw_253, mw_254, mw_46, by decide +kernel, by decide +kernel, by decide +kernel⟩
theorem sm_X3_signAt : SMv yX3_signAt cX3_signAt 2 (some .int) 1 := ⟨mw_267, mw_266, mw_0, mw_46, by decide +kernel, by decide +kernel, by decide +kernel⟩
theorem sm_X3_isColumn : SMs yX3_isColumn cX3_isColumn 1 (some .boolean) 1 := ⟨mw_274, mw_273, mw_46, by decide +kernel, by decide +kernel, by decide +kernel⟩
theorem sm_X3_isLine : SMs yX3_isLine cX3_isLine 1 (some .boolean) 1 := ⟨mw_277, mw_276, mw_46, by decide +kernel, by decide +kernel, by decide +kernel⟩
theorem sm_X3_cellAt : SMv yX3_cellAt cX3_cellAt 2 (some .int) 1 := ⟨mw_281, mw_280, mw_2, mw_46, by decide +kernel, by decide +kernel, by decide +kernel⟩
theorem sm_X3_boardFault : SMv yX3_boardFault cX3_boardFault 6 (some .int) 0 := ⟨mw_263, mw_261, mw_262, mw_46, by decide +kernel, by decide +kernel, by decide +kernel⟩
theorem sm_X3_fitsBoard : SMv yX3_fitsBoard cX3_fitsBoard 5 (some .boolean) 4 := ⟨mw_271, mw_270, mw_1, mw_46, by decide +kernel, by decide +kernel, by decide +kernel⟩
theorem sm_X3_gameFault : SMv yX3_gameFault cX3_gameFault 4 (some .int) 0 := ⟨mw_285, mw_283, mw_284, mw_46, by decide +kernel, by decide +kernel, by decide +kernel⟩
theorem sm_X3_boardTold : SMv yX3_boardTold cX3_boardTold 4 (some .long) 0 := ⟨mw_293, mw_291, mw_292, mw_46, by decide +kernel, by decide +kernel, by decide +kernel⟩
theorem sm_X3_countMoves : SMv yX3_countMoves cX3_countMoves 1 (some .int) 0 := ⟨mw_399, mw_397, mw_398, mw_46, by decide +kernel, by decide +kernel, by decide +kernel⟩
theorem sm_X3_fromAt : SMv yX3_fromAt cX3_fromAt 2 (some .int) 1 := ⟨mw_403, mw_401, mw_402, mw_46, by decide +kernel, by decide +kernel, by decide +kernel⟩
theorem sm_X3_toAt : SMv yX3_toAt cX3_toAt 2 (some .int) 1 := ⟨mw_407, mw_405, mw_406, mw_46, by decide +kernel, by decide +kernel, by decide +kernel⟩
theorem sm_X4_init : SMi yX4_init cX4_init 1 0 := ⟨mw_149, mw_148, mw_50, rfl, by decide +kernel, by decide +kernel, by decide +kernel⟩
theorem sm_X4_find : SMv yX4_find cX4_find 12 none 3 := ⟨mw_592, mw_590, mw_591, mw_50, by decide +kernel, by decide +kernel, by decide +kernel⟩
theorem sm_X4_winsAgainstAll : SMv yX4_winsAgainstAll cX4_winsAgainstAll 6 (some .boolean) 2 := ⟨mw_602, mw_601, mw_12, mw_50, by decide +kernel, by decide +kernel, by decide +kernel⟩
theorem sm_X4_winsAtOnce : SMv yX4_winsAtOnce cX4_winsAtOnce 7 (some .boolean) 2 := ⟨mw_606, mw_605, mw_13, mw_50, by decide +kernel, by decide +kernel, by decide +kernel⟩
theorem sm_X5_init : SMi yX5_init cX5_init 1 0 := ⟨mw_86, mw_85, mw_47, rfl, by decide +kernel, by decide +kernel, by decide +kernel⟩
theorem sm_X5_set : SMv yX5_set cX5_set 4 none 3 := ⟨mw_326, mw_324, mw_325, mw_47, by decide +kernel, by decide +kernel, by decide +kernel⟩
theorem sm_X5_code : SMv yX5_code cX5_code 1 (some .int) 0 := ⟨mw_322, mw_320, mw_321, mw_47, by decide +kernel, by decide +kernel, by decide +kernel⟩
theorem sm_X5_kindOf : SMv yX5_kindOf cX5_kindOf 2 (some .int) 1 := ⟨mw_345, mw_343, mw_344, mw_47, by decide +kernel, by decide +kernel, by decide +kernel⟩
theorem sm_X5_targets : SMv yX5_targets cX5_targets 5 (some .int) 4 := ⟨mw_379, mw_377, mw_378, mw_47, by decide +kernel, by decide +kernel, by decide +kernel⟩
theorem sm_X5_straight : SMs yX5_straight cX5_straight 12 (some .int) 2 := ⟨mw_385, mw_384, mw_47, by decide +kernel, by decide +kernel, by decide +kernel⟩
theorem sm_X5_reachOfSide : SMv yX5_reachOfSide cX5_reachOfSide 8 (some .int) 2 := ⟨mw_372, mw_370, mw_371, mw_47, by decide +kernel, by decide +kernel, by decide +kernel⟩
theorem sm_X5_countBlocked : SMv yX5_countBlocked cX5_countBlocked 8 (some .int) 2 := ⟨mw_464, mw_462, mw_463, mw_47, by decide +kernel, by decide +kernel, by decide +kernel⟩
theorem sm_X5_youthOf : SMv yX5_youthOf cX5_youthOf 6 (some .int) 2 := ⟨mw_457, mw_455, mw_456, mw_47, by decide +kernel, by decide +kernel, by decide +kernel⟩
theorem sm_X5_ending : SMv yX5_ending cX5_ending 4 (some .int) 1 := ⟨mw_363, mw_361, mw_362, mw_47, by decide +kernel, by decide +kernel, by decide +kernel⟩
theorem sm_X5_wonBy : SMs yX5_wonBy cX5_wonBy 1 (some .int) 1 := ⟨mw_367, mw_366, mw_47, by decide +kernel, by decide +kernel, by decide +kernel⟩
theorem sm_X5_list : SMv yX5_list cX5_list 13 (some .int) 3 := ⟨mw_440, mw_438, mw_439, mw_47, by decide +kernel, by decide +kernel, by decide +kernel⟩
theorem sm_X6_atEnd : SMs yX6_atEnd cX6_atEnd 2 (some .int) 2 := ⟨mw_556, mw_555, mw_57, by decide +kernel, by decide +kernel, by decide +kernel⟩
theorem sm_X6_before : SMs yX6_before cX6_before 1 (some .int) 1 := ⟨mw_573, mw_572, mw_57, by decide +kernel, by decide +kernel, by decide +kernel⟩
theorem sm_X6_bringing : SMs yX6_bringing cX6_bringing 1 (some .int) 1 := ⟨mw_581, mw_580, mw_57, by decide +kernel, by decide +kernel, by decide +kernel⟩
theorem sm_X6_length : SMs yX6_length cX6_length 1 (some .int) 1 := ⟨mw_584, mw_583, mw_57, by decide +kernel, by decide +kernel, by decide +kernel⟩
theorem sm_X7_init : SMi yX7_init cX7_init 1 0 := ⟨mw_477, mw_476, mw_56, rfl, by decide +kernel, by decide +kernel, by decide +kernel⟩
theorem sm_X7_goThrough : SMv yX7_goThrough cX7_goThrough 5 none 2 := ⟨mw_536, mw_534, mw_535, mw_56, by decide +kernel, by decide +kernel, by decide +kernel⟩
theorem sm_X7_slotOf : SMv yX7_slotOf cX7_slotOf 6 (some .int) 1 := ⟨mw_541, mw_540, mw_6, mw_56, by decide +kernel, by decide +kernel, by decide +kernel⟩
theorem sm_X7_isFilled : SMv yX7_isFilled cX7_isFilled 2 (some .boolean) 1 := ⟨mw_546, mw_545, mw_7, mw_56, by decide +kernel, by decide +kernel, by decide +kernel⟩
theorem sm_X7_open : SMv yX7_open cX7_open 5 none 3 := ⟨mw_550, mw_549, mw_8, mw_56, by decide +kernel, by decide +kernel, by decide +kernel⟩
theorem sm_X7_goOn : SMv yX7_goOn cX7_goOn 7 none 1 := ⟨mw_562, mw_561, mw_9, mw_56, by decide +kernel, by decide +kernel, by decide +kernel⟩
theorem sm_X7_close : SMv yX7_close cX7_close 3 none 1 := ⟨mw_566, mw_565, mw_10, mw_56, by decide +kernel, by decide +kernel, by decide +kernel⟩
theorem sm_X7_weigh : SMv yX7_weigh cX7_weigh 4 none 2 := ⟨mw_570, mw_569, mw_11, mw_56, by decide +kernel, by decide +kernel, by decide +kernel⟩
theorem sm_X8_cellOf : SMs yX8_cellOf cX8_cellOf 3 (some .int) 2 := ⟨mw_308, mw_307, mw_52, by decide +kernel, by decide +kernel, by decide +kernel⟩
theorem sm_X8_ageOf : SMs yX8_ageOf cX8_ageOf 3 (some .int) 2 := ⟨mw_341, mw_340, mw_52, by decide +kernel, by decide +kernel, by decide +kernel⟩
theorem sm_X8_turnOf : SMs yX8_turnOf cX8_turnOf 2 (some .int) 1 := ⟨mw_359, mw_358, mw_52, by decide +kernel, by decide +kernel, by decide +kernel⟩
theorem sm_X8_isUp : SMs yX8_isUp cX8_isUp 3 (some .boolean) 2 := ⟨mw_337, mw_336, mw_52, by decide +kernel, by decide +kernel, by decide +kernel⟩
theorem sm_X8_withTurn : SMs yX8_withTurn cX8_withTurn 3 (some .long) 2 := ⟨mw_298, mw_297, mw_52, by decide +kernel, by decide +kernel, by decide +kernel⟩
theorem sm_X8_put : SMs yX8_put cX8_put 6 (some .long) 4 := ⟨mw_206, mw_205, mw_52, by decide +kernel, by decide +kernel, by decide +kernel⟩
theorem sm_X8_manOn : SMs yX8_manOn cX8_manOn 4 (some .int) 2 := ⟨mw_352, mw_351, mw_52, by decide +kernel, by decide +kernel, by decide +kernel⟩
theorem sm_X8_countMen : SMs yX8_countMen cX8_countMen 2 (some .int) 1 := ⟨mw_302, mw_301, mw_52, by decide +kernel, by decide +kernel, by decide +kernel⟩
theorem sm_X8_cellsOf : SMs yX8_cellsOf cX8_cellsOf 6 (some .int) 2 := ⟨mw_305, mw_304, mw_52, by decide +kernel, by decide +kernel, by decide +kernel⟩
theorem sm_X8_asTold : SMs yX8_asTold cX8_asTold 3 (some .int) 2 := ⟨mw_444, mw_443, mw_52, by decide +kernel, by decide +kernel, by decide +kernel⟩
theorem sm_X8_after : SMs yX8_after cX8_after 10 (some .long) 2 := ⟨mw_420, mw_419, mw_52, by decide +kernel, by decide +kernel, by decide +kernel⟩
theorem sm_X8_mirrored : SMs yX8_mirrored cX8_mirrored 7 (some .long) 2 := ⟨mw_685, mw_684, mw_52, by decide +kernel, by decide +kernel, by decide +kernel⟩
theorem sm_X8_mirroredCell : SMs yX8_mirroredCell cX8_mirroredCell 6 (some .int) 2 := ⟨mw_688, mw_687, mw_52, by decide +kernel, by decide +kernel, by decide +kernel⟩
theorem sm_X9_init : SMi yX9_init cX9_init 1 0 := ⟨mw_63, mw_62, mw_45, rfl, by decide +kernel, by decide +kernel, by decide +kernel⟩
theorem sm_X9_say : SMv yX9_say cX9_say 2 (some .int) 1 := ⟨mw_243, mw_241, mw_242, mw_45, by decide +kernel, by decide +kernel, by decide +kernel⟩
theorem sm_X9_wipe : SMv yX9_wipe cX9_wipe 2 (some .int) 0 := ⟨mw_251, mw_249, mw_250, mw_45, by decide +kernel, by decide +kernel, by decide +kernel⟩
theorem sm_X9_fault : SMv yX9_fault cX9_fault 2 (some .int) 1 := ⟨mw_259, mw_257, mw_258, mw_45, by decide +kernel, by decide +kernel, by decide +kernel⟩
theorem sm_X9_lay : SMv yX9_lay cX9_lay 1 (some .int) 0 := ⟨mw_289, mw_287, mw_288, mw_45, by decide +kernel, by decide +kernel, by decide +kernel⟩
theorem sm_X9_law : SMv yX9_law cX9_law 5 (some .int) 3 := ⟨mw_318, mw_316, mw_317, mw_45, by decide +kernel, by decide +kernel, by decide +kernel⟩
theorem sm_X9_man : SMv yX9_man cX9_man 3 (some .int) 2 := ⟨mw_330, mw_328, mw_329, mw_45, by decide +kernel, by decide +kernel, by decide +kernel⟩
theorem sm_X9_cellOrNone : SMv yX9_cellOrNone cX9_cellOrNone 2 (some .int) 1 := ⟨mw_334, mw_333, mw_3, mw_45, by decide +kernel, by decide +kernel, by decide +kernel⟩
theorem sm_X9_on : SMv yX9_on cX9_on 2 (some .int) 1 := ⟨mw_349, mw_347, mw_348, mw_45, by decide +kernel, by decide +kernel, by decide +kernel⟩
theorem sm_X9_state : SMv yX9_state cX9_state 2 (some .int) 1 := ⟨mw_356, mw_354, mw_355, mw_45, by decide +kernel, by decide +kernel, by decide +kernel⟩
theorem sm_X9_judge : SMv yX9_judge cX9_judge 2 (some .int) 1 := ⟨mw_391, mw_389, mw_390, mw_45, by decide +kernel, by decide +kernel, by decide +kernel⟩
theorem sm_X9_play : SMv yX9_play cX9_play 2 (some .int) 0 := ⟨mw_427, mw_425, mw_426, mw_45, by decide +kernel, by decide +kernel, by decide +kernel⟩
theorem sm_X9_gameIsGood : SMv yX9_gameIsGood cX9_gameIsGood 1 (some .boolean) 0 := ⟨mw_431, mw_430, mw_4, mw_45, by decide +kernel, by decide +kernel, by decide +kernel⟩
theorem sm_X9_moves : SMv yX9_moves cX9_moves 3 (some .int) 1 := ⟨mw_436, mw_434, mw_435, mw_45, by decide +kernel, by decide +kernel, by decide +kernel⟩
theorem sm_X9_reach : SMv yX9_reach cX9_reach 2 (some .int) 1 := ⟨mw_448, mw_446, mw_447, mw_45, by decide +kernel, by decide +kernel, by decide +kernel⟩
theorem sm_X9_youth : SMv yX9_youth cX9_youth 3 (some .int) 2 := ⟨mw_453, mw_451, mw_452, mw_45, by decide +kernel, by decide +kernel, by decide +kernel⟩
theorem sm_X9_stands : SMv yX9_stands cX9_stands 2 (some .int) 0 := ⟨mw_468, mw_466, mw_467, mw_45, by decide +kernel, by decide +kernel, by decide +kernel⟩
theorem sm_X9_solve : SMv yX9_solve cX9_solve 3 (some .int) 1 := ⟨mw_578, mw_576, mw_577, mw_45, by decide +kernel, by decide +kernel, by decide +kernel⟩
theorem sm_X9_readySolver : SMv yX9_readySolver cX9_readySolver 1 (some (.object "AgingMen$Solver")) 0 := ⟨mw_472, mw_471, mw_5, mw_45, by decide +kernel, by decide +kernel, by decide +kernel⟩
theorem sm_X9_keys : SMv yX9_keys cX9_keys 3 (some .int) 2 := ⟨mw_588, mw_586, mw_587, mw_45, by decide +kernel, by decide +kernel, by decide +kernel⟩
theorem sm_X9_even : SMv yX9_even cX9_even 6 (some .int) 1 := ⟨mw_610, mw_608, mw_609, mw_45, by decide +kernel, by decide +kernel, by decide +kernel⟩
theorem sm_X9_book : SMv yX9_book cX9_book 2 (some .int) 0 := ⟨mw_614, mw_612, mw_613, mw_45, by decide +kernel, by decide +kernel, by decide +kernel⟩
theorem sm_X9_booked : SMv yX9_booked cX9_booked 3 (some .int) 2 := ⟨mw_628, mw_626, mw_627, mw_45, by decide +kernel, by decide +kernel, by decide +kernel⟩
theorem sm_X9_next : SMv yX9_next cX9_next 3 (some .int) 1 := ⟨mw_649, mw_647, mw_648, mw_45, by decide +kernel, by decide +kernel, by decide +kernel⟩
theorem sm_X9_drawn : SMv yX9_drawn cX9_drawn 10 (some .int) 2 := ⟨mw_676, mw_674, mw_675, mw_45, by decide +kernel, by decide +kernel, by decide +kernel⟩
theorem sm_X9_mirror : SMv yX9_mirror cX9_mirror 2 (some .int) 1 := ⟨mw_682, mw_680, mw_681, mw_45, by decide +kernel, by decide +kernel, by decide +kernel⟩
theorem sm_X9_like : SMv yX9_like cX9_like 5 (some .int) 0 := ⟨mw_692, mw_690, mw_691, mw_45, by decide +kernel, by decide +kernel, by decide +kernel⟩
theorem sm_X9_image : SMv yX9_image cX9_image 3 (some .int) 1 := ⟨mw_696, mw_694, mw_695, mw_45, by decide +kernel, by decide +kernel, by decide +kernel⟩
theorem sm_X9_restore : SMv yX9_restore cX9_restore 3 (some .int) 1 := ⟨mw_711, mw_709, mw_710, mw_45, by decide +kernel, by decide +kernel, by decide +kernel⟩
theorem sm_X9_imageNumbered : SMv yX9_imageNumbered cX9_imageNumbered 2 (some (.object "AgingMen$Image")) 1 := ⟨mw_700, mw_699, mw_16, mw_45, by decide +kernel, by decide +kernel, by decide +kernel⟩
theorem sm_X9_told : SMv yX9_told cX9_told 2 (some .int) 1 := ⟨mw_715, mw_713, mw_714, mw_45, by decide +kernel, by decide +kernel, by decide +kernel⟩
theorem sm_X10_init : SMi yX10_init cX10_init 1 0 := ⟨mw_720, mw_719, mw_53, rfl, by decide +kernel, by decide +kernel, by decide +kernel⟩
theorem sm_X10_in : SMs yX10_in cX10_in 6 (some .boolean) 3 := ⟨mw_835, mw_834, mw_53, by decide +kernel, by decide +kernel, by decide +kernel⟩
theorem sm_X10_size : SMs yX10_size cX10_size 1 (some .int) 1 := ⟨mw_930, mw_929, mw_53, by decide +kernel, by decide +kernel, by decide +kernel⟩
theorem sm_X10_cellOf : SMs yX10_cellOf cX10_cellOf 3 (some .int) 2 := ⟨mw_854, mw_853, mw_53, by decide +kernel, by decide +kernel, by decide +kernel⟩
theorem sm_X10_ageOf : SMs yX10_ageOf cX10_ageOf 3 (some .int) 2 := ⟨mw_894, mw_893, mw_53, by decide +kernel, by decide +kernel, by decide +kernel⟩
theorem sm_X10_turnOf : SMs yX10_turnOf cX10_turnOf 2 (some .int) 1 := ⟨mw_850, mw_849, mw_53, by decide +kernel, by decide +kernel, by decide +kernel⟩
theorem sm_X10_put : SMs yX10_put cX10_put 5 (some .long) 4 := ⟨mw_726, mw_725, mw_53, by decide +kernel, by decide +kernel, by decide +kernel⟩
theorem sm_X10_manOn : SMs yX10_manOn cX10_manOn 4 (some .int) 2 := ⟨mw_862, mw_861, mw_53, by decide +kernel, by decide +kernel, by decide +kernel⟩
theorem sm_X10_kindOf : SMv yX10_kindOf cX10_kindOf 2 (some .int) 1 := ⟨mw_898, mw_897, mw_20, mw_53, by decide +kernel, by decide +kernel, by decide +kernel⟩
theorem sm_X10_whyNot : SMv yX10_whyNot cX10_whyNot 11 (some .int) 3 := ⟨mw_927, mw_926, mw_25, mw_53, by decide +kernel, by decide +kernel, by decide +kernel⟩
theorem sm_X10_isBetween : SMs yX10_isBetween cX10_isBetween 8 (some .boolean) 3 := ⟨mw_933, mw_932, mw_53, by decide +kernel, by decide +kernel, by decide +kernel⟩
theorem sm_X10_canGo : SMv yX10_canGo cX10_canGo 5 (some .boolean) 3 := ⟨mw_923, mw_922, mw_24, mw_53, by decide +kernel, by decide +kernel, by decide +kernel⟩
theorem sm_X10_manMoves : SMv yX10_manMoves cX10_manMoves 5 (some .boolean) 2 := ⟨mw_919, mw_918, mw_23, mw_53, by decide +kernel, by decide +kernel, by decide +kernel⟩
theorem sm_X10_sideMoves : SMv yX10_sideMoves cX10_sideMoves 4 (some .boolean) 2 := ⟨mw_915, mw_914, mw_22, mw_53, by decide +kernel, by decide +kernel, by decide +kernel⟩
theorem sm_X10_broughtBy : SMv yX10_broughtBy cX10_broughtBy 4 (some .int) 1 := ⟨mw_911, mw_910, mw_21, mw_53, by decide +kernel, by decide +kernel, by decide +kernel⟩
theorem sm_X10_gone : SMs yX10_gone cX10_gone 8 (some .long) 3 := ⟨mw_956, mw_955, mw_53, by decide +kernel, by decide +kernel, by decide +kernel⟩
theorem sm_X10_findMoves : SMv yX10_findMoves cX10_findMoves 6 none 1 := ⟨mw_968, mw_967, mw_30, mw_53, by decide +kernel, by decide +kernel, by decide +kernel⟩
theorem sm_X10_say : SMv yX10_say cX10_say 2 (some .int) 1 := ⟨mw_830, mw_828, mw_829, mw_53, by decide +kernel, by decide +kernel, by decide +kernel⟩
theorem sm_X10_wipe : SMv yX10_wipe cX10_wipe 2 (some .int) 0 := ⟨mw_839, mw_837, mw_838, mw_53, by decide +kernel, by decide +kernel, by decide +kernel⟩
theorem sm_X10_faultOfBoard : SMv yX10_faultOfBoard cX10_faultOfBoard 7 (some .int) 0 := ⟨mw_847, mw_846, mw_17, mw_53, by decide +kernel, by decide +kernel, by decide +kernel⟩
theorem sm_X10_faultOfGame : SMv yX10_faultOfGame cX10_faultOfGame 3 (some .int) 0 := ⟨mw_868, mw_867, mw_18, mw_53, by decide +kernel, by decide +kernel, by decide +kernel⟩
theorem sm_X10_fault : SMv yX10_fault cX10_fault 2 (some .int) 1 := ⟨mw_843, mw_841, mw_842, mw_53, by decide +kernel, by decide +kernel, by decide +kernel⟩
theorem sm_X10_standing : SMs yX10_standing cX10_standing 4 (some .int) 1 := ⟨mw_875, mw_874, mw_53, by decide +kernel, by decide +kernel, by decide +kernel⟩
theorem sm_X10_lay : SMv yX10_lay cX10_lay 1 (some .int) 0 := ⟨mw_872, mw_870, mw_871, mw_53, by decide +kernel, by decide +kernel, by decide +kernel⟩
theorem sm_X10_law : SMv yX10_law cX10_law 5 (some .int) 3 := ⟨mw_879, mw_877, mw_878, mw_53, by decide +kernel, by decide +kernel, by decide +kernel⟩
theorem sm_X10_isMan : SMs yX10_isMan cX10_isMan 1 (some .boolean) 1 := ⟨mw_887, mw_886, mw_53, by decide +kernel, by decide +kernel, by decide +kernel⟩
theorem sm_X10_cellNow : SMv yX10_cellNow cX10_cellNow 3 (some .int) 1 := ⟨mw_891, mw_890, mw_19, mw_53, by decide +kernel, by decide +kernel, by decide +kernel⟩
theorem sm_X10_man : SMv yX10_man cX10_man 3 (some .int) 2 := ⟨mw_884, mw_882, mw_883, mw_53, by decide +kernel, by decide +kernel, by decide +kernel⟩
theorem sm_X10_on : SMv yX10_on cX10_on 2 (some .int) 1 := ⟨mw_902, mw_900, mw_901, mw_53, by decide +kernel, by decide +kernel, by decide +kernel⟩
theorem sm_X10_state : SMv yX10_state cX10_state 2 (some .int) 1 := ⟨mw_907, mw_905, mw_906, mw_53, by decide +kernel, by decide +kernel, by decide +kernel⟩
theorem sm_X10_fromAt : SMv yX10_fromAt cX10_fromAt 2 (some .int) 1 := ⟨mw_949, mw_948, mw_28, mw_53, by decide +kernel, by decide +kernel, by decide +kernel⟩
theorem sm_X10_toAt : SMv yX10_toAt cX10_toAt 2 (some .int) 1 := ⟨mw_953, mw_952, mw_29, mw_53, by decide +kernel, by decide +kernel, by decide +kernel⟩
theorem sm_X10_whyAt : SMv yX10_whyAt cX10_whyAt 3 (some .int) 1 := ⟨mw_945, mw_944, mw_27, mw_53, by decide +kernel, by decide +kernel, by decide +kernel⟩
theorem sm_X10_goGame : SMv yX10_goGame cX10_goGame 3 (some .boolean) 0 := ⟨mw_941, mw_940, mw_26, mw_53, by decide +kernel, by decide +kernel, by decide +kernel⟩
theorem sm_X10_judge : SMv yX10_judge cX10_judge 2 (some .int) 1 := ⟨mw_937, mw_935, mw_936, mw_53, by decide +kernel, by decide +kernel, by decide +kernel⟩
theorem sm_X10_play : SMv yX10_play cX10_play 2 (some .int) 0 := ⟨mw_960, mw_958, mw_959, mw_53, by decide +kernel, by decide +kernel, by decide +kernel⟩
theorem sm_X10_moveNumber : SMv yX10_moveNumber cX10_moveNumber 4 (some .int) 2 := ⟨mw_972, mw_971, mw_31, mw_53, by decide +kernel, by decide +kernel, by decide +kernel⟩
theorem sm_X10_moves : SMv yX10_moves cX10_moves 2 (some .int) 1 := ⟨mw_964, mw_962, mw_963, mw_53, by decide +kernel, by decide +kernel, by decide +kernel⟩
theorem sm_X10_reach : SMv yX10_reach cX10_reach 5 (some .int) 1 := ⟨mw_976, mw_974, mw_975, mw_53, by decide +kernel, by decide +kernel, by decide +kernel⟩
theorem sm_X10_youth : SMv yX10_youth cX10_youth 7 (some .int) 2 := ⟨mw_980, mw_978, mw_979, mw_53, by decide +kernel, by decide +kernel, by decide +kernel⟩
theorem sm_X10_placeOf : SMv yX10_placeOf cX10_placeOf 4 (some .int) 1 := ⟨mw_996, mw_995, mw_34, mw_53, by decide +kernel, by decide +kernel, by decide +kernel⟩
theorem sm_X10_addStand : SMv yX10_addStand cX10_addStand 4 none 1 := ⟨mw_992, mw_991, mw_33, mw_53, by decide +kernel, by decide +kernel, by decide +kernel⟩
theorem sm_X10_findStands : SMv yX10_findStands cX10_findStands 5 (some .boolean) 1 := ⟨mw_988, mw_987, mw_32, mw_53, by decide +kernel, by decide +kernel, by decide +kernel⟩
theorem sm_X10_stands : SMv yX10_stands cX10_stands 1 (some .int) 0 := ⟨mw_984, mw_982, mw_983, mw_53, by decide +kernel, by decide +kernel, by decide +kernel⟩
theorem sm_X10_oldness : SMs yX10_oldness cX10_oldness 4 (some .int) 1 := ⟨mw_1010, mw_1009, mw_53, by decide +kernel, by decide +kernel, by decide +kernel⟩
theorem sm_X10_solveAll : SMv yX10_solveAll cX10_solveAll 5 (some .boolean) 1 := ⟨mw_1007, mw_1006, mw_35, mw_53, by decide +kernel, by decide +kernel, by decide +kernel⟩
theorem sm_X10_isBetter : SMs yX10_isBetter cX10_isBetter 4 (some .boolean) 4 := ⟨mw_1017, mw_1016, mw_53, by decide +kernel, by decide +kernel, by decide +kernel⟩
theorem sm_X10_solveOne : SMv yX10_solveOne cX10_solveOne 7 none 1 := ⟨mw_1014, mw_1013, mw_36, mw_53, by decide +kernel, by decide +kernel, by decide +kernel⟩
theorem sm_X10_solve : SMv yX10_solve cX10_solve 2 (some .int) 1 := ⟨mw_1002, mw_1000, mw_1001, mw_53, by decide +kernel, by decide +kernel, by decide +kernel⟩
theorem sm_X10_winsAtOnce : SMv yX10_winsAtOnce cX10_winsAtOnce 5 (some .boolean) 1 := ⟨mw_1029, mw_1028, mw_38, mw_53, by decide +kernel, by decide +kernel, by decide +kernel⟩
theorem sm_X10_isKey : SMv yX10_isKey cX10_isKey 8 (some .boolean) 3 := ⟨mw_1025, mw_1024, mw_37, mw_53, by decide +kernel, by decide +kernel, by decide +kernel⟩
theorem sm_X10_keys : SMv yX10_keys cX10_keys 6 (some .int) 2 := ⟨mw_1021, mw_1019, mw_1020, mw_53, by decide +kernel, by decide +kernel, by decide +kernel⟩
theorem sm_X10_even : SMv yX10_even cX10_even 5 (some .int) 1 := ⟨mw_1033, mw_1031, mw_1032, mw_53, by decide +kernel, by decide +kernel, by decide +kernel⟩
theorem sm_X10_numberAt : SMv yX10_numberAt cX10_numberAt 2 (some .int) 1 := ⟨mw_1041, mw_1040, mw_39, mw_53, by decide +kernel, by decide +kernel, by decide +kernel⟩
theorem sm_X10_book : SMv yX10_book cX10_book 2 (some .int) 0 := ⟨mw_1037, mw_1035, mw_1036, mw_53, by decide +kernel, by decide +kernel, by decide +kernel⟩
theorem sm_X10_booked : SMv yX10_booked cX10_booked 3 (some .int) 2 := ⟨mw_1045, mw_1043, mw_1044, mw_53, by decide +kernel, by decide +kernel, by decide +kernel⟩
theorem sm_X10_beginsSo : SMv yX10_beginsSo cX10_beginsSo 5 (some .boolean) 1 := ⟨mw_1056, mw_1055, mw_40, mw_53, by decide +kernel, by decide +kernel, by decide +kernel⟩
theorem sm_X10_goOnWith : SMv yX10_goOnWith cX10_goOnWith 4 (some .int) 1 := ⟨mw_1060, mw_1059, mw_41, mw_53, by decide +kernel, by decide +kernel, by decide +kernel⟩
theorem sm_X10_next : SMv yX10_next cX10_next 9 (some .int) 1 := ⟨mw_1051, mw_1049, mw_1050, mw_53, by decide +kernel, by decide +kernel, by decide +kernel⟩
theorem sm_X10_drawn : SMv yX10_drawn cX10_drawn 8 (some .int) 2 := ⟨mw_1064, mw_1062, mw_1063, mw_53, by decide +kernel, by decide +kernel, by decide +kernel⟩
theorem sm_X10_mirrored : SMs yX10_mirrored cX10_mirrored 9 (some .long) 2 := ⟨mw_1076, mw_1075, mw_53, by decide +kernel, by decide +kernel, by decide +kernel⟩
theorem sm_X10_mirror : SMv yX10_mirror cX10_mirror 2 (some .int) 1 := ⟨mw_1072, mw_1070, mw_1071, mw_53, by decide +kernel, by decide +kernel, by decide +kernel⟩
theorem sm_X10_like : SMv yX10_like cX10_like 3 (some .int) 0 := ⟨mw_1080, mw_1078, mw_1079, mw_53, by decide +kernel, by decide +kernel, by decide +kernel⟩
theorem sm_X10_pass : SMv yX10_pass cX10_pass 3 (some .int) 1 := ⟨mw_1092, mw_1091, mw_43, mw_53, by decide +kernel, by decide +kernel, by decide +kernel⟩
theorem sm_X10_passAll : SMv yX10_passAll cX10_passAll 4 none 1 := ⟨mw_1088, mw_1087, mw_42, mw_53, by decide +kernel, by decide +kernel, by decide +kernel⟩
theorem sm_X10_image : SMv yX10_image cX10_image 2 (some .int) 1 := ⟨mw_1084, mw_1082, mw_1083, mw_53, by decide +kernel, by decide +kernel, by decide +kernel⟩
theorem sm_X10_restore : SMv yX10_restore cX10_restore 2 (some .int) 1 := ⟨mw_1096, mw_1094, mw_1095, mw_53, by decide +kernel, by decide +kernel, by decide +kernel⟩
theorem sm_X10_told : SMv yX10_told cX10_told 2 (some .int) 1 := ⟨mw_1100, mw_1098, mw_1099, mw_53, by decide +kernel, by decide +kernel, by decide +kernel⟩
theorem sm_J6_bitCount_0f7a4 : SMs yJ6_bitCount_0f7a4 cJ6_bitCount_0f7a4 1 (some .int) 1 := ⟨mw_311, mw_310, mw_54, by decide +kernel, by decide +kernel, by decide +kernel⟩
theorem sm_J9_max_7cf53 : SMs yJ9_max_7cf53 cJ9_max_7cf53 2 (some .int) 2 := ⟨mw_460, mw_459, mw_55, by decide +kernel, by decide +kernel, by decide +kernel⟩
