section
-- ===== PART A: goes FIRST, ahead of the names: the tables' words, and 'selects' of the private methods out of them =====
/-- a private method of a class that the tables say can be made, by its rows of tables_1 -/
def lw_okq (q : MethodName × Nat) : Prop := (q.1.cls ≠ "java/lang/invoke/MethodHandle" ∧ q.1.cls ≠ "java/lang/invoke/VarHandle") ∧ Cond.instantiable q.1.cls q.2 ∈ tables_1 ∧ Cond.privateMethod q.1 ∈ tables_1 ∧ Cond.instanceMethod q.1 ∈ tables_1
theorem lw_p0 : lw_okq (⟨"OptimisticStore", "countInState", "(I)I"⟩, 12) := ⟨⟨by decide +kernel, by decide +kernel⟩, List.mem_of_getElem? (i := 22) (by decide +kernel), List.mem_of_getElem? (i := 138) (by decide +kernel), List.mem_of_getElem? (i := 139) (by decide +kernel)⟩
theorem lw_p1 : lw_okq (⟨"OptimisticStore$History", "readsFrom", "(III)Z"⟩, 3) := ⟨⟨by decide +kernel, by decide +kernel⟩, List.mem_of_getElem? (i := 30) (by decide +kernel), List.mem_of_getElem? (i := 150) (by decide +kernel), List.mem_of_getElem? (i := 151) (by decide +kernel)⟩
theorem lw_p2 : lw_okq (⟨"OptimisticStore$History", "writtenBy", "(I)I"⟩, 3) := ⟨⟨by decide +kernel, by decide +kernel⟩, List.mem_of_getElem? (i := 30) (by decide +kernel), List.mem_of_getElem? (i := 154) (by decide +kernel), List.mem_of_getElem? (i := 155) (by decide +kernel)⟩
theorem lw_p3 : lw_okq (⟨"OptimisticStore$Operation", "admits", "(I)Z"⟩, 6) := ⟨⟨by decide +kernel, by decide +kernel⟩, List.mem_of_getElem? (i := 176) (by decide +kernel), List.mem_of_getElem? (i := 174) (by decide +kernel), List.mem_of_getElem? (i := 175) (by decide +kernel)⟩
theorem lw_p4 : lw_okq (⟨"OptimisticStore$Operation", "sumWith", "(I)I"⟩, 6) := ⟨⟨by decide +kernel, by decide +kernel⟩, List.mem_of_getElem? (i := 176) (by decide +kernel), List.mem_of_getElem? (i := 211) (by decide +kernel), List.mem_of_getElem? (i := 212) (by decide +kernel)⟩
theorem lw_p5 : lw_okq (⟨"java/lang/Throwable", "fillInStackTrace", "(I)Ljava/lang/Throwable;"⟩, 6) := ⟨⟨by decide +kernel, by decide +kernel⟩, List.mem_of_getElem? (i := 276) (by decide +kernel), List.mem_of_getElem? (i := 274) (by decide +kernel), List.mem_of_getElem? (i := 275) (by decide +kernel)⟩
theorem lw_p6 : lw_okq (⟨"OptimisticStore", "canStart", "()Z"⟩, 12) := ⟨⟨by decide +kernel, by decide +kernel⟩, List.mem_of_getElem? (i := 22) (by decide +kernel), List.mem_of_getElem? (i := 329) (by decide +kernel), List.mem_of_getElem? (i := 330) (by decide +kernel)⟩
theorem lw_p7 : lw_okq (⟨"OptimisticStore", "start", "(I)LOptimisticStore$Transaction;"⟩, 12) := ⟨⟨by decide +kernel, by decide +kernel⟩, List.mem_of_getElem? (i := 22) (by decide +kernel), List.mem_of_getElem? (i := 334) (by decide +kernel), List.mem_of_getElem? (i := 335) (by decide +kernel)⟩
theorem lw_p8 : lw_okq (⟨"OptimisticStore", "find", "(I)LOptimisticStore$Transaction;"⟩, 12) := ⟨⟨by decide +kernel, by decide +kernel⟩, List.mem_of_getElem? (i := 22) (by decide +kernel), List.mem_of_getElem? (i := 427) (by decide +kernel), List.mem_of_getElem? (i := 428) (by decide +kernel)⟩
theorem lw_p9 : lw_okq (⟨"OptimisticStore", "operate", "(ILOptimisticStore$Operation;)I"⟩, 12) := ⟨⟨by decide +kernel, by decide +kernel⟩, List.mem_of_getElem? (i := 22) (by decide +kernel), List.mem_of_getElem? (i := 478) (by decide +kernel), List.mem_of_getElem? (i := 479) (by decide +kernel)⟩
theorem lw_p10 : lw_okq (⟨"OptimisticStore", "viewOf", "(LOptimisticStore$Transaction;)[I"⟩, 12) := ⟨⟨by decide +kernel, by decide +kernel⟩, List.mem_of_getElem? (i := 22) (by decide +kernel), List.mem_of_getElem? (i := 496) (by decide +kernel), List.mem_of_getElem? (i := 497) (by decide +kernel)⟩
theorem lw_p11 : lw_okq (⟨"OptimisticStore", "perform", "(LOptimisticStore$Transaction;LOptimisticStore$Operation;)I"⟩, 12) := ⟨⟨by decide +kernel, by decide +kernel⟩, List.mem_of_getElem? (i := 22) (by decide +kernel), List.mem_of_getElem? (i := 529) (by decide +kernel), List.mem_of_getElem? (i := 530) (by decide +kernel)⟩
theorem lw_p12 : lw_okq (⟨"OptimisticStore", "tryToCommit", "(LOptimisticStore$Transaction;)I"⟩, 12) := ⟨⟨by decide +kernel, by decide +kernel⟩, List.mem_of_getElem? (i := 22) (by decide +kernel), List.mem_of_getElem? (i := 598) (by decide +kernel), List.mem_of_getElem? (i := 599) (by decide +kernel)⟩
theorem lw_p13 : lw_okq (⟨"OptimisticStore", "isBlocked", "(LOptimisticStore$Transaction;)Z"⟩, 12) := ⟨⟨by decide +kernel, by decide +kernel⟩, List.mem_of_getElem? (i := 22) (by decide +kernel), List.mem_of_getElem? (i := 602) (by decide +kernel), List.mem_of_getElem? (i := 603) (by decide +kernel)⟩
theorem lw_p14 : lw_okq (⟨"OptimisticStore", "isRival", "(LOptimisticStore$Transaction;LOptimisticStore$Transaction;)Z"⟩, 12) := ⟨⟨by decide +kernel, by decide +kernel⟩, List.mem_of_getElem? (i := 22) (by decide +kernel), List.mem_of_getElem? (i := 606) (by decide +kernel), List.mem_of_getElem? (i := 607) (by decide +kernel)⟩
theorem lw_p15 : lw_okq (⟨"OptimisticStore", "reasonToAbort", "(LOptimisticStore$Transaction;)I"⟩, 12) := ⟨⟨by decide +kernel, by decide +kernel⟩, List.mem_of_getElem? (i := 22) (by decide +kernel), List.mem_of_getElem? (i := 611) (by decide +kernel), List.mem_of_getElem? (i := 612) (by decide +kernel)⟩
def lw_privs_1 : List (MethodName × Nat) := [(⟨"OptimisticStore", "countInState", "(I)I"⟩, 12), (⟨"OptimisticStore$History", "readsFrom", "(III)Z"⟩, 3), (⟨"OptimisticStore$History", "writtenBy", "(I)I"⟩, 3), (⟨"OptimisticStore$Operation", "admits", "(I)Z"⟩, 6), (⟨"OptimisticStore$Operation", "sumWith", "(I)I"⟩, 6), (⟨"java/lang/Throwable", "fillInStackTrace", "(I)Ljava/lang/Throwable;"⟩, 6), (⟨"OptimisticStore", "canStart", "()Z"⟩, 12), (⟨"OptimisticStore", "start", "(I)LOptimisticStore$Transaction;"⟩, 12), (⟨"OptimisticStore", "find", "(I)LOptimisticStore$Transaction;"⟩, 12), (⟨"OptimisticStore", "operate", "(ILOptimisticStore$Operation;)I"⟩, 12), (⟨"OptimisticStore", "viewOf", "(LOptimisticStore$Transaction;)[I"⟩, 12), (⟨"OptimisticStore", "perform", "(LOptimisticStore$Transaction;LOptimisticStore$Operation;)I"⟩, 12), (⟨"OptimisticStore", "tryToCommit", "(LOptimisticStore$Transaction;)I"⟩, 12), (⟨"OptimisticStore", "isBlocked", "(LOptimisticStore$Transaction;)Z"⟩, 12), (⟨"OptimisticStore", "isRival", "(LOptimisticStore$Transaction;LOptimisticStore$Transaction;)Z"⟩, 12), (⟨"OptimisticStore", "reasonToAbort", "(LOptimisticStore$Transaction;)I"⟩, 12)]
theorem lw_r1 : ∀ q ∈ lw_privs_1, lw_okq q := List.forall_mem_cons.mpr ⟨lw_p0, List.forall_mem_cons.mpr ⟨lw_p1, List.forall_mem_cons.mpr ⟨lw_p2, List.forall_mem_cons.mpr ⟨lw_p3, List.forall_mem_cons.mpr ⟨lw_p4, List.forall_mem_cons.mpr ⟨lw_p5, List.forall_mem_cons.mpr ⟨lw_p6, List.forall_mem_cons.mpr ⟨lw_p7, List.forall_mem_cons.mpr ⟨lw_p8, List.forall_mem_cons.mpr ⟨lw_p9, List.forall_mem_cons.mpr ⟨lw_p10, List.forall_mem_cons.mpr ⟨lw_p11, List.forall_mem_cons.mpr ⟨lw_p12, List.forall_mem_cons.mpr ⟨lw_p13, List.forall_mem_cons.mpr ⟨lw_p14, List.forall_mem_cons.mpr ⟨lw_p15, fun _ h => absurd h List.not_mem_nil⟩⟩⟩⟩⟩⟩⟩⟩⟩⟩⟩⟩⟩⟩⟩⟩
theorem lw_p16 : lw_okq (⟨"OptimisticStore$History", "isTouchedSince", "(LOptimisticStore$Operation;)Z"⟩, 3) := ⟨⟨by decide +kernel, by decide +kernel⟩, List.mem_of_getElem? (i := 30) (by decide +kernel), List.mem_of_getElem? (i := 624) (by decide +kernel), List.mem_of_getElem? (i := 625) (by decide +kernel)⟩
theorem lw_p17 : lw_okq (⟨"OptimisticStore", "losesToRivals", "(LOptimisticStore$Transaction;)Z"⟩, 12) := ⟨⟨by decide +kernel, by decide +kernel⟩, List.mem_of_getElem? (i := 22) (by decide +kernel), List.mem_of_getElem? (i := 629) (by decide +kernel), List.mem_of_getElem? (i := 630) (by decide +kernel)⟩
theorem lw_p18 : lw_okq (⟨"OptimisticStore", "violatesConstraint", "([I)Z"⟩, 12) := ⟨⟨by decide +kernel, by decide +kernel⟩, List.mem_of_getElem? (i := 22) (by decide +kernel), List.mem_of_getElem? (i := 633) (by decide +kernel), List.mem_of_getElem? (i := 634) (by decide +kernel)⟩
theorem lw_p19 : lw_okq (⟨"OptimisticStore", "endInAbort", "(LOptimisticStore$Transaction;I)V"⟩, 12) := ⟨⟨by decide +kernel, by decide +kernel⟩, List.mem_of_getElem? (i := 22) (by decide +kernel), List.mem_of_getElem? (i := 643) (by decide +kernel), List.mem_of_getElem? (i := 644) (by decide +kernel)⟩
theorem lw_p20 : lw_okq (⟨"OptimisticStore", "releaseTicket", "(LOptimisticStore$Transaction;)V"⟩, 12) := ⟨⟨by decide +kernel, by decide +kernel⟩, List.mem_of_getElem? (i := 22) (by decide +kernel), List.mem_of_getElem? (i := 651) (by decide +kernel), List.mem_of_getElem? (i := 652) (by decide +kernel)⟩
theorem lw_p21 : lw_okq (⟨"OptimisticStore", "abortRivals", "(LOptimisticStore$Transaction;)V"⟩, 12) := ⟨⟨by decide +kernel, by decide +kernel⟩, List.mem_of_getElem? (i := 22) (by decide +kernel), List.mem_of_getElem? (i := 655) (by decide +kernel), List.mem_of_getElem? (i := 656) (by decide +kernel)⟩
theorem lw_p22 : lw_okq (⟨"OptimisticStore", "findActive", "(I)LOptimisticStore$Transaction;"⟩, 12) := ⟨⟨by decide +kernel, by decide +kernel⟩, List.mem_of_getElem? (i := 22) (by decide +kernel), List.mem_of_getElem? (i := 673) (by decide +kernel), List.mem_of_getElem? (i := 674) (by decide +kernel)⟩
theorem lw_p23 : lw_okq (⟨"OptimisticStore", "countRivals", "(LOptimisticStore$Transaction;)I"⟩, 12) := ⟨⟨by decide +kernel, by decide +kernel⟩, List.mem_of_getElem? (i := 22) (by decide +kernel), List.mem_of_getElem? (i := 779) (by decide +kernel), List.mem_of_getElem? (i := 780) (by decide +kernel)⟩
theorem lw_p24 : lw_okq (⟨"OptimisticStore", "requireCommit", "(II)V"⟩, 12) := ⟨⟨by decide +kernel, by decide +kernel⟩, List.mem_of_getElem? (i := 22) (by decide +kernel), List.mem_of_getElem? (i := 802) (by decide +kernel), List.mem_of_getElem? (i := 803) (by decide +kernel)⟩
theorem lw_p25 : lw_okq (⟨"OptimisticStore$Script", "parseSteps", "()Z"⟩, 6) := ⟨⟨by decide +kernel, by decide +kernel⟩, List.mem_of_getElem? (i := 58) (by decide +kernel), List.mem_of_getElem? (i := 917) (by decide +kernel), List.mem_of_getElem? (i := 918) (by decide +kernel)⟩
theorem lw_p26 : lw_okq (⟨"OptimisticStore$Script", "parseStep", "()LOptimisticStore$Operation;"⟩, 6) := ⟨⟨by decide +kernel, by decide +kernel⟩, List.mem_of_getElem? (i := 58) (by decide +kernel), List.mem_of_getElem? (i := 921) (by decide +kernel), List.mem_of_getElem? (i := 922) (by decide +kernel)⟩
theorem lw_p27 : lw_okq (⟨"OptimisticStore$Script", "current", "()C"⟩, 6) := ⟨⟨by decide +kernel, by decide +kernel⟩, List.mem_of_getElem? (i := 58) (by decide +kernel), List.mem_of_getElem? (i := 925) (by decide +kernel), List.mem_of_getElem? (i := 926) (by decide +kernel)⟩
theorem lw_p28 : lw_okq (⟨"OptimisticStore$Script", "parseKey", "()I"⟩, 6) := ⟨⟨by decide +kernel, by decide +kernel⟩, List.mem_of_getElem? (i := 58) (by decide +kernel), List.mem_of_getElem? (i := 932) (by decide +kernel), List.mem_of_getElem? (i := 933) (by decide +kernel)⟩
theorem lw_p29 : lw_okq (⟨"OptimisticStore$Script", "parseWrite", "(I)LOptimisticStore$Operation;"⟩, 6) := ⟨⟨by decide +kernel, by decide +kernel⟩, List.mem_of_getElem? (i := 58) (by decide +kernel), List.mem_of_getElem? (i := 939) (by decide +kernel), List.mem_of_getElem? (i := 940) (by decide +kernel)⟩
theorem lw_p30 : lw_okq (⟨"OptimisticStore$Script", "pass", "(C)Z"⟩, 6) := ⟨⟨by decide +kernel, by decide +kernel⟩, List.mem_of_getElem? (i := 58) (by decide +kernel), List.mem_of_getElem? (i := 943) (by decide +kernel), List.mem_of_getElem? (i := 944) (by decide +kernel)⟩
theorem lw_p31 : lw_okq (⟨"OptimisticStore$Script", "parseDigits", "(IIZ)LOptimisticStore$Operation;"⟩, 6) := ⟨⟨by decide +kernel, by decide +kernel⟩, List.mem_of_getElem? (i := 58) (by decide +kernel), List.mem_of_getElem? (i := 947) (by decide +kernel), List.mem_of_getElem? (i := 948) (by decide +kernel)⟩
def lw_privs_2 : List (MethodName × Nat) := [(⟨"OptimisticStore$History", "isTouchedSince", "(LOptimisticStore$Operation;)Z"⟩, 3), (⟨"OptimisticStore", "losesToRivals", "(LOptimisticStore$Transaction;)Z"⟩, 12), (⟨"OptimisticStore", "violatesConstraint", "([I)Z"⟩, 12), (⟨"OptimisticStore", "endInAbort", "(LOptimisticStore$Transaction;I)V"⟩, 12), (⟨"OptimisticStore", "releaseTicket", "(LOptimisticStore$Transaction;)V"⟩, 12), (⟨"OptimisticStore", "abortRivals", "(LOptimisticStore$Transaction;)V"⟩, 12), (⟨"OptimisticStore", "findActive", "(I)LOptimisticStore$Transaction;"⟩, 12), (⟨"OptimisticStore", "countRivals", "(LOptimisticStore$Transaction;)I"⟩, 12), (⟨"OptimisticStore", "requireCommit", "(II)V"⟩, 12), (⟨"OptimisticStore$Script", "parseSteps", "()Z"⟩, 6), (⟨"OptimisticStore$Script", "parseStep", "()LOptimisticStore$Operation;"⟩, 6), (⟨"OptimisticStore$Script", "current", "()C"⟩, 6), (⟨"OptimisticStore$Script", "parseKey", "()I"⟩, 6), (⟨"OptimisticStore$Script", "parseWrite", "(I)LOptimisticStore$Operation;"⟩, 6), (⟨"OptimisticStore$Script", "pass", "(C)Z"⟩, 6), (⟨"OptimisticStore$Script", "parseDigits", "(IIZ)LOptimisticStore$Operation;"⟩, 6)]
theorem lw_r2 : ∀ q ∈ lw_privs_2, lw_okq q := List.forall_mem_cons.mpr ⟨lw_p16, List.forall_mem_cons.mpr ⟨lw_p17, List.forall_mem_cons.mpr ⟨lw_p18, List.forall_mem_cons.mpr ⟨lw_p19, List.forall_mem_cons.mpr ⟨lw_p20, List.forall_mem_cons.mpr ⟨lw_p21, List.forall_mem_cons.mpr ⟨lw_p22, List.forall_mem_cons.mpr ⟨lw_p23, List.forall_mem_cons.mpr ⟨lw_p24, List.forall_mem_cons.mpr ⟨lw_p25, List.forall_mem_cons.mpr ⟨lw_p26, List.forall_mem_cons.mpr ⟨lw_p27, List.forall_mem_cons.mpr ⟨lw_p28, List.forall_mem_cons.mpr ⟨lw_p29, List.forall_mem_cons.mpr ⟨lw_p30, List.forall_mem_cons.mpr ⟨lw_p31, fun _ h => absurd h List.not_mem_nil⟩⟩⟩⟩⟩⟩⟩⟩⟩⟩⟩⟩⟩⟩⟩⟩
theorem lw_p32 : lw_okq (⟨"OptimisticStore$Script", "parseAdd", "(I)LOptimisticStore$Operation;"⟩, 6) := ⟨⟨by decide +kernel, by decide +kernel⟩, List.mem_of_getElem? (i := 58) (by decide +kernel), List.mem_of_getElem? (i := 952) (by decide +kernel), List.mem_of_getElem? (i := 953) (by decide +kernel)⟩
theorem lw_p33 : lw_okq (⟨"OptimisticStore$Script", "parseSum", "(I)LOptimisticStore$Operation;"⟩, 6) := ⟨⟨by decide +kernel, by decide +kernel⟩, List.mem_of_getElem? (i := 58) (by decide +kernel), List.mem_of_getElem? (i := 956) (by decide +kernel), List.mem_of_getElem? (i := 957) (by decide +kernel)⟩
theorem lw_p34 : lw_okq (⟨"OptimisticStore", "performSteps", "(LOptimisticStore$Transaction;)Z"⟩, 12) := ⟨⟨by decide +kernel, by decide +kernel⟩, List.mem_of_getElem? (i := 22) (by decide +kernel), List.mem_of_getElem? (i := 962) (by decide +kernel), List.mem_of_getElem? (i := 963) (by decide +kernel)⟩
theorem lw_p35 : lw_okq (⟨"OptimisticStore", "isAllowed", "(LOptimisticStore$Transaction;LOptimisticStore$Operation;)Z"⟩, 12) := ⟨⟨by decide +kernel, by decide +kernel⟩, List.mem_of_getElem? (i := 22) (by decide +kernel), List.mem_of_getElem? (i := 970) (by decide +kernel), List.mem_of_getElem? (i := 971) (by decide +kernel)⟩
theorem lw_p36 : lw_okq (⟨"OptimisticStoreModel", "activeNow", "()I"⟩, 31) := ⟨⟨by decide +kernel, by decide +kernel⟩, List.mem_of_getElem? (i := 978) (by decide +kernel), List.mem_of_getElem? (i := 1086) (by decide +kernel), List.mem_of_getElem? (i := 1087) (by decide +kernel)⟩
theorem lw_p37 : lw_okq (⟨"OptimisticStoreModel", "hasRoom", "()Z"⟩, 31) := ⟨⟨by decide +kernel, by decide +kernel⟩, List.mem_of_getElem? (i := 978) (by decide +kernel), List.mem_of_getElem? (i := 1094) (by decide +kernel), List.mem_of_getElem? (i := 1095) (by decide +kernel)⟩
theorem lw_p38 : lw_okq (⟨"OptimisticStoreModel", "beginWith", "(I)I"⟩, 31) := ⟨⟨by decide +kernel, by decide +kernel⟩, List.mem_of_getElem? (i := 978) (by decide +kernel), List.mem_of_getElem? (i := 1098) (by decide +kernel), List.mem_of_getElem? (i := 1099) (by decide +kernel)⟩
theorem lw_p39 : lw_okq (⟨"OptimisticStoreModel", "fail", "(I)I"⟩, 31) := ⟨⟨by decide +kernel, by decide +kernel⟩, List.mem_of_getElem? (i := 978) (by decide +kernel), List.mem_of_getElem? (i := 1102) (by decide +kernel), List.mem_of_getElem? (i := 1103) (by decide +kernel)⟩
theorem lw_p40 : lw_okq (⟨"OptimisticStoreModel", "isTransaction", "(I)Z"⟩, 31) := ⟨⟨by decide +kernel, by decide +kernel⟩, List.mem_of_getElem? (i := 978) (by decide +kernel), List.mem_of_getElem? (i := 1110) (by decide +kernel), List.mem_of_getElem? (i := 1111) (by decide +kernel)⟩
theorem lw_p41 : lw_okq (⟨"OptimisticStoreModel", "problem", "(IZ)I"⟩, 31) := ⟨⟨by decide +kernel, by decide +kernel⟩, List.mem_of_getElem? (i := 978) (by decide +kernel), List.mem_of_getElem? (i := 1121) (by decide +kernel), List.mem_of_getElem? (i := 1122) (by decide +kernel)⟩
theorem lw_p42 : lw_okq (⟨"OptimisticStoreModel", "recordKey", "(II)V"⟩, 31) := ⟨⟨by decide +kernel, by decide +kernel⟩, List.mem_of_getElem? (i := 978) (by decide +kernel), List.mem_of_getElem? (i := 1125) (by decide +kernel), List.mem_of_getElem? (i := 1126) (by decide +kernel)⟩
theorem lw_p43 : lw_okq (⟨"OptimisticStoreModel", "viewed", "(II)I"⟩, 31) := ⟨⟨by decide +kernel, by decide +kernel⟩, List.mem_of_getElem? (i := 978) (by decide +kernel), List.mem_of_getElem? (i := 1129) (by decide +kernel), List.mem_of_getElem? (i := 1130) (by decide +kernel)⟩
theorem lw_p44 : lw_okq (⟨"OptimisticStoreModel", "stored", "(II)I"⟩, 31) := ⟨⟨by decide +kernel, by decide +kernel⟩, List.mem_of_getElem? (i := 978) (by decide +kernel), List.mem_of_getElem? (i := 1133) (by decide +kernel), List.mem_of_getElem? (i := 1134) (by decide +kernel)⟩
theorem lw_p45 : lw_okq (⟨"OptimisticStoreModel", "list", "(IIIIII)V"⟩, 31) := ⟨⟨by decide +kernel, by decide +kernel⟩, List.mem_of_getElem? (i := 978) (by decide +kernel), List.mem_of_getElem? (i := 1137) (by decide +kernel), List.mem_of_getElem? (i := 1138) (by decide +kernel)⟩
theorem lw_p46 : lw_okq (⟨"OptimisticStoreModel", "recordRange", "(IIII)V"⟩, 31) := ⟨⟨by decide +kernel, by decide +kernel⟩, List.mem_of_getElem? (i := 978) (by decide +kernel), List.mem_of_getElem? (i := 1148) (by decide +kernel), List.mem_of_getElem? (i := 1149) (by decide +kernel)⟩
theorem lw_p47 : lw_okq (⟨"OptimisticStoreModel", "counted", "(IIII)I"⟩, 31) := ⟨⟨by decide +kernel, by decide +kernel⟩, List.mem_of_getElem? (i := 978) (by decide +kernel), List.mem_of_getElem? (i := 1152) (by decide +kernel), List.mem_of_getElem? (i := 1153) (by decide +kernel)⟩
def lw_privs_3 : List (MethodName × Nat) := [(⟨"OptimisticStore$Script", "parseAdd", "(I)LOptimisticStore$Operation;"⟩, 6), (⟨"OptimisticStore$Script", "parseSum", "(I)LOptimisticStore$Operation;"⟩, 6), (⟨"OptimisticStore", "performSteps", "(LOptimisticStore$Transaction;)Z"⟩, 12), (⟨"OptimisticStore", "isAllowed", "(LOptimisticStore$Transaction;LOptimisticStore$Operation;)Z"⟩, 12), (⟨"OptimisticStoreModel", "activeNow", "()I"⟩, 31), (⟨"OptimisticStoreModel", "hasRoom", "()Z"⟩, 31), (⟨"OptimisticStoreModel", "beginWith", "(I)I"⟩, 31), (⟨"OptimisticStoreModel", "fail", "(I)I"⟩, 31), (⟨"OptimisticStoreModel", "isTransaction", "(I)Z"⟩, 31), (⟨"OptimisticStoreModel", "problem", "(IZ)I"⟩, 31), (⟨"OptimisticStoreModel", "recordKey", "(II)V"⟩, 31), (⟨"OptimisticStoreModel", "viewed", "(II)I"⟩, 31), (⟨"OptimisticStoreModel", "stored", "(II)I"⟩, 31), (⟨"OptimisticStoreModel", "list", "(IIIIII)V"⟩, 31), (⟨"OptimisticStoreModel", "recordRange", "(IIII)V"⟩, 31), (⟨"OptimisticStoreModel", "counted", "(IIII)I"⟩, 31)]
theorem lw_r3 : ∀ q ∈ lw_privs_3, lw_okq q := List.forall_mem_cons.mpr ⟨lw_p32, List.forall_mem_cons.mpr ⟨lw_p33, List.forall_mem_cons.mpr ⟨lw_p34, List.forall_mem_cons.mpr ⟨lw_p35, List.forall_mem_cons.mpr ⟨lw_p36, List.forall_mem_cons.mpr ⟨lw_p37, List.forall_mem_cons.mpr ⟨lw_p38, List.forall_mem_cons.mpr ⟨lw_p39, List.forall_mem_cons.mpr ⟨lw_p40, List.forall_mem_cons.mpr ⟨lw_p41, List.forall_mem_cons.mpr ⟨lw_p42, List.forall_mem_cons.mpr ⟨lw_p43, List.forall_mem_cons.mpr ⟨lw_p44, List.forall_mem_cons.mpr ⟨lw_p45, List.forall_mem_cons.mpr ⟨lw_p46, List.forall_mem_cons.mpr ⟨lw_p47, fun _ h => absurd h List.not_mem_nil⟩⟩⟩⟩⟩⟩⟩⟩⟩⟩⟩⟩⟩⟩⟩⟩
theorem lw_p48 : lw_okq (⟨"OptimisticStoreModel", "summed", "(III)I"⟩, 31) := ⟨⟨by decide +kernel, by decide +kernel⟩, List.mem_of_getElem? (i := 978) (by decide +kernel), List.mem_of_getElem? (i := 1160) (by decide +kernel), List.mem_of_getElem? (i := 1161) (by decide +kernel)⟩
theorem lw_p49 : lw_okq (⟨"OptimisticStoreModel", "addedTo", "(II)I"⟩, 31) := ⟨⟨by decide +kernel, by decide +kernel⟩, List.mem_of_getElem? (i := 978) (by decide +kernel), List.mem_of_getElem? (i := 1176) (by decide +kernel), List.mem_of_getElem? (i := 1177) (by decide +kernel)⟩
theorem lw_p50 : lw_okq (⟨"OptimisticStoreModel", "activeProblem", "(I)I"⟩, 31) := ⟨⟨by decide +kernel, by decide +kernel⟩, List.mem_of_getElem? (i := 978) (by decide +kernel), List.mem_of_getElem? (i := 1184) (by decide +kernel), List.mem_of_getElem? (i := 1185) (by decide +kernel)⟩
theorem lw_p51 : lw_okq (⟨"OptimisticStoreModel", "staleness", "(I)I"⟩, 31) := ⟨⟨by decide +kernel, by decide +kernel⟩, List.mem_of_getElem? (i := 978) (by decide +kernel), List.mem_of_getElem? (i := 1188) (by decide +kernel), List.mem_of_getElem? (i := 1189) (by decide +kernel)⟩
theorem lw_p52 : lw_okq (⟨"OptimisticStoreModel", "hasWritten", "(II)Z"⟩, 31) := ⟨⟨by decide +kernel, by decide +kernel⟩, List.mem_of_getElem? (i := 978) (by decide +kernel), List.mem_of_getElem? (i := 1192) (by decide +kernel), List.mem_of_getElem? (i := 1193) (by decide +kernel)⟩
theorem lw_p53 : lw_okq (⟨"OptimisticStoreModel", "touchesAny", "(IIIII)Z"⟩, 31) := ⟨⟨by decide +kernel, by decide +kernel⟩, List.mem_of_getElem? (i := 978) (by decide +kernel), List.mem_of_getElem? (i := 1196) (by decide +kernel), List.mem_of_getElem? (i := 1197) (by decide +kernel)⟩
theorem lw_p54 : lw_okq (⟨"OptimisticStoreModel", "touches", "(IIII)Z"⟩, 31) := ⟨⟨by decide +kernel, by decide +kernel⟩, List.mem_of_getElem? (i := 978) (by decide +kernel), List.mem_of_getElem? (i := 1200) (by decide +kernel), List.mem_of_getElem? (i := 1201) (by decide +kernel)⟩
theorem lw_p55 : lw_okq (⟨"OptimisticStoreModel", "countRivals", "(I)I"⟩, 31) := ⟨⟨by decide +kernel, by decide +kernel⟩, List.mem_of_getElem? (i := 978) (by decide +kernel), List.mem_of_getElem? (i := 1208) (by decide +kernel), List.mem_of_getElem? (i := 1209) (by decide +kernel)⟩
theorem lw_p56 : lw_okq (⟨"OptimisticStoreModel", "isRival", "(II)Z"⟩, 31) := ⟨⟨by decide +kernel, by decide +kernel⟩, List.mem_of_getElem? (i := 978) (by decide +kernel), List.mem_of_getElem? (i := 1212) (by decide +kernel), List.mem_of_getElem? (i := 1213) (by decide +kernel)⟩
theorem lw_p57 : lw_okq (⟨"OptimisticStoreModel", "conflicts", "(II)Z"⟩, 31) := ⟨⟨by decide +kernel, by decide +kernel⟩, List.mem_of_getElem? (i := 978) (by decide +kernel), List.mem_of_getElem? (i := 1216) (by decide +kernel), List.mem_of_getElem? (i := 1217) (by decide +kernel)⟩
theorem lw_p58 : lw_okq (⟨"OptimisticStoreModel", "doCommit", "(I)I"⟩, 31) := ⟨⟨by decide +kernel, by decide +kernel⟩, List.mem_of_getElem? (i := 978) (by decide +kernel), List.mem_of_getElem? (i := 1224) (by decide +kernel), List.mem_of_getElem? (i := 1225) (by decide +kernel)⟩
theorem lw_p59 : lw_okq (⟨"OptimisticStoreModel", "loses", "(I)Z"⟩, 31) := ⟨⟨by decide +kernel, by decide +kernel⟩, List.mem_of_getElem? (i := 978) (by decide +kernel), List.mem_of_getElem? (i := 1228) (by decide +kernel), List.mem_of_getElem? (i := 1229) (by decide +kernel)⟩
theorem lw_p60 : lw_okq (⟨"OptimisticStoreModel", "violates", "(I)Z"⟩, 31) := ⟨⟨by decide +kernel, by decide +kernel⟩, List.mem_of_getElem? (i := 978) (by decide +kernel), List.mem_of_getElem? (i := 1232) (by decide +kernel), List.mem_of_getElem? (i := 1233) (by decide +kernel)⟩
theorem lw_p61 : lw_okq (⟨"OptimisticStoreModel", "isViolated", "(II)Z"⟩, 31) := ⟨⟨by decide +kernel, by decide +kernel⟩, List.mem_of_getElem? (i := 978) (by decide +kernel), List.mem_of_getElem? (i := 1236) (by decide +kernel), List.mem_of_getElem? (i := 1237) (by decide +kernel)⟩
theorem lw_p62 : lw_okq (⟨"OptimisticStoreModel", "endWith", "(II)V"⟩, 31) := ⟨⟨by decide +kernel, by decide +kernel⟩, List.mem_of_getElem? (i := 978) (by decide +kernel), List.mem_of_getElem? (i := 1240) (by decide +kernel), List.mem_of_getElem? (i := 1241) (by decide +kernel)⟩
theorem lw_p63 : lw_okq (⟨"OptimisticStoreModel", "lastWriter", "(II)I"⟩, 31) := ⟨⟨by decide +kernel, by decide +kernel⟩, List.mem_of_getElem? (i := 978) (by decide +kernel), List.mem_of_getElem? (i := 1308) (by decide +kernel), List.mem_of_getElem? (i := 1309) (by decide +kernel)⟩
def lw_privs_4 : List (MethodName × Nat) := [(⟨"OptimisticStoreModel", "summed", "(III)I"⟩, 31), (⟨"OptimisticStoreModel", "addedTo", "(II)I"⟩, 31), (⟨"OptimisticStoreModel", "activeProblem", "(I)I"⟩, 31), (⟨"OptimisticStoreModel", "staleness", "(I)I"⟩, 31), (⟨"OptimisticStoreModel", "hasWritten", "(II)Z"⟩, 31), (⟨"OptimisticStoreModel", "touchesAny", "(IIIII)Z"⟩, 31), (⟨"OptimisticStoreModel", "touches", "(IIII)Z"⟩, 31), (⟨"OptimisticStoreModel", "countRivals", "(I)I"⟩, 31), (⟨"OptimisticStoreModel", "isRival", "(II)Z"⟩, 31), (⟨"OptimisticStoreModel", "conflicts", "(II)Z"⟩, 31), (⟨"OptimisticStoreModel", "doCommit", "(I)I"⟩, 31), (⟨"OptimisticStoreModel", "loses", "(I)Z"⟩, 31), (⟨"OptimisticStoreModel", "violates", "(I)Z"⟩, 31), (⟨"OptimisticStoreModel", "isViolated", "(II)Z"⟩, 31), (⟨"OptimisticStoreModel", "endWith", "(II)V"⟩, 31), (⟨"OptimisticStoreModel", "lastWriter", "(II)I"⟩, 31)]
theorem lw_r4 : ∀ q ∈ lw_privs_4, lw_okq q := List.forall_mem_cons.mpr ⟨lw_p48, List.forall_mem_cons.mpr ⟨lw_p49, List.forall_mem_cons.mpr ⟨lw_p50, List.forall_mem_cons.mpr ⟨lw_p51, List.forall_mem_cons.mpr ⟨lw_p52, List.forall_mem_cons.mpr ⟨lw_p53, List.forall_mem_cons.mpr ⟨lw_p54, List.forall_mem_cons.mpr ⟨lw_p55, List.forall_mem_cons.mpr ⟨lw_p56, List.forall_mem_cons.mpr ⟨lw_p57, List.forall_mem_cons.mpr ⟨lw_p58, List.forall_mem_cons.mpr ⟨lw_p59, List.forall_mem_cons.mpr ⟨lw_p60, List.forall_mem_cons.mpr ⟨lw_p61, List.forall_mem_cons.mpr ⟨lw_p62, List.forall_mem_cons.mpr ⟨lw_p63, fun _ h => absurd h List.not_mem_nil⟩⟩⟩⟩⟩⟩⟩⟩⟩⟩⟩⟩⟩⟩⟩⟩
theorem lw_p64 : lw_okq (⟨"OptimisticStoreModel", "isCommit", "(I)Z"⟩, 31) := ⟨⟨by decide +kernel, by decide +kernel⟩, List.mem_of_getElem? (i := 978) (by decide +kernel), List.mem_of_getElem? (i := 1316) (by decide +kernel), List.mem_of_getElem? (i := 1317) (by decide +kernel)⟩
theorem lw_p65 : lw_okq (⟨"OptimisticStoreModel", "dependencyOf", "(II)I"⟩, 31) := ⟨⟨by decide +kernel, by decide +kernel⟩, List.mem_of_getElem? (i := 978) (by decide +kernel), List.mem_of_getElem? (i := 1324) (by decide +kernel), List.mem_of_getElem? (i := 1325) (by decide +kernel)⟩
theorem lw_p66 : lw_okq (⟨"OptimisticStoreModel", "hasFault", "(I)Z"⟩, 31) := ⟨⟨by decide +kernel, by decide +kernel⟩, List.mem_of_getElem? (i := 978) (by decide +kernel), List.mem_of_getElem? (i := 1337) (by decide +kernel), List.mem_of_getElem? (i := 1338) (by decide +kernel)⟩
theorem lw_p67 : lw_okq (⟨"OptimisticStoreModel", "again", "(I)I"⟩, 31) := ⟨⟨by decide +kernel, by decide +kernel⟩, List.mem_of_getElem? (i := 978) (by decide +kernel), List.mem_of_getElem? (i := 1341) (by decide +kernel), List.mem_of_getElem? (i := 1342) (by decide +kernel)⟩
theorem lw_p68 : lw_okq (⟨"OptimisticStoreModel", "countOf", "(II)I"⟩, 31) := ⟨⟨by decide +kernel, by decide +kernel⟩, List.mem_of_getElem? (i := 978) (by decide +kernel), List.mem_of_getElem? (i := 1361) (by decide +kernel), List.mem_of_getElem? (i := 1362) (by decide +kernel)⟩
theorem lw_p69 : lw_okq (⟨"OptimisticStoreModel", "readScript", "()V"⟩, 31) := ⟨⟨by decide +kernel, by decide +kernel⟩, List.mem_of_getElem? (i := 978) (by decide +kernel), List.mem_of_getElem? (i := 1381) (by decide +kernel), List.mem_of_getElem? (i := 1382) (by decide +kernel)⟩
theorem lw_p70 : lw_okq (⟨"OptimisticStoreModel", "readStep", "()V"⟩, 31) := ⟨⟨by decide +kernel, by decide +kernel⟩, List.mem_of_getElem? (i := 978) (by decide +kernel), List.mem_of_getElem? (i := 1385) (by decide +kernel), List.mem_of_getElem? (i := 1386) (by decide +kernel)⟩
theorem lw_p71 : lw_okq (⟨"OptimisticStoreModel", "goes", "(C)Z"⟩, 31) := ⟨⟨by decide +kernel, by decide +kernel⟩, List.mem_of_getElem? (i := 978) (by decide +kernel), List.mem_of_getElem? (i := 1389) (by decide +kernel), List.mem_of_getElem? (i := 1390) (by decide +kernel)⟩
theorem lw_p72 : lw_okq (⟨"OptimisticStoreModel", "sign", "()I"⟩, 31) := ⟨⟨by decide +kernel, by decide +kernel⟩, List.mem_of_getElem? (i := 978) (by decide +kernel), List.mem_of_getElem? (i := 1393) (by decide +kernel), List.mem_of_getElem? (i := 1394) (by decide +kernel)⟩
theorem lw_p73 : lw_okq (⟨"OptimisticStoreModel", "fault", "()V"⟩, 31) := ⟨⟨by decide +kernel, by decide +kernel⟩, List.mem_of_getElem? (i := 978) (by decide +kernel), List.mem_of_getElem? (i := 1397) (by decide +kernel), List.mem_of_getElem? (i := 1398) (by decide +kernel)⟩
theorem lw_p74 : lw_okq (⟨"OptimisticStoreModel", "readKey", "()I"⟩, 31) := ⟨⟨by decide +kernel, by decide +kernel⟩, List.mem_of_getElem? (i := 978) (by decide +kernel), List.mem_of_getElem? (i := 1401) (by decide +kernel), List.mem_of_getElem? (i := 1402) (by decide +kernel)⟩
theorem lw_p75 : lw_okq (⟨"OptimisticStoreModel", "digits", "(II)I"⟩, 31) := ⟨⟨by decide +kernel, by decide +kernel⟩, List.mem_of_getElem? (i := 978) (by decide +kernel), List.mem_of_getElem? (i := 1405) (by decide +kernel), List.mem_of_getElem? (i := 1406) (by decide +kernel)⟩
theorem lw_p76 : lw_okq (⟨"OptimisticStoreModel", "isDigit", "()Z"⟩, 31) := ⟨⟨by decide +kernel, by decide +kernel⟩, List.mem_of_getElem? (i := 978) (by decide +kernel), List.mem_of_getElem? (i := 1409) (by decide +kernel), List.mem_of_getElem? (i := 1410) (by decide +kernel)⟩
theorem lw_p77 : lw_okq (⟨"OptimisticStoreModel", "expect", "(C)V"⟩, 31) := ⟨⟨by decide +kernel, by decide +kernel⟩, List.mem_of_getElem? (i := 978) (by decide +kernel), List.mem_of_getElem? (i := 1413) (by decide +kernel), List.mem_of_getElem? (i := 1414) (by decide +kernel)⟩
theorem lw_p78 : lw_okq (⟨"OptimisticStoreModel", "doStep", "(II)V"⟩, 31) := ⟨⟨by decide +kernel, by decide +kernel⟩, List.mem_of_getElem? (i := 978) (by decide +kernel), List.mem_of_getElem? (i := 1417) (by decide +kernel), List.mem_of_getElem? (i := 1418) (by decide +kernel)⟩
def lw_privs_5 : List (MethodName × Nat) := [(⟨"OptimisticStoreModel", "isCommit", "(I)Z"⟩, 31), (⟨"OptimisticStoreModel", "dependencyOf", "(II)I"⟩, 31), (⟨"OptimisticStoreModel", "hasFault", "(I)Z"⟩, 31), (⟨"OptimisticStoreModel", "again", "(I)I"⟩, 31), (⟨"OptimisticStoreModel", "countOf", "(II)I"⟩, 31), (⟨"OptimisticStoreModel", "readScript", "()V"⟩, 31), (⟨"OptimisticStoreModel", "readStep", "()V"⟩, 31), (⟨"OptimisticStoreModel", "goes", "(C)Z"⟩, 31), (⟨"OptimisticStoreModel", "sign", "()I"⟩, 31), (⟨"OptimisticStoreModel", "fault", "()V"⟩, 31), (⟨"OptimisticStoreModel", "readKey", "()I"⟩, 31), (⟨"OptimisticStoreModel", "digits", "(II)I"⟩, 31), (⟨"OptimisticStoreModel", "isDigit", "()Z"⟩, 31), (⟨"OptimisticStoreModel", "expect", "(C)V"⟩, 31), (⟨"OptimisticStoreModel", "doStep", "(II)V"⟩, 31)]
theorem lw_r5 : ∀ q ∈ lw_privs_5, lw_okq q := List.forall_mem_cons.mpr ⟨lw_p64, List.forall_mem_cons.mpr ⟨lw_p65, List.forall_mem_cons.mpr ⟨lw_p66, List.forall_mem_cons.mpr ⟨lw_p67, List.forall_mem_cons.mpr ⟨lw_p68, List.forall_mem_cons.mpr ⟨lw_p69, List.forall_mem_cons.mpr ⟨lw_p70, List.forall_mem_cons.mpr ⟨lw_p71, List.forall_mem_cons.mpr ⟨lw_p72, List.forall_mem_cons.mpr ⟨lw_p73, List.forall_mem_cons.mpr ⟨lw_p74, List.forall_mem_cons.mpr ⟨lw_p75, List.forall_mem_cons.mpr ⟨lw_p76, List.forall_mem_cons.mpr ⟨lw_p77, List.forall_mem_cons.mpr ⟨lw_p78, fun _ h => absurd h List.not_mem_nil⟩⟩⟩⟩⟩⟩⟩⟩⟩⟩⟩⟩⟩⟩⟩
def lw_privs : List (MethodName × Nat) := lw_privs_1 ++ (lw_privs_2 ++ (lw_privs_3 ++ (lw_privs_4 ++ (lw_privs_5))))
def lw_tbl : List Cond := k2_sels lw_privs ++ tables_1
theorem lw_privs_ok : ∀ q ∈ lw_privs, lw_okq q := by
  show ∀ q ∈ lw_privs_1 ++ (lw_privs_2 ++ (lw_privs_3 ++ (lw_privs_4 ++ (lw_privs_5)))), lw_okq q
  exact List.forall_mem_append.mpr ⟨lw_r1, List.forall_mem_append.mpr ⟨lw_r2, List.forall_mem_append.mpr ⟨lw_r3, List.forall_mem_append.mpr ⟨lw_r4, lw_r5⟩⟩⟩⟩
/-- the streams that the claim lets the run draw from -/
abbrev lw_cs : List Choice := [Jvm.Choice.named "NaN.bits"]
theorem lw_bits : nanBits ∈ lw_cs := by first | decide | exact List.mem_cons_self | simp [lw_cs, nanBits]
-- ===== end of PART A; then your names; then what follows =====
end
section
/-- an array of arrays: the word of the tables (the kit's pasted rows name it and don't hold it) -/
def va_AOA (ty : FieldType) (U : State) : Prop := (Cond.arrayOver (.array ty)).before #[] U = true
theorem va_AOA.use {ty : FieldType} {A : Array Value} {U : State} (h : va_AOA ty U) : (Cond.arrayOver (.array ty)).before A U = true := h
end
section
/-! ===== BEGIN words of one list among another's, by their places ===== -/
theorem goodIn_r {big : List Cond} (ws : List Cond) (ps : List Nat) (hp : ws = ps.filterMap (fun i => big[i]?)) (h : ws.all goodWord = true) : GoodIn big ws := by
  intro w hw
  have h1 := List.all_eq_true.mp h w hw
  rw [hp] at hw
  obtain ⟨i, -, hi⟩ := List.mem_filterMap.mp hw
  have hm : w ∈ big := by first | exact List.mem_of_getElem? hi | exact List.getElem?_mem hi
  exact ⟨hm, good_of_word h1⟩
theorem goodIn_app {big a b : List Cond} (ha : GoodIn big a) (hb : GoodIn big b) : GoodIn big (a ++ b) := fun w h => (List.mem_append.mp h).elim (ha w) (hb w)
theorem goodIn_ca {big a b : List Cond} {c : Cond} (ha : GoodIn big (c :: a)) (hb : GoodIn big b) : GoodIn big (c :: (a ++ b)) := fun w h => (List.mem_cons.mp h).elim (fun e => ha w (List.mem_cons.mpr (Or.inl e))) (fun h => (List.mem_append.mp h).elim (fun h => ha w (List.mem_cons.mpr (Or.inr h))) (hb w))
theorem goodIn_sub {big ws : List Cond} (hm : ∀ w ∈ ws, w ∈ big) (h : ws.all goodWord = true) : GoodIn big ws := fun w hw => ⟨hm w hw, good_of_word (List.all_eq_true.mp h w hw)⟩
/-! ===== END ===== -/

/-! ===== BEGIN new T[n][m]: the outer array a place, the inner ones among the pooled ===== -/
/-- f, but v at every address of l -/
def vr_up {α : Type} (f : Nat → α) (l : List Nat) (v : α) : Nat → α := fun a => if a ∈ l then v else f a
theorem vr_up_in {α : Type} {f : Nat → α} {l : List Nat} {v : α} {a : Nat} (h : a ∈ l) : vr_up f l v a = v := if_pos h
theorem vr_up_ne {α : Type} {f : Nat → α} {l : List Nat} {v : α} {a : Nat} (h : a ∉ l) : vr_up f l v a = f a := if_neg h
theorem vr_rows {L l : List Nat} {f : Nat → va_E} {e : va_E} (h : ∀ a, a ∈ l → a ∉ L) : va_pl L f ++ l.map (fun a => (a, e)) = va_pl (L ++ l) (vr_up f l e) := by
  unfold va_pl
  rw [List.map_append]
  congr 1
  · apply List.map_congr_left
    intro a ha
    rw [vr_up_ne (fun q => h a q ha)]
  · apply List.map_congr_left
    intro a ha
    rw [vr_up_in ha]
theorem vr_lay {X rows : va_W} {x : Nat × va_E} {pl : va_W} {D : va_G} {cl : List vw_C} {H : Heap} (hP : va_P D cl (((X ++ pl) ++ [x]) ++ rows) H) : va_P D cl ((X ++ [x]) ++ (pl ++ rows)) H := by
  rw [List.append_assoc (X ++ pl)] at hP
  have h := va_P.swap hP
  rw [← List.append_assoc X] at h
  have h2 := va_P.swap h
  rw [List.append_assoc (X ++ [x])] at h2
  exact h2
theorem vr_layD {X rows : va_W} {x : Nat × va_E} {pl : va_W} {A : Nat → Prop} (hD : va_D A (((X ++ pl) ++ [x]) ++ rows)) : va_D A ((X ++ [x]) ++ (pl ++ rows)) := by
  rw [List.append_assoc (X ++ pl)] at hD
  have h := va_D.swap hD
  rw [← List.append_assoc X] at h
  have h2 := va_D.swap h
  rw [List.append_assoc (X ++ [x])] at h2
  exact h2
theorem vr_outer (c : ClassId) (N h0 : Nat) : ∀ i : Nat, Jvm.Free.Multi.outerC c N h0 i = arrV c N (fun j => va_rf (if j < i then some (h0 + 1 + j) else none))
  | 0 => by
    show ({ cls := c, slots := Array.replicate N .null, vm := .none } : Cell) = _
    rw [arrV_new]
    refine congrArg (arrV c N) (funext fun j => ?_)
    simp [va_rf]
  | i + 1 => by
    show (Jvm.Free.Multi.outerC c N h0 i).setSlot i (.ref (h0 + 1 + i)) = _
    rw [vr_outer c N h0 i, arrV_store]
    refine congrArg (arrV c N) (funext fun j => ?_)
    by_cases e : j = i
    · subst e
      simp [updV, va_rf]
    · by_cases h : j < i
      · simp [updV, e, h, Nat.lt_succ_of_lt h]
      · simp [updV, e, h, show ¬ j < i + 1 by omega]
section VGM
variable {p : Program} {l : Launch} {e : Env} {R : Room} {s : State} {m : MethodId} {args : Array Value} {below : List Frame} {meth : Method} {c : Code} {H : Heap} {locs : List Loc} {cells slots : Nat} {Q : State → Prop}
variable {cc : ByteArray} {pc : Nat} {ls : Array Slot} {rest : List Value} {D : va_G} {cl : List vw_C} {A : Nat → Prop} {a : Nat} {tys : List (ClassId × FieldType)} {ws : va_W} {H0 : Heap}
theorem va_mna {X : va_W} {L : List Nat} {f : Nat → va_E} {cc : ByteArray} (hexec : p.tables.exec = Jvm.exec) (hb : c.code = cc) {own : String} {index : Nat} {ty : FieldType} {cy : ClassId} (hown : s.vm.findClass own = some m.cls) (hclink : (Cond.classLink own index ("[" ++ (FieldType.array ty).toString)).before args s = true) (hover : va_AOA ty s) (harr : (Cond.arrayClass ty).before args s = true) (hcy : s.vm.findClass (FieldType.array ty).toString = some cy)
    (hK : va_K D cl tys s) (hP : va_P D cl (X ++ va_pl L f) H) (hD : va_D A (X ++ va_pl L f)) (hS : va_S A H0 H locs) (hA : ∀ q, H0.size ≤ q → A q) {n k : Int32} {N' K' : Nat} {z : vp_A} (hn : ¬ n < 0) (hk : ¬ k < 0) (hN : n.toNatClampNeg = N') (hM : k.toNatClampNeg = K')
    (hb1 : N' * 4 ≤ 536870912) (hb2 : K' * componentBytes ty ≤ 536870912) (hb3 : K' ≤ 536870912) (hdf : fits ty (defaultValue ty) = true) (hdd : (defaultValue ty).isDefault = true) (hcells : cells + (1 + N') ≤ R.cells) (hslots : slots + (N' + N' * K') ≤ R.slots) (hz : ∀ c : ClassId, Jvm.Free.Multi.innerC c K' (defaultValue ty) = vp_cell c z) (hdg : decode cc pc = .ok (.multianewarray index 2, 4))
    (kk : ∀ (q : Nat) (r : Nat → Nat) (cA : ClassId) (H1 : Heap), (∀ i j : Nat, i < N' → j < N' → r i = r j → i = j) → (∀ i : Nat, i < N' → r i ∉ L) → va_K D cl (tys ++ [(cA, .array ty)]) s →
      va_P D cl ((X ++ [(q, .inl (cA, N', .inr (.inr (.inr (.inr (fun i => if i < N' then some (r i) else none))))))]) ++ va_pl (L ++ (List.range N').map r) (vr_up f ((List.range N').map r) (.inl (cy, z)))) H1 → va_D A ((X ++ [(q, .inl (cA, N', .inr (.inr (.inr (.inr (fun i => if i < N' then some (r i) else none))))))]) ++ va_pl (L ++ (List.range N').map r) (vr_up f ((List.range N').map r) (.inl (cy, z)))) → va_S A H0 H1 locs →
      W p l e R s m args below meth c H1 locs (cells + 1 + N') (slots + N' + N' * K') Q (F0 m (pc + 4) ls (.ref q :: rest))) : W p l e R s m args below meth c H locs cells slots Q (F0 m pc ls (.int k :: .int n :: rest)) := by
  subst hN
  subst hM
  intro T hT Xs
  obtain ⟨vm₁, cA, comp, -, fA, fC, hO, -, X', step⟩ := Xs.multianewarray2F hexec hown hclink (va_AOA.use hover) harr (g := F0 m pc ls (.int k :: .int n :: rest)) rfl (by rw [hb]; exact hdg) rfl hn hk hb1 hb2 hb3 hdf hdd hcells hslots
  have ec : some cy = some comp := hcy.symm.trans fC
  cases ec
  generalize hF : Jvm.Free.Multi.fill (T.setVm vm₁) cA cy n.toNatClampNeg k.toNatClampNeg (defaultValue ty) n.toNatClampNeg = F at X' step
  have hTh : (T.setVm vm₁).heap = H := hT
  obtain ⟨f1, f2, -, -⟩ := Jvm.Free.Multi.fill_facts (T.setVm vm₁) cA cy n.toNatClampNeg k.toNatClampNeg (defaultValue ty) n.toNatClampNeg
  rw [hF, hTh] at f1 f2
  have hold : ∀ x : Nat, x < H.size → F.heap[x]? = H[x]? := fun x hx => by
    have := Jvm.Free.Multi.fill_old (T.setVm vm₁) cA cy n.toNatClampNeg k.toNatClampNeg (defaultValue ty) (a := x) (by rw [hTh]; exact hx) n.toNatClampNeg
    rw [hF, hTh] at this
    exact this
  have hrow : ∀ j : Nat, j < n.toNatClampNeg → F.heap[H.size + 1 + j]? = some (vp_cell cy z) := fun j hj => by
    have := Jvm.Free.Multi.fill_inner (T.setVm vm₁) cA cy n.toNatClampNeg k.toNatClampNeg (defaultValue ty) n.toNatClampNeg j hj
    rw [hF, hTh, hz] at this
    exact this
  have hout : Jvm.Free.Multi.outerC cA n.toNatClampNeg H.size n.toNatClampNeg = vp_cell cA (n.toNatClampNeg, .inr (.inr (.inr (.inr (fun i => if i < n.toNatClampNeg then some (H.size + 1 + i) else none))))) := by
    rw [vp_cell_q]
    exact vr_outer cA n.toNatClampNeg H.size n.toNatClampNeg
  rw [hout] at f2
  have hlt : ∀ a, a ∈ L → a < H.size := fun a ha => by
    obtain ⟨k9, hk9⟩ := va_pl_get (X := X) (f := f) ha
    exact (hP k9 _ hk9).lt
  have hnl : ∀ i : Nat, i < n.toNatClampNeg → H.size + 1 + i ∉ L := fun i _ h => by
    have := hlt _ h
    omega
  have hnm : ∀ a, a ∈ (List.range n.toNatClampNeg).map (fun i => H.size + 1 + i) → a ∉ L := fun a ha h => by
    obtain ⟨i, -, rfl⟩ := List.mem_map.mp ha
    have := hlt _ h
    omega
  have hP0 : va_P D cl (X ++ va_pl L f) F.heap := hP.kept (fun k9 x hx => hold x.1 ((hP k9 x hx).lt))
  have hP1 : va_P D cl ((X ++ va_pl L f) ++ [(H.size, .inl (cA, n.toNatClampNeg, .inr (.inr (.inr (.inr (fun i => if i < n.toNatClampNeg then some (H.size + 1 + i) else none))))))]) F.heap := hP0.app (fun k9 x hx => by
    have h0 : k9 < 1 := (List.getElem?_eq_some_iff.mp hx).1
    rw [show k9 = 0 by omega] at hx
    cases hx
    exact f2)
  have hP2 : va_P D cl (((X ++ va_pl L f) ++ [(H.size, .inl (cA, n.toNatClampNeg, .inr (.inr (.inr (.inr (fun i => if i < n.toNatClampNeg then some (H.size + 1 + i) else none))))))]) ++ ((List.range n.toNatClampNeg).map (fun i => H.size + 1 + i)).map (fun a => (a, .inl (cy, z)))) F.heap := hP1.app (fun k9 x hx => by
    obtain ⟨a, ha, rfl⟩ := List.mem_map.mp (List.mem_of_getElem? hx)
    obtain ⟨i, hi, rfl⟩ := List.mem_map.mp ha
    exact hrow i (List.mem_range.mp hi))
  have hD2 : va_D A (((X ++ va_pl L f) ++ [(H.size, .inl (cA, n.toNatClampNeg, .inr (.inr (.inr (.inr (fun i => if i < n.toNatClampNeg then some (H.size + 1 + i) else none))))))]) ++ ((List.range n.toNatClampNeg).map (fun i => H.size + 1 + i)).map (fun a => (a, .inl (cy, z)))) := by
    have hD1 := hD.push (e := .inl (cA, n.toNatClampNeg, .inr (.inr (.inr (.inr (fun i => if i < n.toNatClampNeg then some (H.size + 1 + i) else none)))))) hP rfl (hA _ hS.1)
    generalize hW1 : (X ++ va_pl L f) ++ [(H.size, .inl (cA, n.toNatClampNeg, .inr (.inr (.inr (.inr (fun i => if i < n.toNatClampNeg then some (H.size + 1 + i) else none))))))] = W1 at hD1 hP1 ⊢
    have hle : ∀ (k9 : Nat) (x : Nat × va_E), W1[k9]? = some x → x.1 ≤ H.size := fun k9 x hx => by
      rw [← hW1] at hx
      by_cases hl : k9 < (X ++ va_pl L f).length
      · rw [List.getElem?_append_left hl] at hx
        exact Nat.le_of_lt ((hP k9 x hx).lt)
      · rw [List.getElem?_append_right (by omega)] at hx
        have h0 : k9 - (X ++ va_pl L f).length < 1 := (List.getElem?_eq_some_iff.mp hx).1
        rw [show k9 - (X ++ va_pl L f).length = 0 by omega] at hx
        cases hx
        exact Nat.le_refl _
    have hr : ∀ (k9 : Nat) (x : Nat × va_E), (((List.range n.toNatClampNeg).map (fun i => H.size + 1 + i)).map (fun a => ((a, .inl (cy, z)) : Nat × va_E)))[k9]? = some x → x.1 = H.size + 1 + k9 := fun k9 x hx => by
      rw [List.getElem?_map, List.getElem?_map] at hx
      by_cases h9 : k9 < n.toNatClampNeg
      · rw [List.getElem?_range h9] at hx
        cases hx
        rfl
      · have hn0 : (List.range n.toNatClampNeg)[k9]? = none := List.getElem?_eq_none (by rw [List.length_range]; omega)
        rw [hn0] at hx
        cases hx
    refine ⟨fun i j x y hi hj hxy => ?_, fun k9 x hx => ?_⟩
    · by_cases h1 : i < W1.length <;> by_cases h2 : j < W1.length
      · rw [List.getElem?_append_left h1] at hi
        rw [List.getElem?_append_left h2] at hj
        exact hD1.1 i j x y hi hj hxy
      · rw [List.getElem?_append_left h1] at hi
        rw [List.getElem?_append_right (by omega)] at hj
        have := hle _ _ hi
        have := hr _ _ hj
        omega
      · rw [List.getElem?_append_right (by omega)] at hi
        rw [List.getElem?_append_left h2] at hj
        have := hle _ _ hj
        have := hr _ _ hi
        omega
      · rw [List.getElem?_append_right (by omega)] at hi hj
        have := hr _ _ hi
        have := hr _ _ hj
        omega
    · by_cases h1 : k9 < W1.length
      · rw [List.getElem?_append_left h1] at hx
        exact hD1.2 k9 x hx
      · rw [List.getElem?_append_right (by omega)] at hx
        have := hr _ _ hx
        exact hA _ (by have := hS.1; omega)
  have hAr : ArrOfT s cA (.array ty) := fun N9 z9 => by
    obtain ⟨-, k9, hk9, cm9, hkk9⟩ := (hO 0 0 0).1
    exact ⟨(fun q hq => by cases hq), k9, hk9, cm9, hkk9⟩
  have hK2 : va_K D cl (tys ++ [(cA, .array ty)]) s := ⟨hK.1, fun k9 x hx => by
    by_cases hl : k9 < tys.length
    · rw [List.getElem?_append_left hl] at hx
      exact hK.2 k9 x hx
    · rw [List.getElem?_append_right (by omega)] at hx
      have h0 : k9 - tys.length < 1 := (List.getElem?_eq_some_iff.mp hx).1
      rw [show k9 - tys.length = 0 by omega] at hx
      cases hx
      exact ⟨hAr, fA⟩⟩
  obtain ⟨t, a1, b1⟩ := kk H.size (fun i => H.size + 1 + i) cA F.heap (fun i j _ _ h => by have h9 : H.size + 1 + i = H.size + 1 + j := h; omega) hnl hK2 (by rw [← vr_rows hnm]; exact vr_lay hP2) (by rw [← vr_rows hnm]; exact vr_layD hD2) ⟨by rw [f1]; have := hS.1; omega, fun x h1 h2 => (hold x (Nat.lt_of_lt_of_le h1 hS.1)).trans (hS.2.1 x h1 h2), hS.2.2⟩ F rfl X'
  refine ⟨t, step t ?_, b1⟩
  have e : T.heap.size = H.size := by rw [hT]
  rw [e]
  exact a1
end VGM
/-! ===== END ===== -/

/-! ===== BEGIN exceptions that leave a method, and their catching by the caller (launches without stack traces) ===== -/
section VXA
/-! The laws vx_back, vx_callV, vx_callS, vx_callSW, vx_throw0, vx_throwS follow proofs of the library, with one case more: JvmDerived/Free/Laws.lean (Back.of_free), Shelf42/LK1.lean (callV, callS), Shelf/KitTraced.lean (throwNew0V, throwNewS). -/
/-- where a method has thrown q: the class by its name, the cell, what was written, the world -/
def vx_T (XC : String → State → State → Prop) (st : State) (q : Addr) (t : State) (mc ms : Nat) (free : Addr → Prop) : Prop :=
  ∃ (E : String) (ce : Cell) (L : List Loc), XC E st t ∧ t.heap[q]? = some ce ∧ ce.vm = .none ∧ st.vm.findClass E = some ce.cls ∧ st.WarmedH t.vm ∧ st.sameButNew ({ t with vm := st.vm } : State) L mc ms ∧ ∀ z ∈ L, free z.base
def vx_Q (Qc : Array Value → State → Outcome → State → Prop) (XC : String → State → State → Prop) (mc ms : Nat) (free : Addr → Prop) : Array Value → State → Outcome → State → Prop := fun a st o t =>
  (Qc a st o t ∧ ∃ L, FrameEnd st o t L mc ms ∧ ∀ q ∈ L, free q.base) ∨ ∃ q, o = .threw q ∧ vx_T XC st q t mc ms free
/-- a callee that returns or throws -/
def vx_Met (l : Launch) (y : MethodName) (ws : List Cond) (rm : Room) (Pc : Array Value → State → Prop) (Qc : Array Value → State → Outcome → State → Prop) (XC : String → State → State → Prop) (mc ms : Nat) (free : Addr → Prop) : Prop :=
  MetFree l y (headSpec ws rm) Pc (fun _ _ _ _ _ => True) (vx_Q Qc XC mc ms free)
def vx_Post (XC : String → State → State → Prop) (mc ms : Nat) (free : Addr → Prop) : Pt → Array Value → Addr → Pt → Prop := fun A a q B =>
  ∃ (g : JFrame) (mk : MethodId) (t : State) (L : List Loc) (E : String) (ce : Cell), B.U.heap = t.heap ∧ B.U.vm = t.vm ∧ XC E (A.U.calling g mk a) t ∧ t.heap[q]? = some ce ∧ ce.vm = .none ∧ A.U.vm.findClass E = some ce.cls ∧ B.locs = A.locs ++ L ∧ (∀ z ∈ L, free z.base) ∧ B.cells = A.cells + mc ∧ B.slots = A.slots + ms
def vx_Back (l : Launch) (R : Room) (p : Program) (e : Env) (below : List Frame) (s : State) (sargs : Array Value) (y : MethodName) (len W9 : Nat)
    (Pre : Pt → Array Value → Prop) (Post : Pt → Array Value → Option Value → Pt → Prop) (PostX : Pt → Array Value → Addr → Pt → Prop) : Prop :=
  ∀ (m : MethodId) (meth : Method) (c : Code) (A : Pt) (g : JFrame) (ig : Instr) (mk : MethodId) (a : Array Value),
    Stand p l e R s m sargs below meth c A.U A.locs A.cells A.slots → g.method = m → g.locals.size = c.maxLocals → decode c.code g.pc = .ok (ig, len) →
    2 * g.monitorRoom + (g.stack.map fun v => v.category).sum ≤ W9 → A.U.methodNamed? y = some mk → Pre A a →
    (∃ (v : Option Value) (B : Pt), Stand p l e R s m sargs below meth c B.U B.locs B.cells B.slots ∧ Post A a v B ∧
      Steps p.tables e below (doInvoke e (A.U.setTop g) [] mk a).1 (B.U.setTop { g with pc := g.pc + len, stack := v.toList ++ g.stack })) ∨
    (∃ (q : Addr) (B : Pt), Stand p l e R s m sargs below meth c B.U B.locs B.cells B.slots ∧ PostX A a q B ∧
      Steps p.tables e below (doInvoke e (A.U.setTop g) [] mk a).1 ((B.U.setTop g).pushFrame (.throwing q)))
section Payer
variable {l : Launch} {R : Room} {p : Program} {e : Env} {below : List Frame} {s : State} {sargs : Array Value} {y : MethodName} {len W9 : Nat}
theorem vx_back {ws : List Cond} {rm : Room} {Pc : Array Value → State → Prop} {Qc : Array Value → State → Outcome → State → Prop} {XC : String → State → State → Prop} {mc ms : Nat} {free : Addr → Prop} {bytes : ByteArray} {maxL : Nat} {ret : Option FieldType}
    (hM : vx_Met l y ws rm Pc Qc XC mc ms free) (hblind : FrameBlind Pc) (hrc : rm.cells = mc) (hrs : rm.slots = ms)
    (hframes : rm.frames + 1 ≤ R.frames) (hlocals : W9 + (maxL + 11) + rm.locals ≤ R.locals)
    (hws : ∀ w ∈ ws, ∀ a' U, s.WarmedH U.vm → w.before a' U = true) (hcode : Cond.code y bytes maxL ret ∈ ws) (hinit : ∀ a' U, s.WarmedH U.vm → (Cond.initialized y.cls).before a' U = true) :
    vx_Back l R p e below s sargs y len W9 (PreOf R mc ms Pc) (PostOf Qc mc ms free) (vx_Post XC mc ms free) := by
  intro m meth c A g ig mk a X hg hsize hdg hW hn hp
  have h1 : (headSpec ws rm).pre.before a A.U = true := atoms_intro fun w hw => hws w hw _ _ X.warmed
  have h2 : (Cond.code y bytes maxL ret).before a A.U = true := hws _ hcode _ _ X.warmed
  have h3 : (Cond.initialized y.cls).before a A.U = true := hinit _ _ X.warmed
  have h4 : A.cells + (headSpec ws rm).room.cells ≤ R.cells := by rw [show (headSpec ws rm).room.cells = mc from hrc]; exact hp.1
  have h5 : A.slots + (headSpec ws rm).room.slots ≤ R.slots := by rw [show (headSpec ws rm).room.slots = ms from hrs]; exact hp.2.1
  have hPc : Pc a (A.U.calling g mk a) := hblind _ _ _ _ hp.2.2
  obtain ⟨U, Ls, c0, s0⟩ := A
  dsimp only [Pt.U, Pt.locs, Pt.cells, Pt.slots] at h1 h2 h3 h4 h5 X hn hPc ⊢
  obtain ⟨methY, cY, hmY, hcY, -, hlY, -, -, -, -⟩ := Cond.code_spec hn h2
  obtain ⟨kY, hkY, -⟩ := className_of_methodNamed hn
  have hinitY : kY.init = .initialized := Cond.initialized_spec (findClass_of_methodNamed hn) hkY h3
  have h : At U g.method c below := by rw [hg]; exact X.here
  have hlocals9 : W9 + (maxL + 11) + (headSpec ws rm).room.locals ≤ R.locals := hlocals
  have happ : (headSpec ws rm).appliesLoose y e.platform (U.calling g mk a) = true :=
    Spec.appliesLoose_calling (g := g) h hdg hn hkY hinitY
      (X.room_calling (g := g) (R' := (headSpec ws rm).room) hsize hmY hcY hframes (by rw [hlY]; omega) h4 h5) h1
  obtain ⟨mid, hmid⟩ := h.above
  have hfr : (U.setTop g).frames = (.java g :: mid) ++ below := by rw [State.frames_setTop' g h.top, hmid]; rfl
  obtain ⟨o, s₂, hsteps, -, hend, hq⟩ := Steps.callFree hM p X.admits X.cas X.clock (acts := []) hfr happ hPc trivial
  have hq' : vx_Q Qc XC mc ms free a (U.calling g mk a) o s₂ := hq
  rw [State.frames_setTop' g h.top] at hend
  obtain ⟨g₀, hg0⟩ := Option.isSome_iff_exists.mp h.top
  obtain ⟨r, hr⟩ := State.topJava?_eq_some.mp hg0
  have hr' : (({ U with heap := s₂.heap, slotsUsed := s₂.slotsUsed } : State).setVm s₂.vm).frames = .java g₀ :: r := hr
  rcases hq' with ⟨hqc, L, hfe, hL⟩ | ⟨q, rfl, E, ce, L, hx, hce, hcv, hcl, hW₂, hsm, hL⟩
  · obtain ⟨⟨v, rfl⟩, hW₂, e2, q2, q3, q4, q5, q6⟩ := id hfe
    have e3 : s₂ = ({ (U.calling g mk a).setFrames s₂.frames with heap := s₂.heap, slotsUsed := s₂.slotsUsed } : State).setVm s₂.vm := by
      have : s₂ = ({ s₂ with vm := (U.calling g mk a).vm } : State).setVm s₂.vm := rfl
      rw [e2] at this
      exact this
    obtain ⟨c₂, i₂, len₂, hc₂, hd₂, hf₂⟩ := hend
    have hW' : U.WarmedH s₂.vm := hW₂
    have hcc : c₂ = c := by
      have h1 : s₂.code? g.method = U.code? g.method := by
        rw [State.code?_eq, State.code?_eq, hW'.alike.method?]
      exact Option.some.inj (hc₂.symm.trans (h1.trans h.code))
    subst hcc
    have hlen : len₂ = len := by rw [hdg] at hd₂; cases hd₂; rfl
    subst hlen
    have hs₂ : s₂ = (({ U with heap := s₂.heap, slotsUsed := s₂.slotsUsed } : State).setVm s₂.vm).setTop { g with pc := g.pc + len₂, stack := v.toList ++ g.stack } := by
      refine e3.trans ?_
      rw [hf₂, State.calling_eq h.top, State.setFrames_setFrames, State.setTop_of_frames _ hr', hr]
      rfl
    have hsame : U.sameButNew ({ U with heap := s₂.heap, slotsUsed := s₂.slotsUsed } : State) L mc ms := by
      refine ⟨?_, q2, q3, q4, q5, q6⟩
      obtain ⟨t, ht, -⟩ := State.frames_cons hr
      show ({ U with heap := s₂.heap, slotsUsed := s₂.slotsUsed } : State) = { U.setFrames U.frames with heap := s₂.heap, slotsUsed := s₂.slotsUsed }
      rw [State.setFrames_self ht]
    subst hg
    refine Or.inl ⟨v, ⟨(({ U with heap := s₂.heap, slotsUsed := s₂.slotsUsed } : State).setVm s₂.vm), Ls ++ L, c0 + mc, s0 + ms⟩,
      ⟨X.admits, X.cas, X.clock, X.frames, X.room, X.hears, X.method, X.code, (X.here.setHeapUsed s₂.heap s₂.slotsUsed).setVm hW'.alike, X.tail, State.WarmedH.trans X.warmed hW', X.limits, X.bytes, X.same.trans (hsame.setVm s.vm)⟩,
      ⟨g, mk, s₂, L, rfl, rfl, hqc, rfl, hL, rfl, rfl⟩, ?_⟩
    show Steps p.tables e below _ ((({ U with heap := s₂.heap, slotsUsed := s₂.slotsUsed } : State).setVm s₂.vm).setTop { g with pc := g.pc + len₂, stack := v.toList ++ g.stack })
    rw [← hs₂]
    exact hsteps
  · obtain ⟨e2, q2, q3, q4, q5, q6⟩ := id hsm
    have e3 : s₂ = ({ (U.calling g mk a).setFrames s₂.frames with heap := s₂.heap, slotsUsed := s₂.slotsUsed } : State).setVm s₂.vm := by
      have : s₂ = ({ s₂ with vm := (U.calling g mk a).vm } : State).setVm s₂.vm := rfl
      rw [e2] at this
      exact this
    have hf₂ : s₂.frames = .throwing q :: .java g :: U.frames.tail := hend
    have hW' : U.WarmedH s₂.vm := hW₂
    have hs₂ : s₂ = ((({ U with heap := s₂.heap, slotsUsed := s₂.slotsUsed } : State).setVm s₂.vm).setTop g).pushFrame (.throwing q) := by
      refine e3.trans ?_
      rw [hf₂, State.calling_eq h.top, State.setFrames_setFrames, State.pushFrame, State.frames_setTop _ hr', State.setTop_of_frames _ hr', State.setFrames_setFrames, hr]
      rfl
    have hsame : U.sameButNew ({ U with heap := s₂.heap, slotsUsed := s₂.slotsUsed } : State) L mc ms := by
      refine ⟨?_, q2, q3, q4, q5, q6⟩
      obtain ⟨t, ht, -⟩ := State.frames_cons hr
      show ({ U with heap := s₂.heap, slotsUsed := s₂.slotsUsed } : State) = { U.setFrames U.frames with heap := s₂.heap, slotsUsed := s₂.slotsUsed }
      rw [State.setFrames_self ht]
    subst hg
    refine Or.inr ⟨q, ⟨(({ U with heap := s₂.heap, slotsUsed := s₂.slotsUsed } : State).setVm s₂.vm), Ls ++ L, c0 + mc, s0 + ms⟩,
      ⟨X.admits, X.cas, X.clock, X.frames, X.room, X.hears, X.method, X.code, (X.here.setHeapUsed s₂.heap s₂.slotsUsed).setVm hW'.alike, X.tail, State.WarmedH.trans X.warmed hW', X.limits, X.bytes, X.same.trans (hsame.setVm s.vm)⟩,
      ⟨g, mk, s₂, L, E, ce, rfl, rfl, hx, hce, hcv, hcl, rfl, hL, rfl, rfl⟩, ?_⟩
    show Steps p.tables e below _ (((({ U with heap := s₂.heap, slotsUsed := s₂.slotsUsed } : State).setVm s₂.vm).setTop g).pushFrame (.throwing q))
    rw [← hs₂]
    exact hsteps
end Payer
section Calls
variable {p : Program} {l : Launch} {e : Env} {R : Room} {s : State} {m : MethodId} {args : Array Value} {below : List Frame} {meth : Method} {c : Code} {T : State} {locs : List Loc} {cells slots : Nat}
theorem vx_callV (X : Stand p l e R s m args below meth c T locs cells slots) (hexec : p.tables.exec = Jvm.exec) {own C : String} {index : Nat} {y : MethodName} {bytes : ByteArray} {maxL : Nat} {ret : Option FieldType}
    (hown : s.vm.findClass own = some m.cls) (hlink : (Cond.methodLink own index y).before args s = true) (hinst : (Cond.instanceMethod y).before args s = true) (hsel : (Cond.selects C y y).before args s = true)
    (hcode : (Cond.code y bytes maxL ret).before args s = true) (hy : y.cls ≠ "java/lang/invoke/MethodHandle" ∧ y.cls ≠ "java/lang/invoke/VarHandle")
    {W9 : Nat} {Pre : Pt → Array Value → Prop} {Post : Pt → Array Value → Option Value → Pt → Prop} {PostX : Pt → Array Value → Addr → Pt → Prop} (hK : vx_Back l R p e below s args y 3 W9 Pre Post PostX)
    {b : Addr} {cellB : Cell} (hcell : T.heap[b]? = some cellB) (hobj : cellB.vm.isStatics = false) (hcls : s.vm.findClass C = some cellB.cls)
    {g : JFrame} (hg : g.method = m) (hsize : g.locals.size = c.maxLocals) {argsL rest : List Value} (hlen : ∀ sig, parseMethodDescriptor y.desc = some sig → argsL.length = sig.parameters.length)
    (hstack : g.stack = argsL.reverse ++ .ref b :: rest) (hW : 2 * g.monitorRoom + (rest.map fun v => v.category).sum ≤ W9) (hdg : decode c.code g.pc = .ok (.invokevirtual index, 3))
    (hpre : ∀ vm₁, s.WarmedH vm₁ → Pre ⟨T.setVm vm₁, locs, cells, slots⟩ (Value.ref b :: argsL).toArray) :
    (∃ (v : Option Value) (vm₁ : Vm) (B : Pt), s.WarmedH vm₁ ∧ Stand p l e R s m args below meth c B.U B.locs B.cells B.slots ∧ Post ⟨T.setVm vm₁, locs, cells, slots⟩ (Value.ref b :: argsL).toArray v B ∧
      ∀ target, Steps p.tables e below (B.U.setTop { g with pc := g.pc + 3, stack := v.toList ++ rest }) target → Steps p.tables e below (T.setTop g) target) ∨
    (∃ (q : Addr) (vm₁ : Vm) (B : Pt), s.WarmedH vm₁ ∧ Stand p l e R s m args below meth c B.U B.locs B.cells B.slots ∧ PostX ⟨T.setVm vm₁, locs, cells, slots⟩ (Value.ref b :: argsL).toArray q B ∧
      Steps p.tables e below (T.setTop g) ((B.U.setTop { g with stack := rest }).pushFrame (.throwing q))) := by
  obtain ⟨mk, methM, hnamed, hmethM, hstM, habM⟩ := Cond.instanceMethod_spec hinst
  obtain ⟨methM', cM, hmethM', -, -, -, -, -, -, hsigM⟩ := Cond.code_spec hnamed hcode
  cases hmethM.symm.trans hmethM'
  obtain ⟨c2, r2, m2, q1, q2, q3, q4, kP, hkP, hkPi⟩ := Cond.selects_spec hsel
  cases hcls.symm.trans q1
  cases (State.methodFound?_of_named hnamed hy).symm.trans q2
  cases hnamed.symm.trans q3
  have hselP : selectMethod e.platform s.vm cellB.cls mk = .method mk := by rw [Launch.admits_selectMethod X.admits]; exact q4
  obtain ⟨vm₁, X₁, hstep₁⟩ := X.invokevirtual hexec hown hlink hnamed hmethM hstM hkP hkPi hy (a := b) (cell := cellB) hcell
    (fun z h => by rw [h] at hobj; cases hobj) hselP hmethM habM hkP hkPi (g := g) hg (argsL := argsL) (rest := rest) (hlen _ hsigM) hstack hdg
  rcases hK m meth c ⟨T.setVm vm₁, locs, cells, slots⟩ { g with stack := rest } (.invokevirtual index) mk (Value.ref b :: argsL).toArray X₁ hg hsize hdg hW (X₁.named hnamed) (hpre vm₁ X₁.warmed) with ⟨v, B, X', hpost, hsteps⟩ | ⟨q, B, X', hpost, hsteps⟩
  · exact Or.inl ⟨v, vm₁, B, X₁.warmed, X', hpost, fun target h => hstep₁ _ fun acts => by rw [doInvoke_state]; exact hsteps.trans h⟩
  · exact Or.inr ⟨q, vm₁, B, X₁.warmed, X', hpost, hstep₁ _ fun acts => by rw [doInvoke_state]; exact hsteps⟩
theorem vx_callS (X : Stand p l e R s m args below meth c T locs cells slots) (hexec : p.tables.exec = Jvm.exec) {own : String} {index : Nat} {y : MethodName} {bytes : ByteArray} {maxL : Nat} {ret : Option FieldType}
    (hown : s.vm.findClass own = some m.cls) (hlink : (Cond.methodLink own index y).before args s = true) (hstat : (Cond.static y).before args s = true) (hinit : (Cond.initialized y.cls).before args s = true)
    (hcode : (Cond.code y bytes maxL ret).before args s = true) (hy : y.cls ≠ "java/lang/invoke/MethodHandle" ∧ y.cls ≠ "java/lang/invoke/VarHandle")
    {W9 : Nat} {Pre : Pt → Array Value → Prop} {Post : Pt → Array Value → Option Value → Pt → Prop} {PostX : Pt → Array Value → Addr → Pt → Prop} (hK : vx_Back l R p e below s args y 3 W9 Pre Post PostX)
    {g : JFrame} (hg : g.method = m) (hsize : g.locals.size = c.maxLocals) {argsL rest : List Value} (hlen : ∀ sig, parseMethodDescriptor y.desc = some sig → argsL.length = sig.parameters.length)
    (hstack : g.stack = argsL.reverse ++ rest) (hW : 2 * g.monitorRoom + (rest.map fun v => v.category).sum ≤ W9) (hdg : decode c.code g.pc = .ok (.invokestatic index, 3))
    (hpre : ∀ vm₁, s.WarmedH vm₁ → Pre ⟨T.setVm vm₁, locs, cells, slots⟩ argsL.toArray) :
    (∃ (v : Option Value) (vm₁ : Vm) (B : Pt), s.WarmedH vm₁ ∧ Stand p l e R s m args below meth c B.U B.locs B.cells B.slots ∧ Post ⟨T.setVm vm₁, locs, cells, slots⟩ argsL.toArray v B ∧
      ∀ target, Steps p.tables e below (B.U.setTop { g with pc := g.pc + 3, stack := v.toList ++ rest }) target → Steps p.tables e below (T.setTop g) target) ∨
    (∃ (q : Addr) (vm₁ : Vm) (B : Pt), s.WarmedH vm₁ ∧ Stand p l e R s m args below meth c B.U B.locs B.cells B.slots ∧ PostX ⟨T.setVm vm₁, locs, cells, slots⟩ argsL.toArray q B ∧
      Steps p.tables e below (T.setTop g) ((B.U.setTop { g with stack := rest }).pushFrame (.throwing q))) := by
  obtain ⟨mk, hnamed⟩ := Cond.code_named hcode
  obtain ⟨methM, cM, hmethM, -, -, -, -, -, -, hsigM⟩ := Cond.code_spec hnamed hcode
  have hstatic : methM.isStatic = true := Cond.static_spec hnamed hmethM hstat
  obtain ⟨kP, hkP, -⟩ := className_of_methodNamed hnamed
  have hinitP : kP.init = .initialized := Cond.initialized_spec (findClass_of_methodNamed hnamed) hkP hinit
  obtain ⟨vm₁, X₁, hstep₁⟩ := X.invokestatic hexec hown hlink hnamed hmethM hstatic hkP hinitP hy (g := g) hg (argsL := argsL) (rest := rest) (hlen _ hsigM) hstack hdg
  rcases hK m meth c ⟨T.setVm vm₁, locs, cells, slots⟩ { g with stack := rest } (.invokestatic index) mk argsL.toArray X₁ hg hsize hdg hW (X₁.named hnamed) (hpre vm₁ X₁.warmed) with ⟨v, B, X', hpost, hsteps⟩ | ⟨q, B, X', hpost, hsteps⟩
  · exact Or.inl ⟨v, vm₁, B, X₁.warmed, X', hpost, fun target h => hstep₁ _ fun acts => by rw [doInvoke_state]; exact hsteps.trans h⟩
  · exact Or.inr ⟨q, vm₁, B, X₁.warmed, X', hpost, hstep₁ _ fun acts => by rw [doInvoke_state]; exact hsteps⟩
end Calls
theorem vx_cls {s : State} {T : State} {vm₁ : Vm} {E : String} {k : ClassId} (hW : s.WarmedH vm₁) (h : (T.setVm vm₁).vm.findClass E = some k) : s.vm.findClass E = some k := by
  have h1 : vm₁.findClass E = some k := h
  rw [hW.alike.findClass] at h1
  exact h1
/-- the method's frame g, with q thrown over it -/
def vx_W (p : Program) (l : Launch) (e : Env) (R : Room) (s : State) (m : MethodId) (args : Array Value) (below : List Frame) (meth : Method) (c : Code) (H : Heap) (locs : List Loc) (cells slots : Nat) (Q : State → Prop) (g : JFrame) (q : Addr) : Prop :=
  ∀ T : State, T.heap = H → Stand p l e R s m args below meth c T locs cells slots → ∃ t, Steps p.tables e below ((T.setTop g).pushFrame (.throwing q)) t ∧ Q t
def vx_Run (p : Program) (l : Launch) (e : Env) (R : Room) (s : State) (m : MethodId) (args : Array Value) (below : List Frame) (meth : Method) (c : Code) (H : Heap) (locs : List Loc) (cells slots mc ms : Nat) (g : JFrame) (rest : List Value) (Qa : State → Outcome → State → Prop) (XC : String → State → State → Prop) (free : Addr → Prop) : Prop :=
  ∀ T : State, T.heap = H → Stand p l e R s m args below meth c T locs cells slots →
    (∃ (v : Option Value) (st₀ t T' : State) (L : List Loc), st₀.heap = H ∧ Stand p l e R s m args below meth c T' (locs ++ L) (cells + mc) (slots + ms) ∧ (∀ q ∈ L, free q.base) ∧ T'.heap = t.heap ∧ T'.vm = t.vm ∧ Qa st₀ (.returned v) t ∧
      Goes p e below T g T' { g with pc := g.pc + 3, stack := v.toList ++ rest }) ∨
    (∃ (q : Addr) (st₀ t T' : State) (L : List Loc) (E : String) (ce : Cell), st₀.heap = H ∧ Stand p l e R s m args below meth c T' (locs ++ L) (cells + mc) (slots + ms) ∧ (∀ z ∈ L, free z.base) ∧ T'.heap = t.heap ∧ T'.vm = t.vm ∧ XC E st₀ t ∧ t.heap[q]? = some ce ∧ ce.vm = .none ∧ s.vm.findClass E = some ce.cls ∧
      Steps p.tables e below (T.setTop g) ((T'.setTop { g with stack := rest }).pushFrame (.throwing q)))
def vx_X {S : Type} (px : S → Prop) (B : String → S → State → Prop) (A : Nat → Prop) : String → State → State → Prop := fun E st t => ∃ u : S, px u ∧ B E u t ∧ va_F A st t
section Runs
variable {p : Program} {l : Launch} {e : Env} {R : Room} {s : State} {m : MethodId} {args : Array Value} {below : List Frame} {meth : Method} {c : Code} {H : Heap} {locs : List Loc} {cells slots : Nat}
variable {y : MethodName} {bytes cc : ByteArray} {maxL nL mc ms n index : Nat} {ret : Option FieldType} {ws : List Cond} {rm : Room} {Pc : Array Value → State → Prop} {Qc : Array Value → State → Outcome → State → Prop} {XC : String → State → State → Prop} {free : Addr → Prop} {Ts : List Cond} {own C : String} {b : Addr} {As rest : List Value} {g : JFrame}
theorem vx_callBack (cb : CallB R s args own index y bytes maxL ret ws rm mc ms n) (hM : vx_Met l y ws rm Pc Qc XC mc ms free) (hbl : FrameBlind Pc) : vx_Back l R p e below s args y 3 8 (PreOf R mc ms Pc) (PostOf Qc mc ms free) (vx_Post XC mc ms free) := by
  obtain ⟨hrc, hrs, hfr, hlo, hws, hcw, -, hini, -⟩ := cb
  exact vx_back (bytes := bytes) (maxL := maxL) (ret := ret) hM hbl hrc hrs hfr hlo hws hcw (fun a' U hW => word_at hW (Or.inl (by first | rfl | simp [Cond.onTables, Cond.keeps, Cond.steady])) hini)
theorem vx_runV (S : CallFix p m c cc nL s args Ts own) (hM : vx_Met l y ws rm Pc Qc XC mc ms free) (cw : CallW R s args own C index y bytes maxL ret ws rm mc ms n) (hp : PreV s H C b Pc As)
    (hg : g.method = m) (hn : As.length = n) (hsize : g.locals.size = nL) (hstack : g.stack = As.reverse ++ .ref b :: rest) (hW : 2 * g.monitorRoom + (rest.map fun v => v.category).sum ≤ 8) (hdg : decode cc g.pc = .ok (.invokevirtual index, 3)) (hf : cells + mc ≤ R.cells ∧ slots + ms ≤ R.slots) :
    vx_Run p l e R s m args below meth c H locs cells slots mc ms g rest (Qc (Value.ref b :: As).toArray) XC free := by
  have hK : vx_Back l R p e below s args y 3 8 (PreOf R mc ms Pc) (PostOf Qc mc ms free) (vx_Post XC mc ms free) := vx_callBack cw.1 hM hp.1
  obtain ⟨⟨-, -, -, -, -, -, hcode, -, hy, hlen, hl⟩, hin, hse⟩ := cw
  obtain ⟨hx, hb, hml, ho, -⟩ := S
  obtain ⟨-, ⟨cellB, hcB, hoB, hclB⟩, hPc⟩ := hp
  intro T hT X
  rcases vx_callV X hx (C := C) (bytes := bytes) (maxL := maxL) (ret := ret) ho hl hin hse hcode hy hK (by rw [hT]; exact hcB) hoB hclB hg (hsize.trans hml.symm) (argsL := As) (rest := rest) (fun sig h => hn.trans (hlen sig h)) hstack hW (by rw [hb]; exact hdg)
    (fun vm₁ hW₁ => ⟨hf.1, hf.2, hPc (T.setVm vm₁) hT hW₁⟩) with ⟨v, vm₁, ⟨U', l2, c2, s2⟩, hW₁, X', ⟨g', mk, t, L, e1, e2, hq, h1, hL, h2, h3⟩, st⟩ | ⟨q, vm₁, ⟨U', l2, c2, s2⟩, hW₁, X', ⟨g', mk, t, L, E, ce, e1, e2, hq, hce, hcv, hcl, h1, hL, h2, h3⟩, st⟩
  · dsimp only [Pt.U, Pt.locs, Pt.cells, Pt.slots] at X' e1 e2 h1 h2 h3 st
    subst h1; subst h2; subst h3
    exact Or.inl ⟨v, (T.setVm vm₁).calling g' mk (Value.ref b :: As).toArray, t, U', L, hT, X', hL, e1, e2, hq, st⟩
  · dsimp only [Pt.U, Pt.locs, Pt.cells, Pt.slots] at X' e1 e2 h1 h2 h3 st hcl
    subst h1; subst h2; subst h3
    exact Or.inr ⟨q, (T.setVm vm₁).calling g' mk (Value.ref b :: As).toArray, t, U', L, E, ce, hT, X', hL, e1, e2, hq, hce, hcv, vx_cls hW₁ hcl, st⟩
theorem vx_runS (S : CallFix p m c cc nL s args Ts own) (hM : vx_Met l y ws rm Pc Qc XC mc ms free) (cw : CallB R s args own index y bytes maxL ret ws rm mc ms n ∧ (Cond.static y).before args s = true) (hp : PreS s H Pc As)
    (hg : g.method = m) (hn : As.length = n) (hsize : g.locals.size = nL) (hstack : g.stack = As.reverse ++ rest) (hW : 2 * g.monitorRoom + (rest.map fun v => v.category).sum ≤ 8) (hdg : decode cc g.pc = .ok (.invokestatic index, 3)) (hf : cells + mc ≤ R.cells ∧ slots + ms ≤ R.slots) :
    vx_Run p l e R s m args below meth c H locs cells slots mc ms g rest (Qc As.toArray) XC free := by
  have hK : vx_Back l R p e below s args y 3 8 (PreOf R mc ms Pc) (PostOf Qc mc ms free) (vx_Post XC mc ms free) := vx_callBack cw.1 hM hp.1
  obtain ⟨⟨-, -, -, -, -, -, hcode, hini, hy, hlen, hl⟩, hstt⟩ := cw
  obtain ⟨hx, hb, hml, ho, -⟩ := S
  intro T hT X
  rcases vx_callS X hx (bytes := bytes) (maxL := maxL) (ret := ret) ho hl hstt hini hcode hy hK hg (hsize.trans hml.symm) (argsL := As) (rest := rest) (fun sig h => hn.trans (hlen sig h)) hstack hW (by rw [hb]; exact hdg)
    (fun vm₁ hW₁ => ⟨hf.1, hf.2, hp.2 (T.setVm vm₁) hT hW₁⟩) with ⟨v, vm₁, ⟨U', l2, c2, s2⟩, hW₁, X', ⟨g', mk, t, L, e1, e2, hq, h1, hL, h2, h3⟩, st⟩ | ⟨q, vm₁, ⟨U', l2, c2, s2⟩, hW₁, X', ⟨g', mk, t, L, E, ce, e1, e2, hq, hce, hcv, hcl, h1, hL, h2, h3⟩, st⟩
  · dsimp only [Pt.U, Pt.locs, Pt.cells, Pt.slots] at X' e1 e2 h1 h2 h3 st
    subst h1; subst h2; subst h3
    exact Or.inl ⟨v, (T.setVm vm₁).calling g' mk As.toArray, t, U', L, hT, X', hL, e1, e2, hq, st⟩
  · dsimp only [Pt.U, Pt.locs, Pt.cells, Pt.slots] at X' e1 e2 h1 h2 h3 st hcl
    subst h1; subst h2; subst h3
    exact Or.inr ⟨q, (T.setVm vm₁).calling g' mk As.toArray, t, U', L, E, ce, hT, X', hL, e1, e2, hq, hce, hcv, vx_cls hW₁ hcl, st⟩
end Runs
section Rows
variable {p : Program} {l : Launch} {e : Env} {R : Room} {s : State} {m : MethodId} {args : Array Value} {below : List Frame} {meth : Method} {c : Code} {H : Heap} {locs : List Loc} {cells slots : Nat} {Q : State → Prop}
variable {mc ms : Nat} {free : Addr → Prop} {A0 A1 : Nat → Prop} {H0 : Heap} {a : Array Value} {pc : Nat} {ls : Array Slot} {st0 rest : List Value}
theorem vx_keep {st₀ t T' : State} {L : List Loc} (h0 : st₀.heap = H) (e1 : T'.heap = t.heap) (hS : va_S A0 H0 H locs) (hA : ∀ q, q < H.size → A1 q → A0 q) (hf : ∀ q, free q → A0 q) (hL : ∀ q ∈ L, free q.base) (hF : va_F A1 st₀ t) :
    H.size ≤ T'.heap.size ∧ (∀ q : Nat, q < H.size → ¬ A1 q → T'.heap[q]? = H[q]?) ∧ va_S A0 H0 T'.heap (locs ++ L) := by
  obtain ⟨hz, hk⟩ := hF
  rw [h0] at hz hk
  exact ⟨by rw [e1]; exact hz, fun q h1 h2 => by rw [e1]; exact hk q h1 h2,
    ⟨Nat.le_trans hS.1 (by rw [e1]; exact hz), fun q h1 h2 => by rw [e1, hk q (Nat.lt_of_lt_of_le h1 hS.1) (fun z => h2 (hA q (Nat.lt_of_lt_of_le h1 hS.1) z))]; exact hS.2.1 q h1 h2, fun q hq => by
      rcases List.mem_append.mp hq with h | h
      · exact hS.2.2 q h
      · exact hf _ (hL q h)⟩⟩
theorem vx_calli {S SX : Type} {post : Int32 → S → Prop} {px : SX → Prop} {B : S → State → Prop} {BX : String → SX → State → Prop} {AX : Nat → Prop} (hr : vx_Run p l e R s m args below meth c H locs cells slots mc ms (F0 m pc ls st0) rest (va_Qi post B A1 a) (vx_X px BX AX) free) (hS : va_S A0 H0 H locs) (hA : ∀ q, q < H.size → A1 q → A0 q) (hf : ∀ q, free q → A0 q) (hAX : ∀ q, q < H.size → AX q → A0 q)
    (kx : ∀ (E : String) (ce : Cell) (q9 : Addr) (u : SX) (t : State) (H1 : Heap) (locs1 : List Loc), t.heap = H1 → s.vm.Alike t.vm → px u → BX E u t → H.size ≤ H1.size → (∀ q : Nat, q < H.size → ¬ AX q → H1[q]? = H[q]?) → va_S A0 H0 H1 locs1 → H1[q9]? = some ce → ce.vm = .none → s.vm.findClass E = some ce.cls → vx_W p l e R s m args below meth c H1 locs1 (cells + mc) (slots + ms) Q (F0 m pc ls rest) q9)
    (kk : ∀ (r : Int32) (u : S) (t : State) (H1 : Heap) (locs1 : List Loc), t.heap = H1 → s.vm.Alike t.vm → post r u → B u t → H.size ≤ H1.size → (∀ q : Nat, q < H.size → ¬ A1 q → H1[q]? = H[q]?) → va_S A0 H0 H1 locs1 → W p l e R s m args below meth c H1 locs1 (cells + mc) (slots + ms) Q (F0 m (pc + 3) ls (.int r :: rest))) : W p l e R s m args below meth c H locs cells slots Q (F0 m pc ls st0) := by
  intro T hT X
  rcases hr T hT X with ⟨v, st₀, t, T', L, h0, X', hL, e1, e2, ⟨⟨r, u, hv, hp, hb⟩, hF⟩, st⟩ | ⟨q, st₀, t, T', L, E, ce, h0, X', hL, e1, e2, ⟨u, hp, hb, hF⟩, hce, hcv, hcl, st⟩
  · cases hv
    obtain ⟨k1, k2, k3⟩ := vx_keep h0 e1 hS hA hf hL hF
    obtain ⟨t2, a1, b1⟩ := kk r u t T'.heap (locs ++ L) e1.symm (by rw [← e2]; exact X'.warmed.alike) hp hb k1 k2 k3 T' rfl X'
    exact ⟨t2, st t2 a1, b1⟩
  · obtain ⟨k1, k2, k3⟩ := vx_keep h0 e1 hS hAX hf hL hF
    obtain ⟨t2, a1, b1⟩ := kx E ce q u t T'.heap (locs ++ L) e1.symm (by rw [← e2]; exact X'.warmed.alike) hp hb k1 k2 k3 (by rw [e1]; exact hce) hcv hcl T' rfl X'
    exact ⟨t2, st.trans a1, b1⟩
theorem vx_calll {S SX : Type} {post : Int64 → S → Prop} {px : SX → Prop} {B : S → State → Prop} {BX : String → SX → State → Prop} {AX : Nat → Prop} (hr : vx_Run p l e R s m args below meth c H locs cells slots mc ms (F0 m pc ls st0) rest (va_Ql post B A1 a) (vx_X px BX AX) free) (hS : va_S A0 H0 H locs) (hA : ∀ q, q < H.size → A1 q → A0 q) (hf : ∀ q, free q → A0 q) (hAX : ∀ q, q < H.size → AX q → A0 q)
    (kx : ∀ (E : String) (ce : Cell) (q9 : Addr) (u : SX) (t : State) (H1 : Heap) (locs1 : List Loc), t.heap = H1 → s.vm.Alike t.vm → px u → BX E u t → H.size ≤ H1.size → (∀ q : Nat, q < H.size → ¬ AX q → H1[q]? = H[q]?) → va_S A0 H0 H1 locs1 → H1[q9]? = some ce → ce.vm = .none → s.vm.findClass E = some ce.cls → vx_W p l e R s m args below meth c H1 locs1 (cells + mc) (slots + ms) Q (F0 m pc ls rest) q9)
    (kk : ∀ (r : Int64) (u : S) (t : State) (H1 : Heap) (locs1 : List Loc), t.heap = H1 → s.vm.Alike t.vm → post r u → B u t → H.size ≤ H1.size → (∀ q : Nat, q < H.size → ¬ A1 q → H1[q]? = H[q]?) → va_S A0 H0 H1 locs1 → W p l e R s m args below meth c H1 locs1 (cells + mc) (slots + ms) Q (F0 m (pc + 3) ls (.long r :: rest))) : W p l e R s m args below meth c H locs cells slots Q (F0 m pc ls st0) := by
  intro T hT X
  rcases hr T hT X with ⟨v, st₀, t, T', L, h0, X', hL, e1, e2, ⟨⟨r, u, hv, hp, hb⟩, hF⟩, st⟩ | ⟨q, st₀, t, T', L, E, ce, h0, X', hL, e1, e2, ⟨u, hp, hb, hF⟩, hce, hcv, hcl, st⟩
  · cases hv
    obtain ⟨k1, k2, k3⟩ := vx_keep h0 e1 hS hA hf hL hF
    obtain ⟨t2, a1, b1⟩ := kk r u t T'.heap (locs ++ L) e1.symm (by rw [← e2]; exact X'.warmed.alike) hp hb k1 k2 k3 T' rfl X'
    exact ⟨t2, st t2 a1, b1⟩
  · obtain ⟨k1, k2, k3⟩ := vx_keep h0 e1 hS hAX hf hL hF
    obtain ⟨t2, a1, b1⟩ := kx E ce q u t T'.heap (locs ++ L) e1.symm (by rw [← e2]; exact X'.warmed.alike) hp hb k1 k2 k3 (by rw [e1]; exact hce) hcv hcl T' rfl X'
    exact ⟨t2, st.trans a1, b1⟩
theorem vx_callf {S SX : Type} {post : UInt32 → S → Prop} {px : SX → Prop} {B : S → State → Prop} {BX : String → SX → State → Prop} {AX : Nat → Prop} (hr : vx_Run p l e R s m args below meth c H locs cells slots mc ms (F0 m pc ls st0) rest (va_Qf post B A1 a) (vx_X px BX AX) free) (hS : va_S A0 H0 H locs) (hA : ∀ q, q < H.size → A1 q → A0 q) (hf : ∀ q, free q → A0 q) (hAX : ∀ q, q < H.size → AX q → A0 q)
    (kx : ∀ (E : String) (ce : Cell) (q9 : Addr) (u : SX) (t : State) (H1 : Heap) (locs1 : List Loc), t.heap = H1 → s.vm.Alike t.vm → px u → BX E u t → H.size ≤ H1.size → (∀ q : Nat, q < H.size → ¬ AX q → H1[q]? = H[q]?) → va_S A0 H0 H1 locs1 → H1[q9]? = some ce → ce.vm = .none → s.vm.findClass E = some ce.cls → vx_W p l e R s m args below meth c H1 locs1 (cells + mc) (slots + ms) Q (F0 m pc ls rest) q9)
    (kk : ∀ (r : UInt32) (u : S) (t : State) (H1 : Heap) (locs1 : List Loc), t.heap = H1 → s.vm.Alike t.vm → post r u → B u t → H.size ≤ H1.size → (∀ q : Nat, q < H.size → ¬ A1 q → H1[q]? = H[q]?) → va_S A0 H0 H1 locs1 → W p l e R s m args below meth c H1 locs1 (cells + mc) (slots + ms) Q (F0 m (pc + 3) ls (.float r :: rest))) : W p l e R s m args below meth c H locs cells slots Q (F0 m pc ls st0) := by
  intro T hT X
  rcases hr T hT X with ⟨v, st₀, t, T', L, h0, X', hL, e1, e2, ⟨⟨r, u, hv, hp, hb⟩, hF⟩, st⟩ | ⟨q, st₀, t, T', L, E, ce, h0, X', hL, e1, e2, ⟨u, hp, hb, hF⟩, hce, hcv, hcl, st⟩
  · cases hv
    obtain ⟨k1, k2, k3⟩ := vx_keep h0 e1 hS hA hf hL hF
    obtain ⟨t2, a1, b1⟩ := kk r u t T'.heap (locs ++ L) e1.symm (by rw [← e2]; exact X'.warmed.alike) hp hb k1 k2 k3 T' rfl X'
    exact ⟨t2, st t2 a1, b1⟩
  · obtain ⟨k1, k2, k3⟩ := vx_keep h0 e1 hS hAX hf hL hF
    obtain ⟨t2, a1, b1⟩ := kx E ce q u t T'.heap (locs ++ L) e1.symm (by rw [← e2]; exact X'.warmed.alike) hp hb k1 k2 k3 (by rw [e1]; exact hce) hcv hcl T' rfl X'
    exact ⟨t2, st.trans a1, b1⟩
theorem vx_calld {S SX : Type} {post : UInt64 → S → Prop} {px : SX → Prop} {B : S → State → Prop} {BX : String → SX → State → Prop} {AX : Nat → Prop} (hr : vx_Run p l e R s m args below meth c H locs cells slots mc ms (F0 m pc ls st0) rest (va_Qd post B A1 a) (vx_X px BX AX) free) (hS : va_S A0 H0 H locs) (hA : ∀ q, q < H.size → A1 q → A0 q) (hf : ∀ q, free q → A0 q) (hAX : ∀ q, q < H.size → AX q → A0 q)
    (kx : ∀ (E : String) (ce : Cell) (q9 : Addr) (u : SX) (t : State) (H1 : Heap) (locs1 : List Loc), t.heap = H1 → s.vm.Alike t.vm → px u → BX E u t → H.size ≤ H1.size → (∀ q : Nat, q < H.size → ¬ AX q → H1[q]? = H[q]?) → va_S A0 H0 H1 locs1 → H1[q9]? = some ce → ce.vm = .none → s.vm.findClass E = some ce.cls → vx_W p l e R s m args below meth c H1 locs1 (cells + mc) (slots + ms) Q (F0 m pc ls rest) q9)
    (kk : ∀ (r : UInt64) (u : S) (t : State) (H1 : Heap) (locs1 : List Loc), t.heap = H1 → s.vm.Alike t.vm → post r u → B u t → H.size ≤ H1.size → (∀ q : Nat, q < H.size → ¬ A1 q → H1[q]? = H[q]?) → va_S A0 H0 H1 locs1 → W p l e R s m args below meth c H1 locs1 (cells + mc) (slots + ms) Q (F0 m (pc + 3) ls (.double r :: rest))) : W p l e R s m args below meth c H locs cells slots Q (F0 m pc ls st0) := by
  intro T hT X
  rcases hr T hT X with ⟨v, st₀, t, T', L, h0, X', hL, e1, e2, ⟨⟨r, u, hv, hp, hb⟩, hF⟩, st⟩ | ⟨q, st₀, t, T', L, E, ce, h0, X', hL, e1, e2, ⟨u, hp, hb, hF⟩, hce, hcv, hcl, st⟩
  · cases hv
    obtain ⟨k1, k2, k3⟩ := vx_keep h0 e1 hS hA hf hL hF
    obtain ⟨t2, a1, b1⟩ := kk r u t T'.heap (locs ++ L) e1.symm (by rw [← e2]; exact X'.warmed.alike) hp hb k1 k2 k3 T' rfl X'
    exact ⟨t2, st t2 a1, b1⟩
  · obtain ⟨k1, k2, k3⟩ := vx_keep h0 e1 hS hAX hf hL hF
    obtain ⟨t2, a1, b1⟩ := kx E ce q u t T'.heap (locs ++ L) e1.symm (by rw [← e2]; exact X'.warmed.alike) hp hb k1 k2 k3 (by rw [e1]; exact hce) hcv hcl T' rfl X'
    exact ⟨t2, st.trans a1, b1⟩
theorem vx_callv {S SX : Type} {post : S → Prop} {px : SX → Prop} {B : S → State → Prop} {BX : String → SX → State → Prop} {AX : Nat → Prop} (hr : vx_Run p l e R s m args below meth c H locs cells slots mc ms (F0 m pc ls st0) rest (va_Qv post B A1 a) (vx_X px BX AX) free) (hS : va_S A0 H0 H locs) (hA : ∀ q, q < H.size → A1 q → A0 q) (hf : ∀ q, free q → A0 q) (hAX : ∀ q, q < H.size → AX q → A0 q)
    (kx : ∀ (E : String) (ce : Cell) (q9 : Addr) (u : SX) (t : State) (H1 : Heap) (locs1 : List Loc), t.heap = H1 → s.vm.Alike t.vm → px u → BX E u t → H.size ≤ H1.size → (∀ q : Nat, q < H.size → ¬ AX q → H1[q]? = H[q]?) → va_S A0 H0 H1 locs1 → H1[q9]? = some ce → ce.vm = .none → s.vm.findClass E = some ce.cls → vx_W p l e R s m args below meth c H1 locs1 (cells + mc) (slots + ms) Q (F0 m pc ls rest) q9)
    (kk : ∀ (u : S) (t : State) (H1 : Heap) (locs1 : List Loc), t.heap = H1 → s.vm.Alike t.vm → post u → B u t → H.size ≤ H1.size → (∀ q : Nat, q < H.size → ¬ A1 q → H1[q]? = H[q]?) → va_S A0 H0 H1 locs1 → W p l e R s m args below meth c H1 locs1 (cells + mc) (slots + ms) Q (F0 m (pc + 3) ls (rest))) : W p l e R s m args below meth c H locs cells slots Q (F0 m pc ls st0) := by
  intro T hT X
  rcases hr T hT X with ⟨v, st₀, t, T', L, h0, X', hL, e1, e2, ⟨⟨u, hv, hp, hb⟩, hF⟩, st⟩ | ⟨q, st₀, t, T', L, E, ce, h0, X', hL, e1, e2, ⟨u, hp, hb, hF⟩, hce, hcv, hcl, st⟩
  · cases hv
    obtain ⟨k1, k2, k3⟩ := vx_keep h0 e1 hS hA hf hL hF
    obtain ⟨t2, a1, b1⟩ := kk u t T'.heap (locs ++ L) e1.symm (by rw [← e2]; exact X'.warmed.alike) hp hb k1 k2 k3 T' rfl X'
    exact ⟨t2, st t2 a1, b1⟩
  · obtain ⟨k1, k2, k3⟩ := vx_keep h0 e1 hS hAX hf hL hF
    obtain ⟨t2, a1, b1⟩ := kx E ce q u t T'.heap (locs ++ L) e1.symm (by rw [← e2]; exact X'.warmed.alike) hp hb k1 k2 k3 (by rw [e1]; exact hce) hcv hcl T' rfl X'
    exact ⟨t2, st.trans a1, b1⟩
/-- caught by the row x of this method's table; the rows ahead don't take it -/
theorem vx_catch {own name : String} {E : String} {ce : Cell} {q : Addr} (hown : s.vm.findClass own = some m.cls) (pre : List ExceptionTableEntry) (x : ExceptionTableEntry) (suf : List ExceptionTableEntry) (hsplit : c.exceptionTable.toList = pre ++ x :: suf)
    (hpass : ∀ z ∈ pre, covers z pc = false ∨ (z.catchType ≠ 0 ∧ ∃ nm : String, (Cond.classLink own z.catchType nm).before args s = true ∧ va_Nc E nm s)) (hx : covers x pc = true) (h0 : x.catchType ≠ 0)
    (hlink : (Cond.classLink own x.catchType name).before args s = true) (hcast : (Cond.castable E name).before args s = true) (hcell : H[q]? = some ce) (hv : ce.vm = .none) (hcl : s.vm.findClass E = some ce.cls)
    (kk : W p l e R s m args below meth c H locs cells slots Q (F0 m x.handlerPc ls [.ref q])) : vx_W p l e R s m args below meth c H locs cells slots Q (F0 m pc ls rest) q := by
  intro T hT X
  have hpl : e.platform.magicAccessors = ({} : Platform).magicAccessors := by rw [X.admits.platform]
  obtain ⟨c3, c4, hc3, hc4, hasg⟩ := Cond.castable_spec hcast
  cases Option.some.inj (hc3.symm.trans hcl)
  obtain ⟨c5, hc5, hcl5⟩ := Cond.classLink_spec hown hlink e.platform hpl
  cases Option.some.inj (hc4.symm.trans hc5)
  obtain ⟨vm', X', st⟩ := X.thenCaughtThrough q (g := F0 m pc ls rest) rfl (Steps.refl _) (by rw [hT]; exact hcell) (by rw [hv]; rfl) (by obtain ⟨k9, h9, -⟩ := Vm.findClass_spec hcl; exact ⟨k9, h9⟩) pre x suf hsplit
    (fun z hz => by
      rcases hpass z hz with h | ⟨hz0, nm, hl1, hn1⟩
      · exact Or.inl h
      · obtain ⟨c6, hc6, hcl6⟩ := Cond.classLink_spec hown hl1 e.platform hpl
        obtain ⟨a8, b8, h1, h2, h3⟩ := hn1
        cases Option.some.inj (h1.symm.trans hcl)
        cases Option.some.inj (h2.symm.trans hc6)
        exact Or.inr ⟨hz0, _, hcl6, h3⟩) hx (Or.inr ⟨h0, c4, hcl5, hasg⟩)
  obtain ⟨t, a1, b1⟩ := kk (T.setVm vm') hT X'
  exact ⟨t, st.trans a1, b1⟩
end Rows
section Ends
variable {p : Program} {l : Launch} {e : Env} {R : Room} {s : State} {m : MethodId} {args : Array Value} {below : List Frame} {meth : Method} {c : Code} {H : Heap} {locs : List Loc} {cells slots : Nat} {Q : State → Prop}
variable {mc ms : Nat} {free : Addr → Prop} {A0 A1 : Nat → Prop} {H0 : Heap} {a : Array Value} {ls : Array Slot} {st0 rest : List Value}
variable {Qc : Array Value → State → Outcome → State → Prop} {XC : String → State → State → Prop}
/-- what a body that may throw owes at its end -/
def vx_MQ (below : List Frame) (Qc : Array Value → State → Outcome → State → Prop) (XC : String → State → State → Prop) (a : Array Value) (s : State) (mc ms : Nat) (free : Addr → Prop) : State → Prop := fun t =>
  ∃ o, t.status = .running ∧ Ended t below o ∧ vx_Q Qc XC mc ms free a s o t
theorem vx_ret {g : JFrame} {mc ms : Nat} (k : W p l e R s m args below meth c H locs cells slots (MQ below Qc args s mc ms free) g) : W p l e R s m args below meth c H locs cells slots (vx_MQ below Qc XC args s mc ms free) g := by
  intro T hT X
  obtain ⟨t, a1, o, b1, b2, b3, b4⟩ := k T hT X
  exact ⟨t, a1, o, b1, b2, Or.inl ⟨b3, b4⟩⟩
/-- not caught here: it goes on to the caller -/
theorem vx_widen {g : JFrame} {q : Addr} {k n : Nat} (h1 : cells ≤ k) (h2 : slots ≤ n) (kk : vx_W p l e R s m args below meth c H locs k n Q g q) : vx_W p l e R s m args below meth c H locs cells slots Q g q := fun T hT X => kk T hT (stand_widen X h1 h2)
theorem vx_out {pc : Nat} {E : String} {ce : Cell} {q : Addr} {mc ms : Nat} (hout : ∀ x ∈ c.exceptionTable.toList, covers x pc = false) (hlocks : meth.locks = false) (hcell : H[q]? = some ce) (hv : ce.vm = .none) (hcl : s.vm.findClass E = some ce.cls)
    (hx : ∀ t : State, t.heap = H → s.vm.Alike t.vm → XC E s t) (hf : ∀ z ∈ locs, free z.base) (hc : cells ≤ mc) (hs : slots ≤ ms) :
    vx_W p l e R s m args below meth c H locs cells slots (vx_MQ below Qc XC args s mc ms free) (F0 m pc ls rest) q := by
  intro T hT X
  obtain ⟨st1, hrun, hend, hW, hsm⟩ := X.leaveThrown q (g := F0 m pc ls rest) rfl rfl rfl hout hlocks
  have hcell9 : (T.setFrames (.throwing q :: below)).heap[q]? = some ce := by
    show T.heap[q]? = some ce
    rw [hT]; exact hcell
  exact ⟨_, st1, .threw q, hrun, hend, Or.inr ⟨q, rfl, E, ce, locs, hx _ hT hW.alike, hcell9, hv, hcl, hW, hsm.mono hc hs, hf⟩⟩
theorem vx_frame {U : State} {k n : Nat} (h : s.sameButNew ({ U with vm := s.vm } : State) locs k n) : s.heap.size ≤ U.heap.size ∧ ∀ q : Nat, q < s.heap.size → (∀ z ∈ locs, z.base ≠ q) → U.heap[q]? = s.heap[q]? := by
  obtain ⟨-, h2, -, -, -, h6⟩ := h
  refine ⟨h2, fun q hq hz => ?_⟩
  obtain ⟨c9, e1, e2, e3, e4⟩ := h6 q _ (Array.getElem?_eq_getElem hq)
  have hs : c9.slots = (s.heap[q]).slots := Array.ext_getElem? fun i => e4 i fun hm => hz _ hm rfl
  have h9 : c9 = s.heap[q] := by
    rw [hs] at e2
    exact e2
  have e5 : U.heap[q]? = some c9 := e1
  rw [e5, h9, Array.getElem?_eq_getElem hq]
/-- the words of a throw but the four that speak of the heap -/
def vx_no (w : Cond) : Bool := decide (w ≠ .isRef (.static Bundle.tN "UNASSIGNED_STACK" Bundle.steD)) && decide (w ≠ .isRef (.static Bundle.tN "SUPPRESSED_SENTINEL" Bundle.listD)) && decide (w ≠ .laysStatic Bundle.tN "UNASSIGNED_STACK" Bundle.steD) && decide (w ≠ .laysStatic Bundle.tN "SUPPRESSED_SENTINEL" Bundle.listD)
def vx_at0 (own : String) (ic : Nat) (X : String) (names : List String) : List Cond := (Bundle.ownAtoms0 own ic X names).filter vx_no
def vx_atS (own : String) (ic : Nat) (X : String) (names : List String) : List Cond := (Bundle.ownAtoms own ic X names).filter vx_no
/-- a word that the tables alone decide, or a good one -/
def vx_ot (w : Cond) : Bool := w.onTables || goodWord w
theorem vx_ot_at {args a' : Array Value} {s U : State} {w : Cond} (hW : s.WarmedH U.vm) (hvm : s.vm = U.vm) (hg : vx_ot w = true) (h : w.before args s = true) : w.before a' U = true := by
  simp only [vx_ot, Bool.or_eq_true] at hg
  rcases hg with hg | hg
  · exact va_tabs hg hvm h
  · exact word_at hW (good_of_word hg) h
/-- a list's words: the good ones out of the method's own list, the others by premises of their own -/
theorem vx_hat {args : Array Value} {s : State} {L B : List Cond} (h1 : ∀ w ∈ L.filter goodWord, w.before args s = true) (h2 : ∀ w ∈ L.filter (fun w => !goodWord w), w ∈ B) (h3 : ∀ w ∈ B, w.before args s = true) : ∀ w ∈ L, w.before args s = true := by
  intro w hw
  by_cases g : goodWord w = true
  · exact h1 w (List.mem_filter.mpr ⟨hw, g⟩)
  · refine h3 w (h2 w (List.mem_filter.mpr ⟨hw, ?_⟩))
    show (!goodWord w) = true
    cases hgw : goodWord w
    · rfl
    · exact absurd hgw g
theorem vx_c {args : Array Value} {s : State} {w : Cond} {B : List Cond} (h : w.before args s = true) (t : ∀ w ∈ B, w.before args s = true) : ∀ w' ∈ w :: B, w'.before args s = true := fun w' h' => (List.mem_cons.mp h').elim (fun e => by rw [e]; exact h) (t w')
theorem vx_n {args : Array Value} {s : State} : ∀ w ∈ ([] : List Cond), w.before args s = true := fun _ h => nomatch h
theorem vx_own {args : Array Value} {s : State} {L : List Cond} (h1 : ∀ w ∈ L.filter vx_no, w.before args s = true)
    (hU : (Cond.isRef (.static Bundle.tN "UNASSIGNED_STACK" Bundle.steD)).before args s = true) (hN : (Cond.isRef (.static Bundle.tN "SUPPRESSED_SENTINEL" Bundle.listD)).before args s = true)
    (lU : (Cond.laysStatic Bundle.tN "UNASSIGNED_STACK" Bundle.steD).before args s = true) (lN : (Cond.laysStatic Bundle.tN "SUPPRESSED_SENTINEL" Bundle.listD).before args s = true) : ∀ w ∈ L, w.before args s = true := by
  intro w hw
  by_cases e1 : w = .isRef (.static Bundle.tN "UNASSIGNED_STACK" Bundle.steD)
  · rw [e1]; exact hU
  · by_cases e2 : w = .isRef (.static Bundle.tN "SUPPRESSED_SENTINEL" Bundle.listD)
    · rw [e2]; exact hN
    · by_cases e3 : w = .laysStatic Bundle.tN "UNASSIGNED_STACK" Bundle.steD
      · rw [e3]; exact lU
      · by_cases e4 : w = .laysStatic Bundle.tN "SUPPRESSED_SENTINEL" Bundle.listD
        · rw [e4]; exact lN
        · exact h1 w (List.mem_filter.mpr ⟨hw, by unfold vx_no; rw [decide_eq_true e1, decide_eq_true e2, decide_eq_true e3, decide_eq_true e4]; rfl⟩)
/-- where a static field lies, its class's statics cell in H -/
def vx_L (C n d : String) (A : Nat → Prop) (U : State) (H : Heap) : Prop := ∃ (c : ClassId) (k : Class) (i : Nat) (f : Field) (a : Nat) (cell : Cell), U.vm.findClass C = some c ∧ U.fieldFound? C n d = some (c, k, i, f) ∧ f.isStatic = true ∧ k.statics = some a ∧ H[a]? = some cell ∧ cell.vm.isStatics = true ∧ cell.cls = c ∧ f.slot < cell.slots.size ∧ k.staticTypes[f.slot]? = some f.type ∧ ¬ A a
theorem vx_L.moved {C n d : String} {A : Nat → Prop} {u U : State} {H : Heap} (hvm : u.vm.Alike U.vm) (h : vx_L C n d A u H) : vx_L C n d A U H := by
  obtain ⟨c, k, i, f, a, cell, h1, h2, h3, h4, h5, h6, h7, h8, h9, h10⟩ := h
  obtain ⟨k', hi', he⟩ := State.fieldFound?_setVm hvm h2
  exact ⟨c, k', i, f, a, cell, by rw [hvm.findClass]; exact h1, hi', h3, by rw [he]; exact h4, h5, h6, h7, h8, by rw [he]; exact h9, h10⟩
theorem vx_L.kept {C n d : String} {A : Nat → Prop} {U : State} {H H1 : Heap} (h : vx_L C n d A U H) (hq : ∀ a : Nat, a < H.size → ¬ A a → H1[a]? = H[a]?) : vx_L C n d A U H1 := by
  obtain ⟨c, k, i, f, a, cell, h1, h2, h3, h4, h5, h6, h7, h8, h9, h10⟩ := h
  exact ⟨c, k, i, f, a, cell, h1, h2, h3, h4, by rw [hq a (Array.getElem?_eq_some_iff.mp h5).1 h10]; exact h5, h6, h7, h8, h9, h10⟩
theorem vx_L.narrow {C n d : String} {A B : Nat → Prop} {U : State} {H : Heap} (h : vx_L C n d A U H) (hAB : ∀ q, B q → A q) : vx_L C n d B U H := by
  obtain ⟨c, k, i, f, a, cell, h1, h2, h3, h4, h5, h6, h7, h8, h9, h10⟩ := h
  exact ⟨c, k, i, f, a, cell, h1, h2, h3, h4, h5, h6, h7, h8, h9, fun z => h10 (hAB _ z)⟩
theorem vx_L.word {C n d : String} {A : Nat → Prop} {s : State} {args : Array Value} (h : vx_L C n d A s s.heap) : (Cond.laysStatic C n d).before args s = true := by
  obtain ⟨c, k, i, f, a, cell, h1, h2, h3, h4, h5, h6, h7, h8, h9, -⟩ := h
  show (Cond.laysStatic C n d).holds args s none s [] = true
  exact Cond.laysStatic_of h1 h2 h3 h4 h5 h6 h7 h8 h9
/-- .. and what it holds: null or some reference -/
def vx_Zq (C n d : String) (A : Nat → Prop) (U : State) (H : Heap) : Prop := va_Zq C n d A U H ∧ vx_L C n d A U H
theorem vx_Zq.moved {C n d : String} {A : Nat → Prop} {u U : State} {H : Heap} (hvm : u.vm.Alike U.vm) (h : vx_Zq C n d A u H) : vx_Zq C n d A U H := ⟨va_Zq.moved hvm h.1, vx_L.moved hvm h.2⟩
theorem vx_Zq.kept {C n d : String} {A : Nat → Prop} {U : State} {H H1 : Heap} (h : vx_Zq C n d A U H) (hq : ∀ a : Nat, a < H.size → ¬ A a → H1[a]? = H[a]?) : vx_Zq C n d A U H1 := ⟨va_Zq.kept h.1 hq, vx_L.kept h.2 hq⟩
theorem vx_Zq.narrow {C n d : String} {A B : Nat → Prop} {U : State} {H : Heap} (h : vx_Zq C n d A U H) (hAB : ∀ q, B q → A q) : vx_Zq C n d B U H := ⟨va_Zq.narrow h.1 hAB, vx_L.narrow h.2 hAB⟩
theorem vx_Zqof {args : Array Value} {s : State} {C n d : String} {A : Nat → Prop} (hl : (Cond.laysStatic C n d).before args s = true) (hini : (Cond.initialized C).before args s = true) (h : (Cond.isRef (.static C n d)).before args s = true) (hA : ∀ a : Nat, a < s.heap.size → ¬ A a) : vx_Zq C n d A s s.heap := by
  refine ⟨va_Zqof hl hini h hA, ?_⟩
  obtain ⟨c, k, i, f, a, cell, h1, h2, h3, h4, h5, h6, h7, h8, h9⟩ := Cond.laysStatic_spec hl
  exact ⟨c, k, i, f, a, cell, h1, h2, h3, h4, h5, h6, h7, h8, h9, hA a (Array.getElem?_eq_some_iff.mp h5).1⟩
theorem vx_isRef {C n d : String} {v : Value} {A : Nat → Prop} {s : State} {args : Array Value} (h : va_Z C n d v A s s.heap) (hv : v.isRef = true) : (Cond.isRef (.static C n d)).before args s = true := by
  obtain ⟨cf, kf, fi, f, a, cell, h1, h2, h3, h4, h5, h6, h7, -⟩ := h
  have he : (Term.static C n d).eval args s none [] s = some v := by
    simp [Term.eval, State.fieldNamed?, h1, h2, h4, h5, h6, h7]
  simp only [Cond.before, Cond.holds, Cond.value, he]
  cases v <;> simp_all [Value.isRef]
theorem vx_isRefq {C n d : String} {A : Nat → Prop} {s : State} {args : Array Value} (h : va_Zq C n d A s s.heap) : (Cond.isRef (.static C n d)).before args s = true := by
  rcases h with h | ⟨t, h⟩
  · exact vx_isRef h rfl
  · exact vx_isRef h rfl
/-- the same frame, seen from here: as if the method were called anew in this heap -/
theorem vx_rebase {T : State} (X : Stand p l e R s m args below meth c T locs cells slots) {R' : Room} (hf : R'.frames ≤ R.frames) (hl : R'.locals ≤ R.locals) (hc : cells + R'.cells ≤ R.cells) (hs : slots + R'.slots ≤ R.slots) :
    Stand p l e R' ((T.setVm s.vm).setFrames (.invoking m args :: below)) m args below meth c T [] 0 0 := by
  have htop : (T.setVm s.vm).topJava?.isSome := X.here.top
  have hF : ((T.setVm s.vm).setFrames (.invoking m args :: below)).frames = .invoking m args :: below := State.frames_setFrames _ (State.cur_lt_of_top htop)
  obtain ⟨g₀, hg0⟩ := Option.isSome_iff_exists.mp htop
  obtain ⟨r, hr⟩ := State.topJava?_eq_some.mp hg0
  have hl9 : e.platform.stackLimits (T.setVm s.vm).me = e.platform.stackLimits s.me := X.limits
  have hb9 : (T.setVm s.vm).me.stackBytes = s.me.stackBytes := X.bytes
  refine ⟨X.admits, X.cas, X.clock, hF, ?_, X.hears, X.method, X.code, X.here, X.tail, X.warmed, ?_, ?_, ?_⟩
  · have h := X.room
    have hU : ((T.setVm s.vm).setFrames (.invoking m args :: below)).localsInUse = s.localsInUse := by
      rw [State.localsInUse_invoking hF (meth := meth) (c := c) X.method X.code, State.localsInUse_invoking X.frames X.method X.code]
    simp only [State.hasRoom, Bool.and_eq_true, decide_eq_true_eq] at h ⊢
    obtain ⟨⟨⟨⟨h1, h2, h3, h4, h5, h6⟩, h7⟩, h8⟩, h9⟩ := h
    rw [X.frames, List.length_cons] at h2 h3
    have q1 := X.heapSize
    have q2 := X.used
    simp only [hF, hU, List.length_cons, State.stackLimits_setFrames, State.stackBytes_setFrames, hl9, hb9]
    refine ⟨⟨⟨⟨by omega, by omega, by omega, by omega, by omega, h6⟩, ?_⟩, ?_⟩, X.book⟩
    · show T.heap.size + R'.cells ≤ e.platform.maxCells
      omega
    · show T.slotsUsed + R'.slots ≤ e.platform.maxSlots
      omega
  · rw [State.stackLimits_setFrames]; rfl
  · rw [State.stackBytes_setFrames]; rfl
  · refine ⟨?_, Nat.le_refl _, Nat.le_refl _, ?_, ?_, fun a c9 h9 => ⟨c9, h9, rfl, rfl, fun _ _ => rfl⟩⟩
    · obtain ⟨t, ht, -⟩ := State.frames_cons hr
      show T.setVm s.vm = { ((T.setVm s.vm).setFrames (.invoking m args :: below)).setFrames (T.setVm s.vm).frames with heap := T.heap, slotsUsed := T.slotsUsed }
      rw [State.setFrames_setFrames, State.setFrames_self ht]
      rfl
    · show T.slotsUsed = T.slotsUsed + ((T.heap.toList.drop T.heap.size).map (·.slots.size)).sum
      rw [List.drop_eq_nil_of_le (Nat.le_of_eq Array.length_toList)]
      rfl
    · show ((T.heap.toList.drop T.heap.size).map (·.slots.size)).sum ≤ 0
      rw [List.drop_eq_nil_of_le (Nat.le_of_eq Array.length_toList)]
      exact Nat.le_refl _
/-- 'throw new E()': new; dup; invokespecial; athrow -/
theorem vx_throw0 {cc : ByteArray} {pc : Nat} (hexec : p.tables.exec = Jvm.exec) (hb : c.code = cc) (hl : l.stackTraces = false) {own cls : String} {names : List String} {ik ic mc ms : Nat} {A : Nat → Prop}
    (hown : s.vm.findClass own = some m.cls) (hcls : Bundle.fit cls = true) (hnames : ∀ n ∈ names, Bundle.fit n = true)
    (hk : (Cond.classLink own ik cls).before args s = true) (hini : (Cond.initialized cls).before args s = true) (hat : ∀ w ∈ vx_at0 own ic cls names, w.before args s = true)
    (hgood : ∀ w ∈ Cond.classLink own ik cls :: Cond.initialized cls :: vx_at0 own ic cls names, vx_ot w = true)
    (hU : vx_Zq Bundle.tN "UNASSIGNED_STACK" Bundle.steD A s s.heap) (hN : vx_Zq Bundle.tN "SUPPRESSED_SENTINEL" Bundle.listD A s s.heap) (hS : va_S A s.heap H locs) (hsize : ls.size = c.maxLocals)
    (d0 : decode cc pc = .ok (.new ik, 3)) (d3 : decode cc (pc + 3) = .ok (.dup, 1)) (d4 : decode cc (pc + 4) = .ok (.invokespecial ic, 3)) (d7 : decode cc (pc + 7) = .ok (.athrow, 1))
    (hout : ∀ x ∈ c.exceptionTable.toList, covers x (pc + 7) = false)
    (hRframes : names.length + 3 < R.frames) (hRlocals : (rest.map fun v => v.category).sum + (13 * (names.length + 1) + 42) ≤ R.locals) (hRcells : cells + 1 ≤ R.cells) (hRslots : slots + 6 ≤ R.slots) (hlocks : meth.locks = false)
    (hx : ∀ t : State, s.vm.Alike t.vm → H.size ≤ t.heap.size → (∀ q : Nat, q < H.size → t.heap[q]? = H[q]?) → XC cls s t)
    (hf : ∀ z ∈ locs, free z.base) (hc : cells + 1 ≤ mc) (hs : slots + 6 ≤ ms) :
    W p l e R s m args below meth c H locs cells slots (vx_MQ below Qc XC args s mc ms free) (F0 m pc ls rest) := by
  intro T hT X
  have htr : e.platform.stackTraces = false := (show e.platform.stackTraces = l.stackTraces by rw [X.admits.platform]).trans hl
  have Y := vx_rebase X (R' := { frames := R.frames, locals := R.locals, cells := 1, slots := 6 }) (Nat.le_refl _) (Nat.le_refl _) hRcells hRslots
  obtain ⟨s', hA⟩ : ∃ z, z = (T.setVm s.vm).setFrames (.invoking m args :: below) := ⟨_, rfl⟩
  rw [← hA] at Y
  have hvm : s'.vm = s.vm := by rw [hA]; rfl
  have hhp : s'.heap = H := by rw [hA]; exact hT
  have hW0 : s.WarmedH s'.vm := by rw [hvm]; exact State.WarmedH.refl s
  have hat' : ∀ w ∈ vx_at0 own ic cls names, w.before args s' = true := fun w hw => vx_ot_at hW0 hvm.symm (hgood w (List.mem_cons_of_mem _ (List.mem_cons_of_mem _ hw))) (hat w hw)
  have hk' : (Cond.classLink own ik cls).before args s' = true := vx_ot_at hW0 hvm.symm (hgood _ List.mem_cons_self) hk
  have hini' : (Cond.initialized cls).before args s' = true := vx_ot_at hW0 hvm.symm (hgood _ (List.mem_cons_of_mem _ List.mem_cons_self)) hini
  have hU' : vx_Zq Bundle.tN "UNASSIGNED_STACK" Bundle.steD A s' s'.heap := by rw [hhp]; exact vx_Zq.moved hW0.alike (hU.kept hS.2.1)
  have hN' : vx_Zq Bundle.tN "SUPPRESSED_SENTINEL" Bundle.listD A s' s'.heap := by rw [hhp]; exact vx_Zq.moved hW0.alike (hN.kept hS.2.1)
  have h : ∀ w ∈ Bundle.ownAtoms0 own ic cls names, w.before args s' = true := vx_own hat' (vx_isRefq hU'.1) (vx_isRefq hN'.1) hU'.2.word hN'.2.word
  have hown' : s'.vm.findClass own = some m.cls := by rw [hvm]; exact hown
  have hins : (Cond.instantiable cls 6).before args s' = true := h _ (by simp [Bundle.ownAtoms0])
  obtain ⟨vm₁, cX, kX, hfX, hkX, -, -, X₁, st1⟩ := Y.newCold hexec (own := own) (C := cls) (index := ik) (n := 6) hown' hk' hins hini'
    (g := F0 m pc ls rest) rfl (by rw [hb]; exact d0) (Nat.le_refl _) (Nat.le_refl _)
  generalize hT1 : (T.setVm vm₁).pushCell { cls := cX, slots := kX.instanceTypes.map defaultValue, vm := .none } = T1 at X₁ st1
  have hcat : (Value.ref T.heap.size).category = 1 := rfl
  have hcellA : T1.heap[T.heap.size]? = some (freshCell cX kX) := by rw [← hT1]; exact State.heap_pushCell_size _ _
  have d3' : decode c.code (pc + 3) = .ok (.dup, 1) := by rw [hb]; exact d3
  obtain ⟨U, hsteps, hrun, hend, hW, hsame, ce, hce, hO⟩ := X₁.ctorThrow0 hexec htr (own := own) (cls := cls) (names := names) (ic := ic) hown' hcls hnames h (fun x hx => nomatch hx) hfX hkX hcellA (by rw [hhp, hT]; exact Nat.le_refl _)
    (g := { method := m, pc := pc + 4, locals := ls, stack := .ref T.heap.size :: .ref T.heap.size :: rest, locked := none }) rfl hsize rfl rfl (rest := rest) rfl
    (by rw [hb]; exact d4) (by rw [hb]; exact d7) hout hRframes (by simp only [List.map_cons, List.sum_cons, hcat]; omega) hlocks
  obtain ⟨f1, f2⟩ := vx_frame hsame
  rw [hhp] at f1 f2
  have hWs : s.WarmedH U.vm := State.WarmedH.trans hW0 hW
  have hcl : s.vm.findClass cls = some ce.cls := by
    have h9 := hO.cls
    rw [hvm] at h9
    exact h9
  have hall : s.sameButNew ({ U with vm := s.vm } : State) locs mc ms := by
    subst hA
    obtain ⟨e1, e2⟩ := hsame
    rw [State.setFrames_setFrames] at e1
    have h2 : (T.setVm s.vm).sameButNew ({ U with vm := s.vm } : State) [] (0 + 1) (0 + 6) := ⟨e1, e2⟩
    have h3 := X.same.trans h2
    rw [List.append_nil] at h3
    exact h3.mono hc hs
  refine ⟨U, ?_, .threw T.heap.size, hrun, hend, Or.inr ⟨T.heap.size, rfl, cls, ce, locs, hx U hWs.alike f1 (fun q hq => f2 q hq (fun z hz => nomatch hz)), hce, hO.vm, hcl, hWs, hall, hf⟩⟩
  refine st1 _ ?_
  show Steps p.tables e below (T1.setTop { method := m, pc := pc + 3, locals := ls, stack := .ref T.heap.size :: rest, locked := none }) _
  jvm_step X₁.here [X₁.here.top, hexec, d3', Value.category]
  exact hsteps
/-- 'throw new E("text")': new; dup; ldc; invokespecial; athrow -/
theorem vx_throwS {cc : ByteArray} {pc : Nat} (hexec : p.tables.exec = Jvm.exec) (hb : c.code = cc) (hl : l.stackTraces = false) {own cls text : String} {names : List String} {ik is ic mc ms sa : Nat} {A : Nat → Prop}
    (hown : s.vm.findClass own = some m.cls) (hcls : Bundle.fit cls = true) (hnames : ∀ n ∈ names, Bundle.fit n = true)
    (hk : (Cond.classLink own ik cls).before args s = true) (hini : (Cond.initialized cls).before args s = true) (hstr : vk_R own is text sa s) (hat : ∀ w ∈ vx_atS own ic cls names, w.before args s = true)
    (hgood : ∀ w ∈ Cond.classLink own ik cls :: Cond.initialized cls :: vx_atS own ic cls names, vx_ot w = true)
    (hU : vx_Zq Bundle.tN "UNASSIGNED_STACK" Bundle.steD A s s.heap) (hN : vx_Zq Bundle.tN "SUPPRESSED_SENTINEL" Bundle.listD A s s.heap) (hS : va_S A s.heap H locs) (hsize : ls.size = c.maxLocals)
    (d0 : decode cc pc = .ok (.new ik, 3)) (d3 : decode cc (pc + 3) = .ok (.dup, 1)) (d4 : decode cc (pc + 4) = .ok (.ldc is, 2)) (d6 : decode cc (pc + 6) = .ok (.invokespecial ic, 3)) (d9 : decode cc (pc + 9) = .ok (.athrow, 1))
    (hout : ∀ x ∈ c.exceptionTable.toList, covers x (pc + 9) = false)
    (hRframes : names.length + 3 < R.frames) (hRlocals : (rest.map fun v => v.category).sum + (13 * (names.length + 1) + 43) ≤ R.locals) (hRcells : cells + 1 ≤ R.cells) (hRslots : slots + 6 ≤ R.slots) (hlocks : meth.locks = false)
    (hx : ∀ t : State, s.vm.Alike t.vm → H.size ≤ t.heap.size → (∀ q : Nat, q < H.size → t.heap[q]? = H[q]?) → XC cls s t)
    (hf : ∀ z ∈ locs, free z.base) (hc : cells + 1 ≤ mc) (hs : slots + 6 ≤ ms) :
    W p l e R s m args below meth c H locs cells slots (vx_MQ below Qc XC args s mc ms free) (F0 m pc ls rest) := by
  intro T hT X
  have htr : e.platform.stackTraces = false := (show e.platform.stackTraces = l.stackTraces by rw [X.admits.platform]).trans hl
  have Y := vx_rebase X (R' := { frames := R.frames, locals := R.locals, cells := 1, slots := 6 }) (Nat.le_refl _) (Nat.le_refl _) hRcells hRslots
  obtain ⟨s', hA⟩ : ∃ z, z = (T.setVm s.vm).setFrames (.invoking m args :: below) := ⟨_, rfl⟩
  rw [← hA] at Y
  have hvm : s'.vm = s.vm := by rw [hA]; rfl
  have hhp : s'.heap = H := by rw [hA]; exact hT
  have hW0 : s.WarmedH s'.vm := by rw [hvm]; exact State.WarmedH.refl s
  have hat' : ∀ w ∈ vx_atS own ic cls names, w.before args s' = true := fun w hw => vx_ot_at hW0 hvm.symm (hgood w (List.mem_cons_of_mem _ (List.mem_cons_of_mem _ hw))) (hat w hw)
  have hk' : (Cond.classLink own ik cls).before args s' = true := vx_ot_at hW0 hvm.symm (hgood _ List.mem_cons_self) hk
  have hini' : (Cond.initialized cls).before args s' = true := vx_ot_at hW0 hvm.symm (hgood _ (List.mem_cons_of_mem _ List.mem_cons_self)) hini
  have hU' : vx_Zq Bundle.tN "UNASSIGNED_STACK" Bundle.steD A s' s'.heap := by rw [hhp]; exact vx_Zq.moved hW0.alike (hU.kept hS.2.1)
  have hN' : vx_Zq Bundle.tN "SUPPRESSED_SENTINEL" Bundle.listD A s' s'.heap := by rw [hhp]; exact vx_Zq.moved hW0.alike (hN.kept hS.2.1)
  have h : ∀ w ∈ Bundle.ownAtoms own ic cls names, w.before args s' = true := vx_own hat' (vx_isRefq hU'.1) (vx_isRefq hN'.1) hU'.2.word hN'.2.word
  have hown' : s'.vm.findClass own = some m.cls := by rw [hvm]; exact hown
  have hins : (Cond.instantiable cls 6).before args s' = true := h _ (by simp [Bundle.ownAtoms])
  obtain ⟨vm₁, cX, kX, hfX, hkX, -, -, X₁, st1⟩ := Y.newCold hexec (own := own) (C := cls) (index := ik) (n := 6) hown' hk' hins hini'
    (g := F0 m pc ls rest) rfl (by rw [hb]; exact d0) (Nat.le_refl _) (Nat.le_refl _)
  generalize hT1 : (T.setVm vm₁).pushCell { cls := cX, slots := kX.instanceTypes.map defaultValue, vm := .none } = T1 at X₁ st1
  have hcat : (Value.ref T.heap.size).category = 1 := rfl
  have hcellA : T1.heap[T.heap.size]? = some (freshCell cX kX) := by rw [← hT1]; exact State.heap_pushCell_size _ _
  have d3' : decode c.code (pc + 3) = .ok (.dup, 1) := by rw [hb]; exact d3
  have d4' : decode c.code (pc + 4) = .ok (.ldc is, 2) := by rw [hb]; exact d4
  have hstr' : vk_R own is text sa s' := vk_R.warm hW0 hstr
  obtain ⟨U, hsteps, hrun, hend, hW, hsame, ce, hce, hO⟩ := X₁.ctorThrowS hexec htr (own := own) (cls := cls) (names := names) (ic := ic) hown' hcls hnames h (fun x hx => nomatch hx) hfX hkX hcellA (by rw [hhp, hT]; exact Nat.le_refl _) (msg := .ref sa) rfl
    (g := { method := m, pc := pc + 6, locals := ls, stack := .ref sa :: .ref T.heap.size :: .ref T.heap.size :: rest, locked := none }) rfl hsize rfl rfl (rest := rest) rfl
    (by rw [hb]; exact d6) (by rw [hb]; exact d9) hout hRframes (by simp only [List.map_cons, List.sum_cons, hcat]; omega) hlocks
  obtain ⟨f1, f2⟩ := vx_frame hsame
  rw [hhp] at f1 f2
  have hWs : s.WarmedH U.vm := State.WarmedH.trans hW0 hW
  have hcl : s.vm.findClass cls = some ce.cls := by
    have h9 := hO.cls
    rw [hvm] at h9
    exact h9
  have hall : s.sameButNew ({ U with vm := s.vm } : State) locs mc ms := by
    subst hA
    obtain ⟨e1, e2⟩ := hsame
    rw [State.setFrames_setFrames] at e1
    have h2 : (T.setVm s.vm).sameButNew ({ U with vm := s.vm } : State) [] (0 + 1) (0 + 6) := ⟨e1, e2⟩
    have h3 := X.same.trans h2
    rw [List.append_nil] at h3
    exact h3.mono hc hs
  refine ⟨U, ?_, .threw T.heap.size, hrun, hend, Or.inr ⟨T.heap.size, rfl, cls, ce, locs, hx U hWs.alike f1 (fun q hq => f2 q hq (fun z hz => nomatch hz)), hce, hO.vm, hcl, hWs, hall, hf⟩⟩
  refine st1 _ ?_
  show Steps p.tables e below (T1.setTop { method := m, pc := pc + 3, locals := ls, stack := .ref T.heap.size :: rest, locked := none }) _
  jvm_step X₁.here [X₁.here.top, hexec, d3', Value.category]
  exact X₁.ldcString hexec (own := own) (text := text) (index := is) (a := sa) hown' hstr'.1 hstr'.2
    (g := { method := m, pc := pc + 4, locals := ls, stack := .ref T.heap.size :: .ref T.heap.size :: rest, locked := none }) rfl d4' _ hsteps
/-- 'throw new E("text")', the text by a wide index -/
theorem vx_throwSW {cc : ByteArray} {pc : Nat} (hexec : p.tables.exec = Jvm.exec) (hb : c.code = cc) (hl : l.stackTraces = false) {own cls text : String} {names : List String} {ik is ic mc ms sa : Nat} {A : Nat → Prop}
    (hown : s.vm.findClass own = some m.cls) (hcls : Bundle.fit cls = true) (hnames : ∀ n ∈ names, Bundle.fit n = true)
    (hk : (Cond.classLink own ik cls).before args s = true) (hini : (Cond.initialized cls).before args s = true) (hstr : vk_R own is text sa s) (hat : ∀ w ∈ vx_atS own ic cls names, w.before args s = true)
    (hgood : ∀ w ∈ Cond.classLink own ik cls :: Cond.initialized cls :: vx_atS own ic cls names, vx_ot w = true)
    (hU : vx_Zq Bundle.tN "UNASSIGNED_STACK" Bundle.steD A s s.heap) (hN : vx_Zq Bundle.tN "SUPPRESSED_SENTINEL" Bundle.listD A s s.heap) (hS : va_S A s.heap H locs) (hsize : ls.size = c.maxLocals)
    (d0 : decode cc pc = .ok (.new ik, 3)) (d3 : decode cc (pc + 3) = .ok (.dup, 1)) (d4 : decode cc (pc + 4) = .ok (.ldc_w is, 3)) (d7 : decode cc (pc + 7) = .ok (.invokespecial ic, 3)) (d10 : decode cc (pc + 10) = .ok (.athrow, 1))
    (hout : ∀ x ∈ c.exceptionTable.toList, covers x (pc + 10) = false)
    (hRframes : names.length + 3 < R.frames) (hRlocals : (rest.map fun v => v.category).sum + (13 * (names.length + 1) + 43) ≤ R.locals) (hRcells : cells + 1 ≤ R.cells) (hRslots : slots + 6 ≤ R.slots) (hlocks : meth.locks = false)
    (hx : ∀ t : State, s.vm.Alike t.vm → H.size ≤ t.heap.size → (∀ q : Nat, q < H.size → t.heap[q]? = H[q]?) → XC cls s t)
    (hf : ∀ z ∈ locs, free z.base) (hc : cells + 1 ≤ mc) (hs : slots + 6 ≤ ms) :
    W p l e R s m args below meth c H locs cells slots (vx_MQ below Qc XC args s mc ms free) (F0 m pc ls rest) := by
  intro T hT X
  have htr : e.platform.stackTraces = false := (show e.platform.stackTraces = l.stackTraces by rw [X.admits.platform]).trans hl
  have Y := vx_rebase X (R' := { frames := R.frames, locals := R.locals, cells := 1, slots := 6 }) (Nat.le_refl _) (Nat.le_refl _) hRcells hRslots
  obtain ⟨s', hA⟩ : ∃ z, z = (T.setVm s.vm).setFrames (.invoking m args :: below) := ⟨_, rfl⟩
  rw [← hA] at Y
  have hvm : s'.vm = s.vm := by rw [hA]; rfl
  have hhp : s'.heap = H := by rw [hA]; exact hT
  have hW0 : s.WarmedH s'.vm := by rw [hvm]; exact State.WarmedH.refl s
  have hat' : ∀ w ∈ vx_atS own ic cls names, w.before args s' = true := fun w hw => vx_ot_at hW0 hvm.symm (hgood w (List.mem_cons_of_mem _ (List.mem_cons_of_mem _ hw))) (hat w hw)
  have hk' : (Cond.classLink own ik cls).before args s' = true := vx_ot_at hW0 hvm.symm (hgood _ List.mem_cons_self) hk
  have hini' : (Cond.initialized cls).before args s' = true := vx_ot_at hW0 hvm.symm (hgood _ (List.mem_cons_of_mem _ List.mem_cons_self)) hini
  have hU' : vx_Zq Bundle.tN "UNASSIGNED_STACK" Bundle.steD A s' s'.heap := by rw [hhp]; exact vx_Zq.moved hW0.alike (hU.kept hS.2.1)
  have hN' : vx_Zq Bundle.tN "SUPPRESSED_SENTINEL" Bundle.listD A s' s'.heap := by rw [hhp]; exact vx_Zq.moved hW0.alike (hN.kept hS.2.1)
  have h : ∀ w ∈ Bundle.ownAtoms own ic cls names, w.before args s' = true := vx_own hat' (vx_isRefq hU'.1) (vx_isRefq hN'.1) hU'.2.word hN'.2.word
  have hown' : s'.vm.findClass own = some m.cls := by rw [hvm]; exact hown
  have hins : (Cond.instantiable cls 6).before args s' = true := h _ (by simp [Bundle.ownAtoms])
  obtain ⟨vm₁, cX, kX, hfX, hkX, -, -, X₁, st1⟩ := Y.newCold hexec (own := own) (C := cls) (index := ik) (n := 6) hown' hk' hins hini'
    (g := F0 m pc ls rest) rfl (by rw [hb]; exact d0) (Nat.le_refl _) (Nat.le_refl _)
  generalize hT1 : (T.setVm vm₁).pushCell { cls := cX, slots := kX.instanceTypes.map defaultValue, vm := .none } = T1 at X₁ st1
  have hcat : (Value.ref T.heap.size).category = 1 := rfl
  have hcellA : T1.heap[T.heap.size]? = some (freshCell cX kX) := by rw [← hT1]; exact State.heap_pushCell_size _ _
  have d3' : decode c.code (pc + 3) = .ok (.dup, 1) := by rw [hb]; exact d3
  have d4' : decode c.code (pc + 4) = .ok (.ldc_w is, 3) := by rw [hb]; exact d4
  have hstr' : vk_R own is text sa s' := vk_R.warm hW0 hstr
  obtain ⟨U, hsteps, hrun, hend, hW, hsame, ce, hce, hO⟩ := X₁.ctorThrowS hexec htr (own := own) (cls := cls) (names := names) (ic := ic) hown' hcls hnames h (fun x hx => nomatch hx) hfX hkX hcellA (by rw [hhp, hT]; exact Nat.le_refl _) (msg := .ref sa) rfl
    (g := { method := m, pc := pc + 7, locals := ls, stack := .ref sa :: .ref T.heap.size :: .ref T.heap.size :: rest, locked := none }) rfl hsize rfl rfl (rest := rest) rfl
    (by rw [hb]; exact d7) (by rw [hb]; exact d10) hout hRframes (by simp only [List.map_cons, List.sum_cons, hcat]; omega) hlocks
  obtain ⟨f1, f2⟩ := vx_frame hsame
  rw [hhp] at f1 f2
  have hWs : s.WarmedH U.vm := State.WarmedH.trans hW0 hW
  have hcl : s.vm.findClass cls = some ce.cls := by
    have h9 := hO.cls
    rw [hvm] at h9
    exact h9
  have hall : s.sameButNew ({ U with vm := s.vm } : State) locs mc ms := by
    subst hA
    obtain ⟨e1, e2⟩ := hsame
    rw [State.setFrames_setFrames] at e1
    have h2 : (T.setVm s.vm).sameButNew ({ U with vm := s.vm } : State) [] (0 + 1) (0 + 6) := ⟨e1, e2⟩
    have h3 := X.same.trans h2
    rw [List.append_nil] at h3
    exact h3.mono hc hs
  refine ⟨U, ?_, .threw T.heap.size, hrun, hend, Or.inr ⟨T.heap.size, rfl, cls, ce, locs, hx U hWs.alike f1 (fun q hq => f2 q hq (fun z hz => nomatch hz)), hce, hO.vm, hcl, hWs, hall, hf⟩⟩
  refine st1 _ ?_
  show Steps p.tables e below (T1.setTop { method := m, pc := pc + 3, locals := ls, stack := .ref T.heap.size :: rest, locked := none }) _
  jvm_step X₁.here [X₁.here.top, hexec, d3', Value.category]
  exact X₁.ldcStringW hexec (own := own) (text := text) (index := is) (a := sa) hown' hstr'.1 hstr'.2
    (g := { method := m, pc := pc + 4, locals := ls, stack := .ref T.heap.size :: .ref T.heap.size :: rest, locked := none }) rfl d4' _ hsteps
end Ends
section Bodies
variable {l : Launch}
theorem vx_ofW {y : MethodName} {ws ws' : List Cond} {rm : Room} {Pc : Array Value → State → Prop} {Qc : Array Value → State → Outcome → State → Prop} {XC : String → State → State → Prop} {mc ms : Nat} {free : Addr → Prop} {cc : ByteArray} {maxL : Nat} {ret : Option FieldType}
    (hy : plainName y.cls = true) (hw : ws = Cond.code y cc maxL ret :: ws')
    (body : ∀ p e s m args below meth c s₁, BodyLoose p l y (headSpec ws rm) cc maxL ret e s m args below meth c s₁ → c.maxLocals = maxL → (∀ x ∈ c.exceptionTable.toList, False) → Pc args s →
      W p l e (headSpec ws rm).room s m args below meth c s.heap [] 0 0 (vx_MQ below Qc XC args s mc ms free) (entryFrame m args maxL)) : vx_Met l y ws rm Pc Qc XC mc ms free := by
  refine MetFree.of_bodyS (code := cc) (maxLocals := maxL) (ret := ret) hy ?_ ?_
  · intro args s m h hn
    obtain ⟨meth, c, h1, h2, h3, h4, h5, h6, -, -⟩ := Cond.code_spec hn (atoms_spec (ws := ws) h _ (by rw [hw]; exact List.mem_cons_self))
    exact ⟨meth, c, h1, h2, h3, h4, h5, h6⟩
  · intro p e s m args below meth c s₁ B hml hP _
    have hh0 : s₁.heap = s.heap := by rw [B.state]; rfl
    have ht : ∀ x ∈ c.exceptionTable.toList, False := by
      obtain ⟨meth9, c9, h1, h2, -, -, -, -, h7, -⟩ := Cond.code_spec B.named (atoms_spec (ws := ws) B.pre _ (by rw [hw]; exact List.mem_cons_self))
      cases Option.some.inj (h1.symm.trans B.method)
      cases Option.some.inj (h2.symm.trans (Stand.of_body B).code)
      intro x hx
      rw [Array.isEmpty_iff.mp h7] at hx
      cases hx
    obtain ⟨t, a1, o, b1, b2, b3⟩ := body p e s m args below meth c s₁ B hml ht hP s₁ hh0 (Stand.of_body B)
    exact ⟨t, o, a1, b1, b2, b3⟩
/-- the table of a body with handlers -/
theorem vx_table {p : Program} {x y : MethodName} {S : Spec} {cc bytes : ByteArray} {maxL maxL' : Nat} {ret ret' : Option FieldType} {e : Env} {s s₁ : State} {m : MethodId} {args : Array Value} {below : List Frame} {meth : Method} {c : Code} {hh : List (Nat × Nat × Nat × Nat)}
    (B : BodyLoose p l y S cc maxL ret e s m args below meth c s₁) (h : (Cond.codeWith y bytes maxL' ret' hh).before args s = true) : c.exceptionTable.toList = tableOf hh := by
  obtain ⟨m9, meth9, c9, hn9, h1, h2, -, -, h6, -⟩ := Cond.codeWith_spec h
  cases Option.some.inj (hn9.symm.trans B.named)
  cases Option.some.inj (h1.symm.trans B.method)
  cases Option.some.inj (h2.symm.trans (Stand.of_body B).code)
  rw [← h6, table_eq]
end Bodies
end VXA
/-! ===== END ===== -/
/-! ===== BEGIN a static call of a method with an exception table ===== -/
section VXS
variable {p : Program} {l : Launch} {e : Env} {R : Room} {s : State} {m : MethodId} {args : Array Value} {below : List Frame} {meth : Method} {c : Code} {T : State} {H : Heap} {locs : List Loc} {cells slots : Nat}
abbrev vx_CSW (R : Room) (s : State) (args : Array Value) (own : String) (index : Nat) (y : MethodName) (bytes : ByteArray) (maxL : Nat) (ret : Option FieldType) (hh : List (Nat × Nat × Nat × Nat)) (ws : List Cond) (rm : Room) (mc ms n : Nat) : Prop :=
  (rm.cells = mc ∧ rm.slots = ms ∧ rm.frames + 1 ≤ R.frames ∧ 8 + (maxL + 11) + rm.locals ≤ R.locals ∧ (∀ w ∈ ws, ∀ (a' : Array Value) (U : State), s.WarmedH U.vm → w.before a' U = true) ∧ Cond.codeWith y bytes maxL ret hh ∈ ws) ∧
  (Cond.codeWith y bytes maxL ret hh).before args s = true ∧ (Cond.initialized y.cls).before args s = true ∧ (y.cls ≠ "java/lang/invoke/MethodHandle" ∧ y.cls ≠ "java/lang/invoke/VarHandle") ∧
  (∀ sig, parseMethodDescriptor y.desc = some sig → n = sig.parameters.length) ∧ (Cond.methodLink own index y).before args s = true ∧ (Cond.static y).before args s = true
theorem vx_cwSW {own : String} {index maxL mc ms : Nat} {y : MethodName} {bytes : ByteArray} {ret : Option FieldType} {hh : List (Nat × Nat × Nat × Nat)} {Ts ws ws' : List Cond} {rm : Room} (n : Nat) (ht : ∀ w ∈ Ts, w.before args s = true) (hT : GoodIn Ts (va_wsS own index y ws)) (hw : ws = Cond.codeWith y bytes maxL ret hh :: ws') (hrc : rm.cells = mc) (hrs : rm.slots = ms)
    (hd : y.cls ≠ "java/lang/invoke/MethodHandle" ∧ y.cls ≠ "java/lang/invoke/VarHandle" ∧ (parseMethodDescriptor y.desc).map (fun d => d.parameters.length) = some n) (hR : rm.frames + 1 ≤ R.frames ∧ 8 + (maxL + 11) + rm.locals ≤ R.locals) :
    vx_CSW R s args own index y bytes maxL ret hh ws rm mc ms n := by
  have ok : ∀ w ∈ va_wsS own index y ws, w.before args s = true := fun w h => ht w (hT w h).1
  have hG : GoodIn Ts ws := fun w h => hT w (by unfold va_wsS; exact List.mem_append_right _ h)
  have hc : Cond.codeWith y bytes maxL ret hh ∈ ws := by rw [hw]; exact List.mem_cons_self
  refine ⟨⟨hrc, hrs, hR.1, hR.2, pay_in ht hG, hc⟩, ht _ (hG _ hc).1, ok _ (by simp [va_wsS]), ⟨hd.1, hd.2.1⟩, fun sig h => ?_, ok _ (by simp [va_wsS]), ok _ (by simp [va_wsS])⟩
  have h2 := hd.2.2
  rw [h] at h2
  exact (Option.some.inj h2).symm
theorem vx_callSW (X : Stand p l e R s m args below meth c T locs cells slots) (hexec : p.tables.exec = Jvm.exec) {own : String} {index : Nat} {y : MethodName} {bytes : ByteArray} {maxL : Nat} {ret : Option FieldType} {hh : List (Nat × Nat × Nat × Nat)}
    (hown : s.vm.findClass own = some m.cls) (hlink : (Cond.methodLink own index y).before args s = true) (hstat : (Cond.static y).before args s = true) (hinit : (Cond.initialized y.cls).before args s = true)
    (hcode : (Cond.codeWith y bytes maxL ret hh).before args s = true) (hy : y.cls ≠ "java/lang/invoke/MethodHandle" ∧ y.cls ≠ "java/lang/invoke/VarHandle")
    {W9 : Nat} {Pre : Pt → Array Value → Prop} {Post : Pt → Array Value → Option Value → Pt → Prop} (hK : Back l R p e below s args y 3 W9 Pre Post)
    {g : JFrame} (hg : g.method = m) (hsize : g.locals.size = c.maxLocals) {argsL rest : List Value} (hlen : ∀ sig, parseMethodDescriptor y.desc = some sig → argsL.length = sig.parameters.length)
    (hstack : g.stack = argsL.reverse ++ rest) (hW : 2 * g.monitorRoom + (rest.map fun v => v.category).sum ≤ W9) (hdg : decode c.code g.pc = .ok (.invokestatic index, 3))
    (hpre : ∀ vm₁, s.WarmedH vm₁ → Pre ⟨T.setVm vm₁, locs, cells, slots⟩ argsL.toArray) :
    ∃ (v : Option Value) (vm₁ : Vm) (B : Pt), s.WarmedH vm₁ ∧ Stand p l e R s m args below meth c B.U B.locs B.cells B.slots ∧ Post ⟨T.setVm vm₁, locs, cells, slots⟩ argsL.toArray v B ∧
      ∀ target, Steps p.tables e below (B.U.setTop { g with pc := g.pc + 3, stack := v.toList ++ rest }) target → Steps p.tables e below (T.setTop g) target := by
  obtain ⟨mk, methM, cM, hnamed, hmethM, -, -, -, -, -, -, hsigM⟩ := Cond.codeWith_spec hcode
  have hstatic : methM.isStatic = true := Cond.static_spec hnamed hmethM hstat
  obtain ⟨kP, hkP, -⟩ := className_of_methodNamed hnamed
  have hinitP : kP.init = .initialized := Cond.initialized_spec (findClass_of_methodNamed hnamed) hkP hinit
  obtain ⟨vm₁, X₁, hstep₁⟩ := X.invokestatic hexec hown hlink hnamed hmethM hstatic hkP hinitP hy (g := g) hg (argsL := argsL) (rest := rest) (hlen _ hsigM) hstack hdg
  obtain ⟨v, B, X', hpost, hsteps⟩ := hK m meth c ⟨T.setVm vm₁, locs, cells, slots⟩ { g with stack := rest } (.invokestatic index) mk argsL.toArray X₁ hg hsize hdg hW (X₁.named hnamed) (hpre vm₁ X₁.warmed)
  exact ⟨v, vm₁, B, X₁.warmed, X', hpost, fun target h => hstep₁ _ fun acts => by rw [doInvoke_state]; exact hsteps.trans h⟩
theorem vx_runSW {y : MethodName} {bytes cc : ByteArray} {maxL nL mc ms n index : Nat} {ret : Option FieldType} {hh : List (Nat × Nat × Nat × Nat)} {ws : List Cond} {rm : Room} {Pc : Array Value → State → Prop} {Qc : Array Value → State → Outcome → State → Prop} {free : Addr → Prop} {Ts : List Cond} {own : String} {As rest : List Value} {g : JFrame}
    (S : CallFix p m c cc nL s args Ts own) (hM : Met l y ws rm Pc Qc mc ms free) (cw : vx_CSW R s args own index y bytes maxL ret hh ws rm mc ms n) (hp : PreS s H Pc As)
    (hg : g.method = m) (hn : As.length = n) (hsize : g.locals.size = nL) (hstack : g.stack = As.reverse ++ rest) (hW : 2 * g.monitorRoom + (rest.map fun v => v.category).sum ≤ 8) (hdg : decode cc g.pc = .ok (.invokestatic index, 3)) (hf : cells + mc ≤ R.cells ∧ slots + ms ≤ R.slots) :
    va_Run p l e R s m args below meth c H locs cells slots mc ms g rest (Qc As.toArray) (free) := by
  obtain ⟨⟨hrc, hrs, hfr, hlo, hws, hcw⟩, hcode, hini, hy, hlen, hl, hstt⟩ := cw
  have hK : Back l R p e below s args y 3 8 (PreOf R mc ms Pc) (PostOf Qc mc ms free) := va_backW (hh := hh) (bytes := bytes) (maxL := maxL) (ret := ret) hM hp.1 hrc hrs hfr hlo hws hcw (fun a' U hW => word_at hW (Or.inl (by first | rfl | simp [Cond.onTables, Cond.keeps, Cond.steady])) hini)
  obtain ⟨hx, hb, hml, ho, -⟩ := S
  intro T hT X
  obtain ⟨v, vm₁, ⟨U', l2, c2, s2⟩, hW₁, X', ⟨g', mk, t, L, e1, e2, hq, h1, hL, h2, h3⟩, st⟩ := vx_callSW X hx (hh := hh) (bytes := bytes) (maxL := maxL) (ret := ret) ho hl hstt hini hcode hy hK hg (hsize.trans hml.symm) (argsL := As) (rest := rest) (fun sig h => hn.trans (hlen sig h)) hstack hW (by rw [hb]; exact hdg)
    (fun vm₁ hW₁ => ⟨hf.1, hf.2, hp.2 (T.setVm vm₁) hT hW₁⟩)
  dsimp only [Pt.U, Pt.locs, Pt.cells, Pt.slots] at X' e1 e2 h1 h2 h3 st
  subst h1; subst h2; subst h3
  exact ⟨v, (T.setVm vm₁).calling g' mk As.toArray, t, U', L, hT, X', hL, e1, e2, hq, st⟩
/-- not caught here, past rows that name other classes: it goes on to the caller -/
theorem vx_outP {p : Program} {l : Launch} {e : Env} {R : Room} {s : State} {m : MethodId} {args : Array Value} {below : List Frame} {meth : Method} {c : Code} {H : Heap} {locs : List Loc} {cells slots : Nat} {free : Addr → Prop} {ls : Array Slot} {rest : List Value} {Qc : Array Value → State → Outcome → State → Prop} {XC : String → State → State → Prop}
    {pc : Nat} {own E : String} {ce : Cell} {q : Addr} {mc ms : Nat} (hown : s.vm.findClass own = some m.cls) (hlocks : meth.locks = false)
    (hpass : ∀ z ∈ c.exceptionTable.toList, covers z pc = false ∨ (z.catchType ≠ 0 ∧ ∃ nm : String, (Cond.classLink own z.catchType nm).before args s = true ∧ va_Nc E nm s)) (hcell : H[q]? = some ce) (hv : ce.vm = .none) (hcl : s.vm.findClass E = some ce.cls)
    (hx : ∀ t : State, t.heap = H → s.vm.Alike t.vm → XC E s t) (hf : ∀ z ∈ locs, free z.base) (hc : cells ≤ mc) (hs : slots ≤ ms) :
    vx_W p l e R s m args below meth c H locs cells slots (vx_MQ below Qc XC args s mc ms free) (F0 m pc ls rest) q := by
  intro T hT X
  have hpl : e.platform.magicAccessors = ({} : Platform).magicAccessors := by rw [X.admits.platform]
  obtain ⟨vm', hW', X', st⟩ := X.outThrough hlocks q (g := F0 m pc ls rest) rfl rfl rfl (cell := ce) (by rw [hT]; exact hcell) (by rw [hv]; rfl)
    (by obtain ⟨k9, h9, -⟩ := Vm.findClass_spec hcl; exact ⟨k9, h9⟩) (fun z hz => by
      rcases hpass z hz with h | ⟨hz0, nm, hl1, hn1⟩
      · exact Or.inl h
      · obtain ⟨c6, hc6, hcl6⟩ := Cond.classLink_spec hown hl1 e.platform hpl
        obtain ⟨a8, b8, h1, h2, h3⟩ := hn1
        cases Option.some.inj (h1.symm.trans hcl)
        cases Option.some.inj (h2.symm.trans hc6)
        exact Or.inr ⟨hz0, _, hcl6, h3⟩)
  obtain ⟨g₀, hfr⟩ := X'.frames_eq
  have hcell9 : ((T.setVm vm').setFrames (.throwing q :: below)).heap[q]? = some ce := by
    show T.heap[q]? = some ce
    rw [hT]; exact hcell
  have hend : Ended ((T.setVm vm').setFrames (.throwing q :: below)) below (.threw q) := State.frames_setFrames _ (State.cur_lt_of_frames hfr)
  refine ⟨(T.setVm vm').setFrames (.throwing q :: below), ?_, .threw q, X'.here.running, hend, Or.inr ⟨q, rfl, E, ce, locs, hx _ hT (X'.ends _).1.alike, hcell9, hv, hcl, (X'.ends _).1, (X'.ends _).2.mono hc hs, hf⟩⟩
  rw [X.pushThrowing_eq]
  exact st
/-- a thing of a world lies in the heap -/
theorem vx_lt {D : va_G} {cl : List vw_C} {ws : va_W} {H1 : Heap} (h : va_P D cl ws H1) {k : Nat} {q : Nat × va_E} (hk : ws[k]? = some q) : q.1 < H1.size := (h k q hk).lt
end VXS
/-! ===== END ===== -/
/-! ===== BEGIN methods with a table of their own: called by a name, returning or throwing ===== -/
section VXH
/-! vx_backW, vx_callVX, vx_callSX, vx_callVW, vx_runVW, vx_runVX, vx_runSX, vx_ofWH follow the same proofs as their sisters above (Free/Laws.lean, Shelf42/LK1.lean); vx_outP calls Shelf42/NT130.lean (outThrough). -/
section
variable {l : Launch} {R : Room} {p : Program} {e : Env} {below : List Frame} {s : State} {sargs : Array Value} {y : MethodName} {len W9 : Nat}
theorem vx_backW {ws : List Cond} {rm : Room} {Pc : Array Value → State → Prop} {Qc : Array Value → State → Outcome → State → Prop} {XC : String → State → State → Prop} {mc ms : Nat} {free : Addr → Prop} {bytes : ByteArray} {maxL : Nat} {ret : Option FieldType} {hh : List (Nat × Nat × Nat × Nat)}
    (hM : vx_Met l y ws rm Pc Qc XC mc ms free) (hblind : FrameBlind Pc) (hrc : rm.cells = mc) (hrs : rm.slots = ms)
    (hframes : rm.frames + 1 ≤ R.frames) (hlocals : W9 + (maxL + 11) + rm.locals ≤ R.locals)
    (hws : ∀ w ∈ ws, ∀ a' U, s.WarmedH U.vm → w.before a' U = true) (hcode : Cond.codeWith y bytes maxL ret hh ∈ ws) (hinit : ∀ a' U, s.WarmedH U.vm → (Cond.initialized y.cls).before a' U = true) :
    vx_Back l R p e below s sargs y len W9 (PreOf R mc ms Pc) (PostOf Qc mc ms free) (vx_Post XC mc ms free) := by
  intro m meth c A g ig mk a X hg hsize hdg hW hn hp
  have h1 : (headSpec ws rm).pre.before a A.U = true := atoms_intro fun w hw => hws w hw _ _ X.warmed
  have h2 : (Cond.codeWith y bytes maxL ret hh).before a A.U = true := hws _ hcode _ _ X.warmed
  have h3 : (Cond.initialized y.cls).before a A.U = true := hinit _ _ X.warmed
  have h4 : A.cells + (headSpec ws rm).room.cells ≤ R.cells := by rw [show (headSpec ws rm).room.cells = mc from hrc]; exact hp.1
  have h5 : A.slots + (headSpec ws rm).room.slots ≤ R.slots := by rw [show (headSpec ws rm).room.slots = ms from hrs]; exact hp.2.1
  have hPc : Pc a (A.U.calling g mk a) := hblind _ _ _ _ hp.2.2
  obtain ⟨U, Ls, c0, s0⟩ := A
  dsimp only [Pt.U, Pt.locs, Pt.cells, Pt.slots] at h1 h2 h3 h4 h5 X hn hPc ⊢
  obtain ⟨m9, methY, cY, hn9, hmY, hcY, -, hlY, -⟩ := Cond.codeWith_spec h2
  cases Option.some.inj (hn9.symm.trans hn)
  obtain ⟨kY, hkY, -⟩ := className_of_methodNamed hn
  have hinitY : kY.init = .initialized := Cond.initialized_spec (findClass_of_methodNamed hn) hkY h3
  have h : At U g.method c below := by rw [hg]; exact X.here
  have hlocals9 : W9 + (maxL + 11) + (headSpec ws rm).room.locals ≤ R.locals := hlocals
  have happ : (headSpec ws rm).appliesLoose y e.platform (U.calling g mk a) = true :=
    Spec.appliesLoose_calling (g := g) h hdg hn hkY hinitY
      (X.room_calling (g := g) (R' := (headSpec ws rm).room) hsize hmY hcY hframes (by rw [hlY]; omega) h4 h5) h1
  obtain ⟨mid, hmid⟩ := h.above
  have hfr : (U.setTop g).frames = (.java g :: mid) ++ below := by rw [State.frames_setTop' g h.top, hmid]; rfl
  obtain ⟨o, s₂, hsteps, -, hend, hq⟩ := Steps.callFree hM p X.admits X.cas X.clock (acts := []) hfr happ hPc trivial
  have hq' : vx_Q Qc XC mc ms free a (U.calling g mk a) o s₂ := hq
  rw [State.frames_setTop' g h.top] at hend
  obtain ⟨g₀, hg0⟩ := Option.isSome_iff_exists.mp h.top
  obtain ⟨r, hr⟩ := State.topJava?_eq_some.mp hg0
  have hr' : (({ U with heap := s₂.heap, slotsUsed := s₂.slotsUsed } : State).setVm s₂.vm).frames = .java g₀ :: r := hr
  rcases hq' with ⟨hqc, L, hfe, hL⟩ | ⟨q, rfl, E, ce, L, hx, hce, hcv, hcl, hW₂, hsm, hL⟩
  · obtain ⟨⟨v, rfl⟩, hW₂, e2, q2, q3, q4, q5, q6⟩ := id hfe
    have e3 : s₂ = ({ (U.calling g mk a).setFrames s₂.frames with heap := s₂.heap, slotsUsed := s₂.slotsUsed } : State).setVm s₂.vm := by
      have : s₂ = ({ s₂ with vm := (U.calling g mk a).vm } : State).setVm s₂.vm := rfl
      rw [e2] at this
      exact this
    obtain ⟨c₂, i₂, len₂, hc₂, hd₂, hf₂⟩ := hend
    have hW' : U.WarmedH s₂.vm := hW₂
    have hcc : c₂ = c := by
      have h1 : s₂.code? g.method = U.code? g.method := by
        rw [State.code?_eq, State.code?_eq, hW'.alike.method?]
      exact Option.some.inj (hc₂.symm.trans (h1.trans h.code))
    subst hcc
    have hlen : len₂ = len := by rw [hdg] at hd₂; cases hd₂; rfl
    subst hlen
    have hs₂ : s₂ = (({ U with heap := s₂.heap, slotsUsed := s₂.slotsUsed } : State).setVm s₂.vm).setTop { g with pc := g.pc + len₂, stack := v.toList ++ g.stack } := by
      refine e3.trans ?_
      rw [hf₂, State.calling_eq h.top, State.setFrames_setFrames, State.setTop_of_frames _ hr', hr]
      rfl
    have hsame : U.sameButNew ({ U with heap := s₂.heap, slotsUsed := s₂.slotsUsed } : State) L mc ms := by
      refine ⟨?_, q2, q3, q4, q5, q6⟩
      obtain ⟨t, ht, -⟩ := State.frames_cons hr
      show ({ U with heap := s₂.heap, slotsUsed := s₂.slotsUsed } : State) = { U.setFrames U.frames with heap := s₂.heap, slotsUsed := s₂.slotsUsed }
      rw [State.setFrames_self ht]
    subst hg
    refine Or.inl ⟨v, ⟨(({ U with heap := s₂.heap, slotsUsed := s₂.slotsUsed } : State).setVm s₂.vm), Ls ++ L, c0 + mc, s0 + ms⟩,
      ⟨X.admits, X.cas, X.clock, X.frames, X.room, X.hears, X.method, X.code, (X.here.setHeapUsed s₂.heap s₂.slotsUsed).setVm hW'.alike, X.tail, State.WarmedH.trans X.warmed hW', X.limits, X.bytes, X.same.trans (hsame.setVm s.vm)⟩,
      ⟨g, mk, s₂, L, rfl, rfl, hqc, rfl, hL, rfl, rfl⟩, ?_⟩
    show Steps p.tables e below _ ((({ U with heap := s₂.heap, slotsUsed := s₂.slotsUsed } : State).setVm s₂.vm).setTop { g with pc := g.pc + len₂, stack := v.toList ++ g.stack })
    rw [← hs₂]
    exact hsteps
  · obtain ⟨e2, q2, q3, q4, q5, q6⟩ := id hsm
    have e3 : s₂ = ({ (U.calling g mk a).setFrames s₂.frames with heap := s₂.heap, slotsUsed := s₂.slotsUsed } : State).setVm s₂.vm := by
      have : s₂ = ({ s₂ with vm := (U.calling g mk a).vm } : State).setVm s₂.vm := rfl
      rw [e2] at this
      exact this
    have hf₂ : s₂.frames = .throwing q :: .java g :: U.frames.tail := hend
    have hW' : U.WarmedH s₂.vm := hW₂
    have hs₂ : s₂ = ((({ U with heap := s₂.heap, slotsUsed := s₂.slotsUsed } : State).setVm s₂.vm).setTop g).pushFrame (.throwing q) := by
      refine e3.trans ?_
      rw [hf₂, State.calling_eq h.top, State.setFrames_setFrames, State.pushFrame, State.frames_setTop _ hr', State.setTop_of_frames _ hr', State.setFrames_setFrames, hr]
      rfl
    have hsame : U.sameButNew ({ U with heap := s₂.heap, slotsUsed := s₂.slotsUsed } : State) L mc ms := by
      refine ⟨?_, q2, q3, q4, q5, q6⟩
      obtain ⟨t, ht, -⟩ := State.frames_cons hr
      show ({ U with heap := s₂.heap, slotsUsed := s₂.slotsUsed } : State) = { U.setFrames U.frames with heap := s₂.heap, slotsUsed := s₂.slotsUsed }
      rw [State.setFrames_self ht]
    subst hg
    refine Or.inr ⟨q, ⟨(({ U with heap := s₂.heap, slotsUsed := s₂.slotsUsed } : State).setVm s₂.vm), Ls ++ L, c0 + mc, s0 + ms⟩,
      ⟨X.admits, X.cas, X.clock, X.frames, X.room, X.hears, X.method, X.code, (X.here.setHeapUsed s₂.heap s₂.slotsUsed).setVm hW'.alike, X.tail, State.WarmedH.trans X.warmed hW', X.limits, X.bytes, X.same.trans (hsame.setVm s.vm)⟩,
      ⟨g, mk, s₂, L, E, ce, rfl, rfl, hx, hce, hcv, hcl, rfl, hL, rfl, rfl⟩, ?_⟩
    show Steps p.tables e below _ (((({ U with heap := s₂.heap, slotsUsed := s₂.slotsUsed } : State).setVm s₂.vm).setTop g).pushFrame (.throwing q))
    rw [← hs₂]
    exact hsteps
end
variable {p : Program} {l : Launch} {e : Env} {R : Room} {s : State} {m : MethodId} {args : Array Value} {below : List Frame} {meth : Method} {c : Code} {T : State} {H : Heap} {locs : List Loc} {cells slots : Nat}
theorem vx_callVX (X : Stand p l e R s m args below meth c T locs cells slots) (hexec : p.tables.exec = Jvm.exec) {own C : String} {index : Nat} {y : MethodName} {bytes : ByteArray} {maxL : Nat} {ret : Option FieldType} {hh : List (Nat × Nat × Nat × Nat)}
    (hown : s.vm.findClass own = some m.cls) (hlink : (Cond.methodLink own index y).before args s = true) (hinst : (Cond.instanceMethod y).before args s = true) (hsel : (Cond.selects C y y).before args s = true)
    (hcode : (Cond.codeWith y bytes maxL ret hh).before args s = true) (hy : y.cls ≠ "java/lang/invoke/MethodHandle" ∧ y.cls ≠ "java/lang/invoke/VarHandle")
    {W9 : Nat} {Pre : Pt → Array Value → Prop} {Post : Pt → Array Value → Option Value → Pt → Prop} {PostX : Pt → Array Value → Addr → Pt → Prop} (hK : vx_Back l R p e below s args y 3 W9 Pre Post PostX)
    {b : Addr} {cellB : Cell} (hcell : T.heap[b]? = some cellB) (hobj : cellB.vm.isStatics = false) (hcls : s.vm.findClass C = some cellB.cls)
    {g : JFrame} (hg : g.method = m) (hsize : g.locals.size = c.maxLocals) {argsL rest : List Value} (hlen : ∀ sig, parseMethodDescriptor y.desc = some sig → argsL.length = sig.parameters.length)
    (hstack : g.stack = argsL.reverse ++ .ref b :: rest) (hW : 2 * g.monitorRoom + (rest.map fun v => v.category).sum ≤ W9) (hdg : decode c.code g.pc = .ok (.invokevirtual index, 3))
    (hpre : ∀ vm₁, s.WarmedH vm₁ → Pre ⟨T.setVm vm₁, locs, cells, slots⟩ (Value.ref b :: argsL).toArray) :
    (∃ (v : Option Value) (vm₁ : Vm) (B : Pt), s.WarmedH vm₁ ∧ Stand p l e R s m args below meth c B.U B.locs B.cells B.slots ∧ Post ⟨T.setVm vm₁, locs, cells, slots⟩ (Value.ref b :: argsL).toArray v B ∧
      ∀ target, Steps p.tables e below (B.U.setTop { g with pc := g.pc + 3, stack := v.toList ++ rest }) target → Steps p.tables e below (T.setTop g) target) ∨
    (∃ (q : Addr) (vm₁ : Vm) (B : Pt), s.WarmedH vm₁ ∧ Stand p l e R s m args below meth c B.U B.locs B.cells B.slots ∧ PostX ⟨T.setVm vm₁, locs, cells, slots⟩ (Value.ref b :: argsL).toArray q B ∧
      Steps p.tables e below (T.setTop g) ((B.U.setTop { g with stack := rest }).pushFrame (.throwing q))) := by
  obtain ⟨mk, methM, hnamed, hmethM, hstM, habM⟩ := Cond.instanceMethod_spec hinst
  obtain ⟨m8, methM', cM, hn8, hmethM', -, -, -, -, -, -, hsigM⟩ := Cond.codeWith_spec hcode
  cases Option.some.inj (hn8.symm.trans hnamed)
  cases hmethM.symm.trans hmethM'
  obtain ⟨c2, r2, m2, q1, q2, q3, q4, kP, hkP, hkPi⟩ := Cond.selects_spec hsel
  cases hcls.symm.trans q1
  cases (State.methodFound?_of_named hnamed hy).symm.trans q2
  cases hnamed.symm.trans q3
  have hselP : selectMethod e.platform s.vm cellB.cls mk = .method mk := by rw [Launch.admits_selectMethod X.admits]; exact q4
  obtain ⟨vm₁, X₁, hstep₁⟩ := X.invokevirtual hexec hown hlink hnamed hmethM hstM hkP hkPi hy (a := b) (cell := cellB) hcell
    (fun z h => by rw [h] at hobj; cases hobj) hselP hmethM habM hkP hkPi (g := g) hg (argsL := argsL) (rest := rest) (hlen _ hsigM) hstack hdg
  rcases hK m meth c ⟨T.setVm vm₁, locs, cells, slots⟩ { g with stack := rest } (.invokevirtual index) mk (Value.ref b :: argsL).toArray X₁ hg hsize hdg hW (X₁.named hnamed) (hpre vm₁ X₁.warmed) with ⟨v, B, X', hpost, hsteps⟩ | ⟨q, B, X', hpost, hsteps⟩
  · exact Or.inl ⟨v, vm₁, B, X₁.warmed, X', hpost, fun target h => hstep₁ _ fun acts => by rw [doInvoke_state]; exact hsteps.trans h⟩
  · exact Or.inr ⟨q, vm₁, B, X₁.warmed, X', hpost, hstep₁ _ fun acts => by rw [doInvoke_state]; exact hsteps⟩
theorem vx_callSX (X : Stand p l e R s m args below meth c T locs cells slots) (hexec : p.tables.exec = Jvm.exec) {own : String} {index : Nat} {y : MethodName} {bytes : ByteArray} {maxL : Nat} {ret : Option FieldType} {hh : List (Nat × Nat × Nat × Nat)}
    (hown : s.vm.findClass own = some m.cls) (hlink : (Cond.methodLink own index y).before args s = true) (hstat : (Cond.static y).before args s = true) (hinit : (Cond.initialized y.cls).before args s = true)
    (hcode : (Cond.codeWith y bytes maxL ret hh).before args s = true) (hy : y.cls ≠ "java/lang/invoke/MethodHandle" ∧ y.cls ≠ "java/lang/invoke/VarHandle")
    {W9 : Nat} {Pre : Pt → Array Value → Prop} {Post : Pt → Array Value → Option Value → Pt → Prop} {PostX : Pt → Array Value → Addr → Pt → Prop} (hK : vx_Back l R p e below s args y 3 W9 Pre Post PostX)
    {g : JFrame} (hg : g.method = m) (hsize : g.locals.size = c.maxLocals) {argsL rest : List Value} (hlen : ∀ sig, parseMethodDescriptor y.desc = some sig → argsL.length = sig.parameters.length)
    (hstack : g.stack = argsL.reverse ++ rest) (hW : 2 * g.monitorRoom + (rest.map fun v => v.category).sum ≤ W9) (hdg : decode c.code g.pc = .ok (.invokestatic index, 3))
    (hpre : ∀ vm₁, s.WarmedH vm₁ → Pre ⟨T.setVm vm₁, locs, cells, slots⟩ argsL.toArray) :
    (∃ (v : Option Value) (vm₁ : Vm) (B : Pt), s.WarmedH vm₁ ∧ Stand p l e R s m args below meth c B.U B.locs B.cells B.slots ∧ Post ⟨T.setVm vm₁, locs, cells, slots⟩ argsL.toArray v B ∧
      ∀ target, Steps p.tables e below (B.U.setTop { g with pc := g.pc + 3, stack := v.toList ++ rest }) target → Steps p.tables e below (T.setTop g) target) ∨
    (∃ (q : Addr) (vm₁ : Vm) (B : Pt), s.WarmedH vm₁ ∧ Stand p l e R s m args below meth c B.U B.locs B.cells B.slots ∧ PostX ⟨T.setVm vm₁, locs, cells, slots⟩ argsL.toArray q B ∧
      Steps p.tables e below (T.setTop g) ((B.U.setTop { g with stack := rest }).pushFrame (.throwing q))) := by
  obtain ⟨mk, methM, cM, hnamed, hmethM, -, -, -, -, -, -, hsigM⟩ := Cond.codeWith_spec hcode
  have hstatic : methM.isStatic = true := Cond.static_spec hnamed hmethM hstat
  obtain ⟨kP, hkP, -⟩ := className_of_methodNamed hnamed
  have hinitP : kP.init = .initialized := Cond.initialized_spec (findClass_of_methodNamed hnamed) hkP hinit
  obtain ⟨vm₁, X₁, hstep₁⟩ := X.invokestatic hexec hown hlink hnamed hmethM hstatic hkP hinitP hy (g := g) hg (argsL := argsL) (rest := rest) (hlen _ hsigM) hstack hdg
  rcases hK m meth c ⟨T.setVm vm₁, locs, cells, slots⟩ { g with stack := rest } (.invokestatic index) mk argsL.toArray X₁ hg hsize hdg hW (X₁.named hnamed) (hpre vm₁ X₁.warmed) with ⟨v, B, X', hpost, hsteps⟩ | ⟨q, B, X', hpost, hsteps⟩
  · exact Or.inl ⟨v, vm₁, B, X₁.warmed, X', hpost, fun target h => hstep₁ _ fun acts => by rw [doInvoke_state]; exact hsteps.trans h⟩
  · exact Or.inr ⟨q, vm₁, B, X₁.warmed, X', hpost, hstep₁ _ fun acts => by rw [doInvoke_state]; exact hsteps⟩
theorem vx_callVW (X : Stand p l e R s m args below meth c T locs cells slots) (hexec : p.tables.exec = Jvm.exec) {own C : String} {index : Nat} {y : MethodName} {bytes : ByteArray} {maxL : Nat} {ret : Option FieldType} {hh : List (Nat × Nat × Nat × Nat)}
    (hown : s.vm.findClass own = some m.cls) (hlink : (Cond.methodLink own index y).before args s = true) (hinst : (Cond.instanceMethod y).before args s = true) (hsel : (Cond.selects C y y).before args s = true)
    (hcode : (Cond.codeWith y bytes maxL ret hh).before args s = true) (hy : y.cls ≠ "java/lang/invoke/MethodHandle" ∧ y.cls ≠ "java/lang/invoke/VarHandle")
    {W9 : Nat} {Pre : Pt → Array Value → Prop} {Post : Pt → Array Value → Option Value → Pt → Prop} (hK : Back l R p e below s args y 3 W9 Pre Post)
    {b : Addr} {cellB : Cell} (hcell : T.heap[b]? = some cellB) (hobj : cellB.vm.isStatics = false) (hcls : s.vm.findClass C = some cellB.cls)
    {g : JFrame} (hg : g.method = m) (hsize : g.locals.size = c.maxLocals) {argsL rest : List Value} (hlen : ∀ sig, parseMethodDescriptor y.desc = some sig → argsL.length = sig.parameters.length)
    (hstack : g.stack = argsL.reverse ++ .ref b :: rest) (hW : 2 * g.monitorRoom + (rest.map fun v => v.category).sum ≤ W9) (hdg : decode c.code g.pc = .ok (.invokevirtual index, 3))
    (hpre : ∀ vm₁, s.WarmedH vm₁ → Pre ⟨T.setVm vm₁, locs, cells, slots⟩ (Value.ref b :: argsL).toArray) :
    ∃ (v : Option Value) (vm₁ : Vm) (B : Pt), s.WarmedH vm₁ ∧ Stand p l e R s m args below meth c B.U B.locs B.cells B.slots ∧ Post ⟨T.setVm vm₁, locs, cells, slots⟩ (Value.ref b :: argsL).toArray v B ∧
      ∀ target, Steps p.tables e below (B.U.setTop { g with pc := g.pc + 3, stack := v.toList ++ rest }) target → Steps p.tables e below (T.setTop g) target := by
  obtain ⟨mk, methM, hnamed, hmethM, hstM, habM⟩ := Cond.instanceMethod_spec hinst
  obtain ⟨m8, methM', cM, hn8, hmethM', -, -, -, -, -, -, hsigM⟩ := Cond.codeWith_spec hcode
  cases Option.some.inj (hn8.symm.trans hnamed)
  cases hmethM.symm.trans hmethM'
  obtain ⟨c2, r2, m2, q1, q2, q3, q4, kP, hkP, hkPi⟩ := Cond.selects_spec hsel
  cases hcls.symm.trans q1
  cases (State.methodFound?_of_named hnamed hy).symm.trans q2
  cases hnamed.symm.trans q3
  have hselP : selectMethod e.platform s.vm cellB.cls mk = .method mk := by rw [Launch.admits_selectMethod X.admits]; exact q4
  obtain ⟨vm₁, X₁, hstep₁⟩ := X.invokevirtual hexec hown hlink hnamed hmethM hstM hkP hkPi hy (a := b) (cell := cellB) hcell
    (fun z h => by rw [h] at hobj; cases hobj) hselP hmethM habM hkP hkPi (g := g) hg (argsL := argsL) (rest := rest) (hlen _ hsigM) hstack hdg
  obtain ⟨v, B, X', hpost, hsteps⟩ := hK m meth c ⟨T.setVm vm₁, locs, cells, slots⟩ { g with stack := rest } (.invokevirtual index) mk (Value.ref b :: argsL).toArray X₁ hg hsize hdg hW (X₁.named hnamed) (hpre vm₁ X₁.warmed)
  exact ⟨v, vm₁, B, X₁.warmed, X', hpost, fun target h => hstep₁ _ fun acts => by rw [doInvoke_state]; exact hsteps.trans h⟩
abbrev vx_CVW (R : Room) (s : State) (args : Array Value) (own C : String) (index : Nat) (y : MethodName) (bytes : ByteArray) (maxL : Nat) (ret : Option FieldType) (hh : List (Nat × Nat × Nat × Nat)) (ws : List Cond) (rm : Room) (mc ms n : Nat) : Prop :=
  (rm.cells = mc ∧ rm.slots = ms ∧ rm.frames + 1 ≤ R.frames ∧ 8 + (maxL + 11) + rm.locals ≤ R.locals ∧ (∀ w ∈ ws, ∀ (a' : Array Value) (U : State), s.WarmedH U.vm → w.before a' U = true) ∧ Cond.codeWith y bytes maxL ret hh ∈ ws) ∧
  (Cond.codeWith y bytes maxL ret hh).before args s = true ∧ (Cond.initialized y.cls).before args s = true ∧ (y.cls ≠ "java/lang/invoke/MethodHandle" ∧ y.cls ≠ "java/lang/invoke/VarHandle") ∧
  (∀ sig, parseMethodDescriptor y.desc = some sig → n = sig.parameters.length) ∧ (Cond.methodLink own index y).before args s = true ∧ (Cond.instanceMethod y).before args s = true ∧ (Cond.selects C y y).before args s = true
theorem vx_cwVW {own C : String} {index maxL mc ms : Nat} {y : MethodName} {bytes : ByteArray} {ret : Option FieldType} {hh : List (Nat × Nat × Nat × Nat)} {Ts ws ws' : List Cond} {rm : Room} (n : Nat) (ht : ∀ w ∈ Ts, w.before args s = true) (hT : GoodIn Ts (wsV own index C y ws)) (hw : ws = Cond.codeWith y bytes maxL ret hh :: ws') (hrc : rm.cells = mc) (hrs : rm.slots = ms)
    (hd : y.cls = C ∧ y.cls ≠ "java/lang/invoke/MethodHandle" ∧ y.cls ≠ "java/lang/invoke/VarHandle" ∧ (parseMethodDescriptor y.desc).map (fun d => d.parameters.length) = some n) (hR : rm.frames + 1 ≤ R.frames ∧ 8 + (maxL + 11) + rm.locals ≤ R.locals) :
    vx_CVW R s args own C index y bytes maxL ret hh ws rm mc ms n := by
  obtain ⟨hC, hd⟩ := hd
  subst hC
  have ok : ∀ w ∈ wsV own index y.cls y ws, w.before args s = true := fun w h => ht w (hT w h).1
  have hG : GoodIn Ts ws := fun w h => hT w (by unfold wsV; exact List.mem_append_right _ h)
  have hc : Cond.codeWith y bytes maxL ret hh ∈ ws := by rw [hw]; exact List.mem_cons_self
  refine ⟨⟨hrc, hrs, hR.1, hR.2, pay_in ht hG, hc⟩, ht _ (hG _ hc).1, ok _ (by simp [wsV]), ⟨hd.1, hd.2.1⟩, fun sig h => ?_, ok _ (by simp [wsV]), ok _ (by simp [wsV]), ok _ (by simp [wsV])⟩
  have h2 := hd.2.2
  rw [h] at h2
  exact (Option.some.inj h2).symm
theorem vx_runVW {y : MethodName} {bytes cc : ByteArray} {maxL nL mc ms n index : Nat} {ret : Option FieldType} {hh : List (Nat × Nat × Nat × Nat)} {ws : List Cond} {rm : Room} {Pc : Array Value → State → Prop} {Qc : Array Value → State → Outcome → State → Prop} {free : Addr → Prop} {Ts : List Cond} {own C : String} {b : Addr} {As rest : List Value} {g : JFrame}
    (S : CallFix p m c cc nL s args Ts own) (hM : Met l y ws rm Pc Qc mc ms free) (cw : vx_CVW R s args own C index y bytes maxL ret hh ws rm mc ms n) (hp : PreV s H C b Pc As)
    (hg : g.method = m) (hn : As.length = n) (hsize : g.locals.size = nL) (hstack : g.stack = As.reverse ++ .ref b :: rest) (hW : 2 * g.monitorRoom + (rest.map fun v => v.category).sum ≤ 8) (hdg : decode cc g.pc = .ok (.invokevirtual index, 3)) (hf : cells + mc ≤ R.cells ∧ slots + ms ≤ R.slots) :
    va_Run p l e R s m args below meth c H locs cells slots mc ms g rest (Qc (Value.ref b :: As).toArray) free := by
  obtain ⟨⟨hrc, hrs, hfr, hlo, hws, hcw⟩, hcode, hini, hy, hlen, hl, hin, hse⟩ := cw
  have hK : Back l R p e below s args y 3 8 (PreOf R mc ms Pc) (PostOf Qc mc ms free) := va_backW (hh := hh) (bytes := bytes) (maxL := maxL) (ret := ret) hM hp.1 hrc hrs hfr hlo hws hcw (fun a' U hW => word_at hW (Or.inl (by first | rfl | simp [Cond.onTables, Cond.keeps, Cond.steady])) hini)
  obtain ⟨hx, hb, hml, ho, -⟩ := S
  obtain ⟨-, ⟨cellB, hcB, hoB, hclB⟩, hPc⟩ := hp
  intro T hT X
  obtain ⟨v, vm₁, ⟨U', l2, c2, s2⟩, hW₁, X', ⟨g', mk, t, L, e1, e2, hq, h1, hL, h2, h3⟩, st⟩ := vx_callVW X hx (C := C) (hh := hh) (bytes := bytes) (maxL := maxL) (ret := ret) ho hl hin hse hcode hy hK (by rw [hT]; exact hcB) hoB hclB hg (hsize.trans hml.symm) (argsL := As) (rest := rest) (fun sig h => hn.trans (hlen sig h)) hstack hW (by rw [hb]; exact hdg)
    (fun vm₁ hW₁ => ⟨hf.1, hf.2, hPc (T.setVm vm₁) hT hW₁⟩)
  dsimp only [Pt.U, Pt.locs, Pt.cells, Pt.slots] at X' e1 e2 h1 h2 h3 st
  subst h1; subst h2; subst h3
  exact ⟨v, (T.setVm vm₁).calling g' mk (Value.ref b :: As).toArray, t, U', L, hT, X', hL, e1, e2, hq, st⟩
section
variable {y : MethodName} {bytes cc : ByteArray} {maxL nL mc ms n index : Nat} {ret : Option FieldType} {ws : List Cond} {rm : Room} {Pc : Array Value → State → Prop} {Qc : Array Value → State → Outcome → State → Prop} {XC : String → State → State → Prop} {free : Addr → Prop} {Ts : List Cond} {own C : String} {b : Addr} {As rest : List Value} {g : JFrame}
theorem vx_runVX {hh : List (Nat × Nat × Nat × Nat)} (S : CallFix p m c cc nL s args Ts own) (hM : vx_Met l y ws rm Pc Qc XC mc ms free) (cw : vx_CVW R s args own C index y bytes maxL ret hh ws rm mc ms n) (hp : PreV s H C b Pc As)
    (hg : g.method = m) (hn : As.length = n) (hsize : g.locals.size = nL) (hstack : g.stack = As.reverse ++ .ref b :: rest) (hW : 2 * g.monitorRoom + (rest.map fun v => v.category).sum ≤ 8) (hdg : decode cc g.pc = .ok (.invokevirtual index, 3)) (hf : cells + mc ≤ R.cells ∧ slots + ms ≤ R.slots) :
    vx_Run p l e R s m args below meth c H locs cells slots mc ms g rest (Qc (Value.ref b :: As).toArray) XC free := by
  obtain ⟨⟨hrc, hrs, hfr, hlo, hws, hcw⟩, hcode, hini, hy, hlen, hl, hin, hse⟩ := cw
  have hK : vx_Back l R p e below s args y 3 8 (PreOf R mc ms Pc) (PostOf Qc mc ms free) (vx_Post XC mc ms free) := vx_backW (hh := hh) (bytes := bytes) (maxL := maxL) (ret := ret) hM hp.1 hrc hrs hfr hlo hws hcw (fun a' U hW => word_at hW (Or.inl (by first | rfl | simp [Cond.onTables, Cond.keeps, Cond.steady])) hini)
  obtain ⟨hx, hb, hml, ho, -⟩ := S
  obtain ⟨-, ⟨cellB, hcB, hoB, hclB⟩, hPc⟩ := hp
  intro T hT X
  rcases vx_callVX X hx (C := C) (hh := hh) (bytes := bytes) (maxL := maxL) (ret := ret) ho hl hin hse hcode hy hK (by rw [hT]; exact hcB) hoB hclB hg (hsize.trans hml.symm) (argsL := As) (rest := rest) (fun sig h => hn.trans (hlen sig h)) hstack hW (by rw [hb]; exact hdg)
    (fun vm₁ hW₁ => ⟨hf.1, hf.2, hPc (T.setVm vm₁) hT hW₁⟩) with ⟨v, vm₁, ⟨U', l2, c2, s2⟩, hW₁, X', ⟨g', mk, t, L, e1, e2, hq, h1, hL, h2, h3⟩, st⟩ | ⟨q, vm₁, ⟨U', l2, c2, s2⟩, hW₁, X', ⟨g', mk, t, L, E, ce, e1, e2, hq, hce, hcv, hcl, h1, hL, h2, h3⟩, st⟩
  · dsimp only [Pt.U, Pt.locs, Pt.cells, Pt.slots] at X' e1 e2 h1 h2 h3 st
    subst h1; subst h2; subst h3
    exact Or.inl ⟨v, (T.setVm vm₁).calling g' mk (Value.ref b :: As).toArray, t, U', L, hT, X', hL, e1, e2, hq, st⟩
  · dsimp only [Pt.U, Pt.locs, Pt.cells, Pt.slots] at X' e1 e2 h1 h2 h3 st hcl
    subst h1; subst h2; subst h3
    exact Or.inr ⟨q, (T.setVm vm₁).calling g' mk (Value.ref b :: As).toArray, t, U', L, E, ce, hT, X', hL, e1, e2, hq, hce, hcv, vx_cls hW₁ hcl, st⟩
theorem vx_runSX {hh : List (Nat × Nat × Nat × Nat)} (S : CallFix p m c cc nL s args Ts own) (hM : vx_Met l y ws rm Pc Qc XC mc ms free) (cw : vx_CSW R s args own index y bytes maxL ret hh ws rm mc ms n) (hp : PreS s H Pc As)
    (hg : g.method = m) (hn : As.length = n) (hsize : g.locals.size = nL) (hstack : g.stack = As.reverse ++ rest) (hW : 2 * g.monitorRoom + (rest.map fun v => v.category).sum ≤ 8) (hdg : decode cc g.pc = .ok (.invokestatic index, 3)) (hf : cells + mc ≤ R.cells ∧ slots + ms ≤ R.slots) :
    vx_Run p l e R s m args below meth c H locs cells slots mc ms g rest (Qc As.toArray) XC free := by
  obtain ⟨⟨hrc, hrs, hfr, hlo, hws, hcw⟩, hcode, hini, hy, hlen, hl, hstt⟩ := cw
  have hK : vx_Back l R p e below s args y 3 8 (PreOf R mc ms Pc) (PostOf Qc mc ms free) (vx_Post XC mc ms free) := vx_backW (hh := hh) (bytes := bytes) (maxL := maxL) (ret := ret) hM hp.1 hrc hrs hfr hlo hws hcw (fun a' U hW => word_at hW (Or.inl (by first | rfl | simp [Cond.onTables, Cond.keeps, Cond.steady])) hini)
  obtain ⟨hx, hb, hml, ho, -⟩ := S
  intro T hT X
  rcases vx_callSX X hx (hh := hh) (bytes := bytes) (maxL := maxL) (ret := ret) ho hl hstt hini hcode hy hK hg (hsize.trans hml.symm) (argsL := As) (rest := rest) (fun sig h => hn.trans (hlen sig h)) hstack hW (by rw [hb]; exact hdg)
    (fun vm₁ hW₁ => ⟨hf.1, hf.2, hp.2 (T.setVm vm₁) hT hW₁⟩) with ⟨v, vm₁, ⟨U', l2, c2, s2⟩, hW₁, X', ⟨g', mk, t, L, e1, e2, hq, h1, hL, h2, h3⟩, st⟩ | ⟨q, vm₁, ⟨U', l2, c2, s2⟩, hW₁, X', ⟨g', mk, t, L, E, ce, e1, e2, hq, hce, hcv, hcl, h1, hL, h2, h3⟩, st⟩
  · dsimp only [Pt.U, Pt.locs, Pt.cells, Pt.slots] at X' e1 e2 h1 h2 h3 st
    subst h1; subst h2; subst h3
    exact Or.inl ⟨v, (T.setVm vm₁).calling g' mk As.toArray, t, U', L, hT, X', hL, e1, e2, hq, st⟩
  · dsimp only [Pt.U, Pt.locs, Pt.cells, Pt.slots] at X' e1 e2 h1 h2 h3 st hcl
    subst h1; subst h2; subst h3
    exact Or.inr ⟨q, (T.setVm vm₁).calling g' mk As.toArray, t, U', L, E, ce, hT, X', hL, e1, e2, hq, hce, hcv, vx_cls hW₁ hcl, st⟩
end
end VXH
theorem vx_ofWH {l : Launch} {y : MethodName} {ws ws' : List Cond} {rm : Room} {Pc : Array Value → State → Prop} {Qc : Array Value → State → Outcome → State → Prop} {XC : String → State → State → Prop} {mc ms : Nat} {free : Addr → Prop} {cc : ByteArray} {maxL : Nat} {ret : Option FieldType} {hh : List (Nat × Nat × Nat × Nat)}
    (hy : plainName y.cls = true) (hw : ws = Cond.codeWith y cc maxL ret hh :: ws')
    (body : ∀ p e s m args below meth c s₁, BodyLoose p l y (headSpec ws rm) cc maxL ret e s m args below meth c s₁ → c.maxLocals = maxL → Pc args s →
      W p l e (headSpec ws rm).room s m args below meth c s.heap [] 0 0 (vx_MQ below Qc XC args s mc ms free) (entryFrame m args maxL)) : vx_Met l y ws rm Pc Qc XC mc ms free := by
  refine MetFree.of_bodyS (code := cc) (maxLocals := maxL) (ret := ret) hy ?_ ?_
  · intro args s m h hn
    obtain ⟨m9, meth, c, hn9, h1, h2, h3, h4, -, h5, h6, -⟩ := Cond.codeWith_spec (atoms_spec (ws := ws) h _ (by rw [hw]; exact List.mem_cons_self))
    cases hn.symm.trans hn9
    exact ⟨meth, c, h1, h2, h3, h4, h5, h6⟩
  · intro p e s m args below meth c s₁ B hml hP _
    have hh0 : s₁.heap = s.heap := by rw [B.state]; rfl
    obtain ⟨t, a1, o, b1, b2, b3⟩ := body p e s m args below meth c s₁ B hml hP s₁ hh0 (Stand.of_body B)
    exact ⟨t, o, a1, b1, b2, b3⟩
/-! ===== END ===== -/
end
section
def RX0 : String := "OptimisticStore$Constraint"
def TX0 : u_T := fun k => match k with
  | 0 => ("OptimisticStore$Constraint", "kind", "I", true)
  | 1 => ("OptimisticStore$Constraint", "low", "I", true)
  | 2 => ("OptimisticStore$Constraint", "high", "I", true)
  | _ => ("OptimisticStore$Constraint", "bound", "I", true)
def tyX0 : Nat → FieldType := fun k => match k with
  | 0 => .int
  | 1 => .int
  | 2 => .int
  | _ => .int
abbrev wsX00 : List Cond := u_ws RX0 TX0 4
theorem nmX0 : ∀ a, a < 4 → ∀ b, b < 4 → a ≠ b → (TX0 a).2.1 ≠ (TX0 b).2.1 := by decide +kernel
theorem tyX0_ok : ∀ k, k < 4 → parseFieldDescriptor (TX0 k).2.2.1 = some (tyX0 k) := by decide +kernel
abbrev cX0_init : ByteArray := prog_2_method_1_code
def yX0_init : MethodName := ⟨RX0, "<init>", "(IIII)V"⟩
abbrev cX0_isViolatedBy : ByteArray := prog_2_method_2_code
def yX0_isViolatedBy : MethodName := ⟨RX0, "isViolatedBy", "([I)Z"⟩
def RX1 : String := "OptimisticStore$History"
def TX1 : u_T := fun k => match k with
  | 0 => ("OptimisticStore$History", "stores", "[[I", true)
  | 1 => ("OptimisticStore$History", "authors", "[LOptimisticStore$Transaction;", true)
  | _ => ("OptimisticStore$History", "latest", "I", false)
def tyX1 : Nat → FieldType := fun k => match k with
  | 0 => .array (.array .int)
  | 1 => .array (.object "OptimisticStore$Transaction")
  | _ => .int
abbrev wsX10 : List Cond := u_ws RX1 TX1 3
theorem nmX1 : ∀ a, a < 3 → ∀ b, b < 3 → a ≠ b → (TX1 a).2.1 ≠ (TX1 b).2.1 := by decide +kernel
theorem tyX1_ok : ∀ k, k < 3 → parseFieldDescriptor (TX1 k).2.2.1 = some (tyX1 k) := by decide +kernel
abbrev cX1_init : ByteArray := prog_3_method_1_code
def yX1_init : MethodName := ⟨RX1, "<init>", "()V"⟩
abbrev cX1_isFull : ByteArray := prog_3_method_2_code
def yX1_isFull : MethodName := ⟨RX1, "isFull", "()Z"⟩
abbrev cX1_storeAfter : ByteArray := prog_3_method_3_code
def yX1_storeAfter : MethodName := ⟨RX1, "storeAfter", "(I)[I"⟩
abbrev cX1_newest : ByteArray := prog_3_method_4_code
def yX1_newest : MethodName := ⟨RX1, "newest", "()[I"⟩
abbrev cX1_authorOf : ByteArray := prog_3_method_5_code
def yX1_authorOf : MethodName := ⟨RX1, "authorOf", "(I)LOptimisticStore$Transaction;"⟩
abbrev cX1_append : ByteArray := prog_3_method_6_code
def yX1_append : MethodName := ⟨RX1, "append", "(LOptimisticStore$Transaction;)V"⟩
abbrev cX1_takeBackAfter : ByteArray := prog_3_method_7_code
def yX1_takeBackAfter : MethodName := ⟨RX1, "takeBackAfter", "(I)I"⟩
abbrev cX1_latestWriter : ByteArray := prog_3_method_8_code
def yX1_latestWriter : MethodName := ⟨RX1, "latestWriter", "(I)I"⟩
abbrev cX1_stalenessOf : ByteArray := prog_3_method_9_code
def yX1_stalenessOf : MethodName := ⟨RX1, "stalenessOf", "(LOptimisticStore$Transaction;)I"⟩
abbrev cX1_link : ByteArray := prog_3_method_10_code
def yX1_link : MethodName := ⟨RX1, "link", "(II)I"⟩
abbrev cX1_writtenBy : ByteArray := prog_3_method_11_code
def yX1_writtenBy : MethodName := ⟨RX1, "writtenBy", "(I)I"⟩
abbrev cX1_isTouchedSince : ByteArray := prog_3_method_12_code
def yX1_isTouchedSince : MethodName := ⟨RX1, "isTouchedSince", "(LOptimisticStore$Operation;)Z"⟩
abbrev cX1_readsFrom : ByteArray := prog_3_method_13_code
def yX1_readsFrom : MethodName := ⟨RX1, "readsFrom", "(III)Z"⟩
def RX2 : String := "OptimisticStore$Operation"
def TX2 : u_T := fun k => match k with
  | 0 => ("OptimisticStore$Operation", "kind", "I", true)
  | 1 => ("OptimisticStore$Operation", "low", "I", true)
  | 2 => ("OptimisticStore$Operation", "high", "I", true)
  | 3 => ("OptimisticStore$Operation", "number", "I", true)
  | 4 => ("OptimisticStore$Operation", "madeAt", "I", false)
  | _ => ("OptimisticStore$Operation", "result", "I", false)
def tyX2 : Nat → FieldType := fun k => match k with
  | 0 => .int
  | 1 => .int
  | 2 => .int
  | 3 => .int
  | 4 => .int
  | _ => .int
abbrev wsX20 : List Cond := u_ws RX2 TX2 6
theorem nmX2 : ∀ a, a < 6 → ∀ b, b < 6 → a ≠ b → (TX2 a).2.1 ≠ (TX2 b).2.1 := by decide +kernel
theorem tyX2_ok : ∀ k, k < 6 → parseFieldDescriptor (TX2 k).2.2.1 = some (tyX2 k) := by decide +kernel
abbrev cX2_init : ByteArray := prog_4_method_1_code
def yX2_init : MethodName := ⟨RX2, "<init>", "(IIII)V"⟩
abbrev cX2_isWellFormed : ByteArray := prog_4_method_2_code
def yX2_isWellFormed : MethodName := ⟨RX2, "isWellFormed", "()Z"⟩
abbrev cX2_isPredicate : ByteArray := prog_4_method_3_code
def yX2_isPredicate : MethodName := ⟨RX2, "isPredicate", "()Z"⟩
abbrev cX2_makesRead : ByteArray := prog_4_method_4_code
def yX2_makesRead : MethodName := ⟨RX2, "makesRead", "()Z"⟩
abbrev cX2_makesWrite : ByteArray := prog_4_method_5_code
def yX2_makesWrite : MethodName := ⟨RX2, "makesWrite", "()Z"⟩
abbrev cX2_staysInRange : ByteArray := prog_4_method_6_code
def yX2_staysInRange : MethodName := ⟨RX2, "staysInRange", "([I)Z"⟩
abbrev cX2_carryOut : ByteArray := prog_4_method_7_code
def yX2_carryOut : MethodName := ⟨RX2, "carryOut", "([I)I"⟩
abbrev cX2_isTouchedBy : ByteArray := prog_4_method_8_code
def yX2_isTouchedBy : MethodName := ⟨RX2, "isTouchedBy", "(LOptimisticStore$Transaction;[I)Z"⟩
abbrev cX2_sumWith : ByteArray := prog_4_method_9_code
def yX2_sumWith : MethodName := ⟨RX2, "sumWith", "(I)I"⟩
abbrev cX2_admits : ByteArray := prog_4_method_10_code
def yX2_admits : MethodName := ⟨RX2, "admits", "(I)Z"⟩
def RX3 : String := "OptimisticStore$Script"
def TX3 : u_T := fun k => match k with
  | 0 => ("OptimisticStore$Script", "text", "[C", true)
  | 1 => ("OptimisticStore$Script", "steps", "[LOptimisticStore$Operation;", true)
  | 2 => ("OptimisticStore$Script", "position", "I", false)
  | 3 => ("OptimisticStore$Script", "length", "I", false)
  | 4 => ("OptimisticStore$Script", "stepCount", "I", false)
  | _ => ("OptimisticStore$Script", "fault", "I", false)
def tyX3 : Nat → FieldType := fun k => match k with
  | 0 => .array .char
  | 1 => .array (.object "OptimisticStore$Operation")
  | 2 => .int
  | 3 => .int
  | 4 => .int
  | _ => .int
abbrev wsX30 : List Cond := u_ws RX3 TX3 6
theorem nmX3 : ∀ a, a < 6 → ∀ b, b < 6 → a ≠ b → (TX3 a).2.1 ≠ (TX3 b).2.1 := by decide +kernel
theorem tyX3_ok : ∀ k, k < 6 → parseFieldDescriptor (TX3 k).2.2.1 = some (tyX3 k) := by decide +kernel
abbrev cX3_init : ByteArray := prog_5_method_1_code
def yX3_init : MethodName := ⟨RX3, "<init>", "()V"⟩
abbrev cX3_extend : ByteArray := prog_5_method_2_code
def yX3_extend : MethodName := ⟨RX3, "extend", "(C)I"⟩
abbrev cX3_stepAt : ByteArray := prog_5_method_3_code
def yX3_stepAt : MethodName := ⟨RX3, "stepAt", "(I)LOptimisticStore$Operation;"⟩
abbrev cX3_parseAndEmpty : ByteArray := prog_5_method_4_code
def yX3_parseAndEmpty : MethodName := ⟨RX3, "parseAndEmpty", "()Z"⟩
abbrev cX3_parseSteps : ByteArray := prog_5_method_5_code
def yX3_parseSteps : MethodName := ⟨RX3, "parseSteps", "()Z"⟩
abbrev cX3_parseStep : ByteArray := prog_5_method_6_code
def yX3_parseStep : MethodName := ⟨RX3, "parseStep", "()LOptimisticStore$Operation;"⟩
abbrev cX3_kindOf : ByteArray := prog_5_method_7_code
def yX3_kindOf : MethodName := ⟨RX3, "kindOf", "(C)I"⟩
abbrev cX3_parseWrite : ByteArray := prog_5_method_8_code
def yX3_parseWrite : MethodName := ⟨RX3, "parseWrite", "(I)LOptimisticStore$Operation;"⟩
abbrev cX3_parseAdd : ByteArray := prog_5_method_9_code
def yX3_parseAdd : MethodName := ⟨RX3, "parseAdd", "(I)LOptimisticStore$Operation;"⟩
abbrev cX3_parseSum : ByteArray := prog_5_method_10_code
def yX3_parseSum : MethodName := ⟨RX3, "parseSum", "(I)LOptimisticStore$Operation;"⟩
abbrev cX3_parseDigits : ByteArray := prog_5_method_11_code
def yX3_parseDigits : MethodName := ⟨RX3, "parseDigits", "(IIZ)LOptimisticStore$Operation;"⟩
abbrev cX3_parseKey : ByteArray := prog_5_method_12_code
def yX3_parseKey : MethodName := ⟨RX3, "parseKey", "()I"⟩
abbrev cX3_pass : ByteArray := prog_5_method_13_code
def yX3_pass : MethodName := ⟨RX3, "pass", "(C)Z"⟩
abbrev cX3_current : ByteArray := prog_5_method_14_code
def yX3_current : MethodName := ⟨RX3, "current", "()C"⟩
abbrev cX3_isDigit : ByteArray := prog_5_method_15_code
def yX3_isDigit : MethodName := ⟨RX3, "isDigit", "(C)Z"⟩
def RX4 : String := "OptimisticStore$Transaction"
def TX4 : u_T := fun k => match k with
  | 0 => ("OptimisticStore$Transaction", "number", "I", true)
  | 1 => ("OptimisticStore$Transaction", "attemptNumber", "I", true)
  | 2 => ("OptimisticStore$Transaction", "operations", "[LOptimisticStore$Operation;", true)
  | 3 => ("OptimisticStore$Transaction", "recordedAt", "[I", true)
  | 4 => ("OptimisticStore$Transaction", "newValues", "[I", true)
  | 5 => ("OptimisticStore$Transaction", "operationsMade", "I", false)
  | 6 => ("OptimisticStore$Transaction", "recorded", "I", false)
  | 7 => ("OptimisticStore$Transaction", "written", "I", false)
  | 8 => ("OptimisticStore$Transaction", "state", "I", false)
  | 9 => ("OptimisticStore$Transaction", "abortReason", "I", false)
  | 10 => ("OptimisticStore$Transaction", "commitNumber", "I", false)
  | _ => ("OptimisticStore$Transaction", "retried", "Z", false)
def tyX4 : Nat → FieldType := fun k => match k with
  | 0 => .int
  | 1 => .int
  | 2 => .array (.object "OptimisticStore$Operation")
  | 3 => .array .int
  | 4 => .array .int
  | 5 => .int
  | 6 => .int
  | 7 => .int
  | 8 => .int
  | 9 => .int
  | 10 => .int
  | _ => .boolean
abbrev wsX40 : List Cond := u_ws RX4 TX4 12
theorem nmX4 : ∀ a, a < 12 → ∀ b, b < 12 → a ≠ b → (TX4 a).2.1 ≠ (TX4 b).2.1 := by decide +kernel
theorem tyX4_ok : ∀ k, k < 12 → parseFieldDescriptor (TX4 k).2.2.1 = some (tyX4 k) := by decide +kernel
abbrev cX4_init : ByteArray := prog_6_method_1_code
def yX4_init : MethodName := ⟨RX4, "<init>", "(II)V"⟩
abbrev cX4_canOperate : ByteArray := prog_6_method_2_code
def yX4_canOperate : MethodName := ⟨RX4, "canOperate", "()Z"⟩
abbrev cX4_hasRecorded : ByteArray := prog_6_method_3_code
def yX4_hasRecorded : MethodName := ⟨RX4, "hasRecorded", "(I)Z"⟩
abbrev cX4_hasWritten : ByteArray := prog_6_method_4_code
def yX4_hasWritten : MethodName := ⟨RX4, "hasWritten", "(I)Z"⟩
abbrev cX4_keep : ByteArray := prog_6_method_5_code
def yX4_keep : MethodName := ⟨RX4, "keep", "(LOptimisticStore$Operation;II)V"⟩
abbrev cX4_countPredicates : ByteArray := prog_6_method_6_code
def yX4_countPredicates : MethodName := ⟨RX4, "countPredicates", "()I"⟩
abbrev cX4_applyWrites : ByteArray := prog_6_method_7_code
def yX4_applyWrites : MethodName := ⟨RX4, "applyWrites", "([I)V"⟩
abbrev cX4_isHitBy : ByteArray := prog_6_method_8_code
def yX4_isHitBy : MethodName := ⟨RX4, "isHitBy", "(LOptimisticStore$Transaction;[I)Z"⟩
abbrev cX4_repeatsAlikeOn : ByteArray := prog_6_method_9_code
def yX4_repeatsAlikeOn : MethodName := ⟨RX4, "repeatsAlikeOn", "([I)Z"⟩
abbrev cX4_becomeAborted : ByteArray := prog_6_method_10_code
def yX4_becomeAborted : MethodName := ⟨RX4, "becomeAborted", "(I)V"⟩
def RX5 : String := "OptimisticStore"
def TX5 : u_T := fun k => match k with
  | 0 => ("OptimisticStore", "history", "LOptimisticStore$History;", true)
  | 1 => ("OptimisticStore", "transactions", "[LOptimisticStore$Transaction;", true)
  | 2 => ("OptimisticStore", "constraints", "[LOptimisticStore$Constraint;", true)
  | 3 => ("OptimisticStore", "script", "LOptimisticStore$Script;", true)
  | 4 => ("OptimisticStore", "viewRow", "[I", true)
  | 5 => ("OptimisticStore", "chainRow", "[I", true)
  | 6 => ("OptimisticStore", "begun", "I", false)
  | 7 => ("OptimisticStore", "constraintCount", "I", false)
  | 8 => ("OptimisticStore", "policy", "I", false)
  | 9 => ("OptimisticStore", "victimRule", "I", false)
  | 10 => ("OptimisticStore", "patience", "I", false)
  | _ => ("OptimisticStore", "holder", "I", false)
def tyX5 : Nat → FieldType := fun k => match k with
  | 0 => .object "OptimisticStore$History"
  | 1 => .array (.object "OptimisticStore$Transaction")
  | 2 => .array (.object "OptimisticStore$Constraint")
  | 3 => .object "OptimisticStore$Script"
  | 4 => .array .int
  | 5 => .array .int
  | 6 => .int
  | 7 => .int
  | 8 => .int
  | 9 => .int
  | 10 => .int
  | _ => .int
abbrev wsX50 : List Cond := u_ws RX5 TX5 12
theorem nmX5 : ∀ a, a < 12 → ∀ b, b < 12 → a ≠ b → (TX5 a).2.1 ≠ (TX5 b).2.1 := by decide +kernel
theorem tyX5_ok : ∀ k, k < 12 → parseFieldDescriptor (TX5 k).2.2.1 = some (tyX5 k) := by decide +kernel
abbrev cX5_init : ByteArray := prog_1_method_1_code
def yX5_init : MethodName := ⟨RX5, "<init>", "()V"⟩
abbrev cX5_configure : ByteArray := prog_1_method_2_code
def yX5_configure : MethodName := ⟨RX5, "configure", "(III)V"⟩
abbrev cX5_begin : ByteArray := prog_1_method_3_code
def yX5_begin : MethodName := ⟨RX5, "begin", "()I"⟩
abbrev cX5_retry : ByteArray := prog_1_method_4_code
def yX5_retry : MethodName := ⟨RX5, "retry", "(I)I"⟩
abbrev cX5_read : ByteArray := prog_1_method_5_code
def yX5_read : MethodName := ⟨RX5, "read", "(II)I"⟩
abbrev cX5_scan : ByteArray := prog_1_method_6_code
def yX5_scan : MethodName := ⟨RX5, "scan", "(IIII)I"⟩
abbrev cX5_sum : ByteArray := prog_1_method_7_code
def yX5_sum : MethodName := ⟨RX5, "sum", "(III)I"⟩
abbrev cX5_write : ByteArray := prog_1_method_8_code
def yX5_write : MethodName := ⟨RX5, "write", "(III)V"⟩
abbrev cX5_remove : ByteArray := prog_1_method_9_code
def yX5_remove : MethodName := ⟨RX5, "remove", "(II)V"⟩
abbrev cX5_add : ByteArray := prog_1_method_10_code
def yX5_add : MethodName := ⟨RX5, "add", "(III)I"⟩
abbrev cX5_commit : ByteArray := prog_1_method_11_code
def yX5_commit : MethodName := ⟨RX5, "commit", "(I)I"⟩
abbrev cX5_abort : ByteArray := prog_1_method_12_code
def yX5_abort : MethodName := ⟨RX5, "abort", "(I)V"⟩
abbrev cX5_clock : ByteArray := prog_1_method_13_code
def yX5_clock : MethodName := ⟨RX5, "clock", "()I"⟩
abbrev cX5_transactionCount : ByteArray := prog_1_method_14_code
def yX5_transactionCount : MethodName := ⟨RX5, "transactionCount", "()I"⟩
abbrev cX5_activeCount : ByteArray := prog_1_method_15_code
def yX5_activeCount : MethodName := ⟨RX5, "activeCount", "()I"⟩
abbrev cX5_ticketHolder : ByteArray := prog_1_method_16_code
def yX5_ticketHolder : MethodName := ⟨RX5, "ticketHolder", "()I"⟩
abbrev cX5_state : ByteArray := prog_1_method_17_code
def yX5_state : MethodName := ⟨RX5, "state", "(I)I"⟩
abbrev cX5_attempt : ByteArray := prog_1_method_18_code
def yX5_attempt : MethodName := ⟨RX5, "attempt", "(I)I"⟩
abbrev cX5_reason : ByteArray := prog_1_method_19_code
def yX5_reason : MethodName := ⟨RX5, "reason", "(I)I"⟩
abbrev cX5_commitOf : ByteArray := prog_1_method_20_code
def yX5_commitOf : MethodName := ⟨RX5, "commitOf", "(I)I"⟩
abbrev cX5_operationCount : ByteArray := prog_1_method_21_code
def yX5_operationCount : MethodName := ⟨RX5, "operationCount", "(I)I"⟩
abbrev cX5_recordedKeys : ByteArray := prog_1_method_22_code
def yX5_recordedKeys : MethodName := ⟨RX5, "recordedKeys", "(I)I"⟩
abbrev cX5_predicateCount : ByteArray := prog_1_method_23_code
def yX5_predicateCount : MethodName := ⟨RX5, "predicateCount", "(I)I"⟩
abbrev cX5_writtenKeys : ByteArray := prog_1_method_24_code
def yX5_writtenKeys : MethodName := ⟨RX5, "writtenKeys", "(I)I"⟩
abbrev cX5_isStale : ByteArray := prog_1_method_25_code
def yX5_isStale : MethodName := ⟨RX5, "isStale", "(I)Z"⟩
abbrev cX5_rivals : ByteArray := prog_1_method_26_code
def yX5_rivals : MethodName := ⟨RX5, "rivals", "(I)I"⟩
abbrev cX5_value : ByteArray := prog_1_method_27_code
def yX5_value : MethodName := ⟨RX5, "value", "(I)I"⟩
abbrev cX5_valueAt : ByteArray := prog_1_method_28_code
def yX5_valueAt : MethodName := ⟨RX5, "valueAt", "(II)I"⟩
abbrev cX5_writerOf : ByteArray := prog_1_method_29_code
def yX5_writerOf : MethodName := ⟨RX5, "writerOf", "(I)I"⟩
abbrev cX5_transactionOf : ByteArray := prog_1_method_30_code
def yX5_transactionOf : MethodName := ⟨RX5, "transactionOf", "(I)I"⟩
abbrev cX5_dependency : ByteArray := prog_1_method_31_code
def yX5_dependency : MethodName := ⟨RX5, "dependency", "(II)I"⟩
abbrev cX5_longestChain : ByteArray := prog_1_method_32_code
def yX5_longestChain : MethodName := ⟨RX5, "longestChain", "()I"⟩
abbrev cX5_serialFaults : ByteArray := prog_1_method_33_code
def yX5_serialFaults : MethodName := ⟨RX5, "serialFaults", "()I"⟩
abbrev cX5_rewind : ByteArray := prog_1_method_34_code
def yX5_rewind : MethodName := ⟨RX5, "rewind", "(I)I"⟩
abbrev cX5_addConstraint : ByteArray := prog_1_method_35_code
def yX5_addConstraint : MethodName := ⟨RX5, "addConstraint", "(IIII)I"⟩
abbrev cX5_clearConstraints : ByteArray := prog_1_method_36_code
def yX5_clearConstraints : MethodName := ⟨RX5, "clearConstraints", "()I"⟩
abbrev cX5_aborts : ByteArray := prog_1_method_37_code
def yX5_aborts : MethodName := ⟨RX5, "aborts", "(I)I"⟩
abbrev cX5_averageAttempts : ByteArray := prog_1_method_38_code
def yX5_averageAttempts : MethodName := ⟨RX5, "averageAttempts", "()D"⟩
abbrev cX5_abortRate : ByteArray := prog_1_method_39_code
def yX5_abortRate : MethodName := ⟨RX5, "abortRate", "()F"⟩
abbrev cX5_appendCharacter : ByteArray := prog_1_method_40_code
def yX5_appendCharacter : MethodName := ⟨RX5, "appendCharacter", "(I)I"⟩
abbrev cX5_runScript : ByteArray := prog_1_method_41_code
def yX5_runScript : MethodName := ⟨RX5, "runScript", "()I"⟩
abbrev cX5_faultPosition : ByteArray := prog_1_method_42_code
def yX5_faultPosition : MethodName := ⟨RX5, "faultPosition", "()I"⟩
abbrev cX5_isBetween : ByteArray := prog_1_method_43_code
def yX5_isBetween : MethodName := ⟨RX5, "isBetween", "(III)Z"⟩
abbrev cX5_isRange : ByteArray := prog_1_method_44_code
def yX5_isRange : MethodName := ⟨RX5, "isRange", "(II)Z"⟩
abbrev cX5_totalIn : ByteArray := prog_1_method_45_code
def yX5_totalIn : MethodName := ⟨RX5, "totalIn", "([III)I"⟩
abbrev cX5_countIn : ByteArray := prog_1_method_46_code
def yX5_countIn : MethodName := ⟨RX5, "countIn", "([IIII)I"⟩
abbrev cX5_requireKey : ByteArray := prog_1_method_47_code
def yX5_requireKey : MethodName := ⟨RX5, "requireKey", "(I)V"⟩
abbrev cX5_requireCommit : ByteArray := prog_1_method_48_code
def yX5_requireCommit : MethodName := ⟨RX5, "requireCommit", "(II)V"⟩
abbrev cX5_find : ByteArray := prog_1_method_49_code
def yX5_find : MethodName := ⟨RX5, "find", "(I)LOptimisticStore$Transaction;"⟩
abbrev cX5_findActive : ByteArray := prog_1_method_50_code
def yX5_findActive : MethodName := ⟨RX5, "findActive", "(I)LOptimisticStore$Transaction;"⟩
abbrev cX5_countInState : ByteArray := prog_1_method_51_code
def yX5_countInState : MethodName := ⟨RX5, "countInState", "(I)I"⟩
abbrev cX5_canStart : ByteArray := prog_1_method_52_code
def yX5_canStart : MethodName := ⟨RX5, "canStart", "()Z"⟩
abbrev cX5_start : ByteArray := prog_1_method_53_code
def yX5_start : MethodName := ⟨RX5, "start", "(I)LOptimisticStore$Transaction;"⟩
abbrev cX5_operate : ByteArray := prog_1_method_54_code
def yX5_operate : MethodName := ⟨RX5, "operate", "(ILOptimisticStore$Operation;)I"⟩
abbrev cX5_perform : ByteArray := prog_1_method_55_code
def yX5_perform : MethodName := ⟨RX5, "perform", "(LOptimisticStore$Transaction;LOptimisticStore$Operation;)I"⟩
abbrev cX5_viewOf : ByteArray := prog_1_method_56_code
def yX5_viewOf : MethodName := ⟨RX5, "viewOf", "(LOptimisticStore$Transaction;)[I"⟩
abbrev cX5_tryToCommit : ByteArray := prog_1_method_57_code
def yX5_tryToCommit : MethodName := ⟨RX5, "tryToCommit", "(LOptimisticStore$Transaction;)I"⟩
abbrev cX5_isBlocked : ByteArray := prog_1_method_58_code
def yX5_isBlocked : MethodName := ⟨RX5, "isBlocked", "(LOptimisticStore$Transaction;)Z"⟩
abbrev cX5_reasonToAbort : ByteArray := prog_1_method_59_code
def yX5_reasonToAbort : MethodName := ⟨RX5, "reasonToAbort", "(LOptimisticStore$Transaction;)I"⟩
abbrev cX5_losesToRivals : ByteArray := prog_1_method_60_code
def yX5_losesToRivals : MethodName := ⟨RX5, "losesToRivals", "(LOptimisticStore$Transaction;)Z"⟩
abbrev cX5_violatesConstraint : ByteArray := prog_1_method_61_code
def yX5_violatesConstraint : MethodName := ⟨RX5, "violatesConstraint", "([I)Z"⟩
abbrev cX5_isRival : ByteArray := prog_1_method_62_code
def yX5_isRival : MethodName := ⟨RX5, "isRival", "(LOptimisticStore$Transaction;LOptimisticStore$Transaction;)Z"⟩
abbrev cX5_countRivals : ByteArray := prog_1_method_63_code
def yX5_countRivals : MethodName := ⟨RX5, "countRivals", "(LOptimisticStore$Transaction;)I"⟩
abbrev cX5_abortRivals : ByteArray := prog_1_method_64_code
def yX5_abortRivals : MethodName := ⟨RX5, "abortRivals", "(LOptimisticStore$Transaction;)V"⟩
abbrev cX5_endInAbort : ByteArray := prog_1_method_65_code
def yX5_endInAbort : MethodName := ⟨RX5, "endInAbort", "(LOptimisticStore$Transaction;I)V"⟩
abbrev cX5_releaseTicket : ByteArray := prog_1_method_66_code
def yX5_releaseTicket : MethodName := ⟨RX5, "releaseTicket", "(LOptimisticStore$Transaction;)V"⟩
abbrev cX5_performSteps : ByteArray := prog_1_method_67_code
def yX5_performSteps : MethodName := ⟨RX5, "performSteps", "(LOptimisticStore$Transaction;)Z"⟩
abbrev cX5_isAllowed : ByteArray := prog_1_method_68_code
def yX5_isAllowed : MethodName := ⟨RX5, "isAllowed", "(LOptimisticStore$Transaction;LOptimisticStore$Operation;)Z"⟩
def RX6 : String := "OptimisticStoreModel"
def TX6 : u_T := fun k => match k with
  | 0 => ("OptimisticStoreModel", "thrown", "I", false)
  | 1 => ("OptimisticStoreModel", "many", "I", false)
  | 2 => ("OptimisticStoreModel", "states", "[I", true)
  | 3 => ("OptimisticStoreModel", "attempts", "[I", true)
  | 4 => ("OptimisticStoreModel", "reasons", "[I", true)
  | 5 => ("OptimisticStoreModel", "numbers", "[I", true)
  | 6 => ("OptimisticStoreModel", "isRetried", "[Z", true)
  | 7 => ("OptimisticStoreModel", "sizes", "[I", true)
  | 8 => ("OptimisticStoreModel", "operations", "[I", true)
  | 9 => ("OptimisticStoreModel", "records", "[I", true)
  | 10 => ("OptimisticStoreModel", "writes", "[I", true)
  | 11 => ("OptimisticStoreModel", "predicates", "[I", true)
  | 12 => ("OptimisticStoreModel", "predicateSizes", "[I", true)
  | 13 => ("OptimisticStoreModel", "ticket", "I", false)
  | 14 => ("OptimisticStoreModel", "clock", "I", false)
  | 15 => ("OptimisticStoreModel", "values", "[I", true)
  | 16 => ("OptimisticStoreModel", "committers", "[I", true)
  | 17 => ("OptimisticStoreModel", "policy", "I", false)
  | 18 => ("OptimisticStoreModel", "rule", "I", false)
  | 19 => ("OptimisticStoreModel", "patience", "I", false)
  | 20 => ("OptimisticStoreModel", "constraints", "[I", true)
  | 21 => ("OptimisticStoreModel", "constraintMany", "I", false)
  | 22 => ("OptimisticStoreModel", "chain", "[I", true)
  | 23 => ("OptimisticStoreModel", "view", "[I", true)
  | 24 => ("OptimisticStoreModel", "text", "[I", true)
  | 25 => ("OptimisticStoreModel", "typed", "I", false)
  | 26 => ("OptimisticStoreModel", "end", "I", false)
  | 27 => ("OptimisticStoreModel", "at", "I", false)
  | 28 => ("OptimisticStoreModel", "fault", "I", false)
  | 29 => ("OptimisticStoreModel", "steps", "[I", true)
  | _ => ("OptimisticStoreModel", "stepMany", "I", false)
def tyX6 : Nat → FieldType := fun k => match k with
  | 0 => .int
  | 1 => .int
  | 2 => .array .int
  | 3 => .array .int
  | 4 => .array .int
  | 5 => .array .int
  | 6 => .array .boolean
  | 7 => .array .int
  | 8 => .array .int
  | 9 => .array .int
  | 10 => .array .int
  | 11 => .array .int
  | 12 => .array .int
  | 13 => .int
  | 14 => .int
  | 15 => .array .int
  | 16 => .array .int
  | 17 => .int
  | 18 => .int
  | 19 => .int
  | 20 => .array .int
  | 21 => .int
  | 22 => .array .int
  | 23 => .array .int
  | 24 => .array .int
  | 25 => .int
  | 26 => .int
  | 27 => .int
  | 28 => .int
  | 29 => .array .int
  | _ => .int
abbrev wsX60 : List Cond := u_ws RX6 TX6 31
theorem nmX6 : ∀ a, a < 31 → ∀ b, b < 31 → a ≠ b → (TX6 a).2.1 ≠ (TX6 b).2.1 := by decide +kernel
theorem tyX6_ok : ∀ k, k < 31 → parseFieldDescriptor (TX6 k).2.2.1 = some (tyX6 k) := by decide +kernel
abbrev cX6_isIn : ByteArray := prog_8_method_1_code
def yX6_isIn : MethodName := ⟨RX6, "isIn", "(III)Z"⟩
abbrev cX6_thrown : ByteArray := prog_8_method_2_code
def yX6_thrown : MethodName := ⟨RX6, "thrown", "()I"⟩
abbrev cX6_fail : ByteArray := prog_8_method_3_code
def yX6_fail : MethodName := ⟨RX6, "fail", "(I)I"⟩
abbrev cX6_init : ByteArray := prog_8_method_4_code
def yX6_init : MethodName := ⟨RX6, "<init>", "()V"⟩
abbrev cX6_stored : ByteArray := prog_8_method_5_code
def yX6_stored : MethodName := ⟨RX6, "stored", "(II)I"⟩
abbrev cX6_isTransaction : ByteArray := prog_8_method_6_code
def yX6_isTransaction : MethodName := ⟨RX6, "isTransaction", "(I)Z"⟩
abbrev cX6_isKey : ByteArray := prog_8_method_7_code
def yX6_isKey : MethodName := ⟨RX6, "isKey", "(I)Z"⟩
abbrev cX6_isRange : ByteArray := prog_8_method_8_code
def yX6_isRange : MethodName := ⟨RX6, "isRange", "(II)Z"⟩
abbrev cX6_activeNow : ByteArray := prog_8_method_9_code
def yX6_activeNow : MethodName := ⟨RX6, "activeNow", "()I"⟩
abbrev cX6_configure : ByteArray := prog_8_method_10_code
def yX6_configure : MethodName := ⟨RX6, "configure", "(III)V"⟩
abbrev cX6_hasRoom : ByteArray := prog_8_method_11_code
def yX6_hasRoom : MethodName := ⟨RX6, "hasRoom", "()Z"⟩
abbrev cX6_beginWith : ByteArray := prog_8_method_12_code
def yX6_beginWith : MethodName := ⟨RX6, "beginWith", "(I)I"⟩
abbrev cX6_begin : ByteArray := prog_8_method_13_code
def yX6_begin : MethodName := ⟨RX6, "begin", "()I"⟩
abbrev cX6_retry : ByteArray := prog_8_method_14_code
def yX6_retry : MethodName := ⟨RX6, "retry", "(I)I"⟩
abbrev cX6_viewed : ByteArray := prog_8_method_15_code
def yX6_viewed : MethodName := ⟨RX6, "viewed", "(II)I"⟩
abbrev cX6_recordKey : ByteArray := prog_8_method_16_code
def yX6_recordKey : MethodName := ⟨RX6, "recordKey", "(II)V"⟩
abbrev cX6_recordRange : ByteArray := prog_8_method_17_code
def yX6_recordRange : MethodName := ⟨RX6, "recordRange", "(IIII)V"⟩
abbrev cX6_list : ByteArray := prog_8_method_18_code
def yX6_list : MethodName := ⟨RX6, "list", "(IIIIII)V"⟩
abbrev cX6_problem : ByteArray := prog_8_method_19_code
def yX6_problem : MethodName := ⟨RX6, "problem", "(IZ)I"⟩
abbrev cX6_read : ByteArray := prog_8_method_20_code
def yX6_read : MethodName := ⟨RX6, "read", "(II)I"⟩
abbrev cX6_counted : ByteArray := prog_8_method_21_code
def yX6_counted : MethodName := ⟨RX6, "counted", "(IIII)I"⟩
abbrev cX6_scan : ByteArray := prog_8_method_22_code
def yX6_scan : MethodName := ⟨RX6, "scan", "(IIII)I"⟩
abbrev cX6_summed : ByteArray := prog_8_method_23_code
def yX6_summed : MethodName := ⟨RX6, "summed", "(III)I"⟩
abbrev cX6_sum : ByteArray := prog_8_method_24_code
def yX6_sum : MethodName := ⟨RX6, "sum", "(III)I"⟩
abbrev cX6_write : ByteArray := prog_8_method_25_code
def yX6_write : MethodName := ⟨RX6, "write", "(III)V"⟩
abbrev cX6_remove : ByteArray := prog_8_method_26_code
def yX6_remove : MethodName := ⟨RX6, "remove", "(II)V"⟩
abbrev cX6_addedTo : ByteArray := prog_8_method_27_code
def yX6_addedTo : MethodName := ⟨RX6, "addedTo", "(II)I"⟩
abbrev cX6_add : ByteArray := prog_8_method_28_code
def yX6_add : MethodName := ⟨RX6, "add", "(III)I"⟩
abbrev cX6_touches : ByteArray := prog_8_method_29_code
def yX6_touches : MethodName := ⟨RX6, "touches", "(IIII)Z"⟩
abbrev cX6_touchesAny : ByteArray := prog_8_method_30_code
def yX6_touchesAny : MethodName := ⟨RX6, "touchesAny", "(IIIII)Z"⟩
abbrev cX6_conflicts : ByteArray := prog_8_method_31_code
def yX6_conflicts : MethodName := ⟨RX6, "conflicts", "(II)Z"⟩
abbrev cX6_isRival : ByteArray := prog_8_method_32_code
def yX6_isRival : MethodName := ⟨RX6, "isRival", "(II)Z"⟩
abbrev cX6_countRivals : ByteArray := prog_8_method_33_code
def yX6_countRivals : MethodName := ⟨RX6, "countRivals", "(I)I"⟩
abbrev cX6_hasWritten : ByteArray := prog_8_method_34_code
def yX6_hasWritten : MethodName := ⟨RX6, "hasWritten", "(II)Z"⟩
abbrev cX6_staleness : ByteArray := prog_8_method_35_code
def yX6_staleness : MethodName := ⟨RX6, "staleness", "(I)I"⟩
abbrev cX6_activeProblem : ByteArray := prog_8_method_36_code
def yX6_activeProblem : MethodName := ⟨RX6, "activeProblem", "(I)I"⟩
abbrev cX6_isStale : ByteArray := prog_8_method_37_code
def yX6_isStale : MethodName := ⟨RX6, "isStale", "(I)Z"⟩
abbrev cX6_rivals : ByteArray := prog_8_method_38_code
def yX6_rivals : MethodName := ⟨RX6, "rivals", "(I)I"⟩
abbrev cX6_endWith : ByteArray := prog_8_method_39_code
def yX6_endWith : MethodName := ⟨RX6, "endWith", "(II)V"⟩
abbrev cX6_loses : ByteArray := prog_8_method_40_code
def yX6_loses : MethodName := ⟨RX6, "loses", "(I)Z"⟩
abbrev cX6_isViolated : ByteArray := prog_8_method_41_code
def yX6_isViolated : MethodName := ⟨RX6, "isViolated", "(II)Z"⟩
abbrev cX6_violates : ByteArray := prog_8_method_42_code
def yX6_violates : MethodName := ⟨RX6, "violates", "(I)Z"⟩
abbrev cX6_doCommit : ByteArray := prog_8_method_43_code
def yX6_doCommit : MethodName := ⟨RX6, "doCommit", "(I)I"⟩
abbrev cX6_commit : ByteArray := prog_8_method_44_code
def yX6_commit : MethodName := ⟨RX6, "commit", "(I)I"⟩
abbrev cX6_abort : ByteArray := prog_8_method_45_code
def yX6_abort : MethodName := ⟨RX6, "abort", "(I)V"⟩
abbrev cX6_clock : ByteArray := prog_8_method_46_code
def yX6_clock : MethodName := ⟨RX6, "clock", "()I"⟩
abbrev cX6_transactionCount : ByteArray := prog_8_method_47_code
def yX6_transactionCount : MethodName := ⟨RX6, "transactionCount", "()I"⟩
abbrev cX6_activeCount : ByteArray := prog_8_method_48_code
def yX6_activeCount : MethodName := ⟨RX6, "activeCount", "()I"⟩
abbrev cX6_ticketHolder : ByteArray := prog_8_method_49_code
def yX6_ticketHolder : MethodName := ⟨RX6, "ticketHolder", "()I"⟩
abbrev cX6_state : ByteArray := prog_8_method_50_code
def yX6_state : MethodName := ⟨RX6, "state", "(I)I"⟩
abbrev cX6_attempt : ByteArray := prog_8_method_51_code
def yX6_attempt : MethodName := ⟨RX6, "attempt", "(I)I"⟩
abbrev cX6_reason : ByteArray := prog_8_method_52_code
def yX6_reason : MethodName := ⟨RX6, "reason", "(I)I"⟩
abbrev cX6_commitOf : ByteArray := prog_8_method_53_code
def yX6_commitOf : MethodName := ⟨RX6, "commitOf", "(I)I"⟩
abbrev cX6_operationCount : ByteArray := prog_8_method_54_code
def yX6_operationCount : MethodName := ⟨RX6, "operationCount", "(I)I"⟩
abbrev cX6_recordedKeys : ByteArray := prog_8_method_55_code
def yX6_recordedKeys : MethodName := ⟨RX6, "recordedKeys", "(I)I"⟩
abbrev cX6_predicateCount : ByteArray := prog_8_method_56_code
def yX6_predicateCount : MethodName := ⟨RX6, "predicateCount", "(I)I"⟩
abbrev cX6_writtenKeys : ByteArray := prog_8_method_57_code
def yX6_writtenKeys : MethodName := ⟨RX6, "writtenKeys", "(I)I"⟩
abbrev cX6_value : ByteArray := prog_8_method_58_code
def yX6_value : MethodName := ⟨RX6, "value", "(I)I"⟩
abbrev cX6_valueAt : ByteArray := prog_8_method_59_code
def yX6_valueAt : MethodName := ⟨RX6, "valueAt", "(II)I"⟩
abbrev cX6_lastWriter : ByteArray := prog_8_method_60_code
def yX6_lastWriter : MethodName := ⟨RX6, "lastWriter", "(II)I"⟩
abbrev cX6_writerOf : ByteArray := prog_8_method_61_code
def yX6_writerOf : MethodName := ⟨RX6, "writerOf", "(I)I"⟩
abbrev cX6_isCommit : ByteArray := prog_8_method_62_code
def yX6_isCommit : MethodName := ⟨RX6, "isCommit", "(I)Z"⟩
abbrev cX6_transactionOf : ByteArray := prog_8_method_63_code
def yX6_transactionOf : MethodName := ⟨RX6, "transactionOf", "(I)I"⟩
abbrev cX6_dependencyOf : ByteArray := prog_8_method_64_code
def yX6_dependencyOf : MethodName := ⟨RX6, "dependencyOf", "(II)I"⟩
abbrev cX6_dependency : ByteArray := prog_8_method_65_code
def yX6_dependency : MethodName := ⟨RX6, "dependency", "(II)I"⟩
abbrev cX6_longestChain : ByteArray := prog_8_method_66_code
def yX6_longestChain : MethodName := ⟨RX6, "longestChain", "()I"⟩
abbrev cX6_again : ByteArray := prog_8_method_67_code
def yX6_again : MethodName := ⟨RX6, "again", "(I)I"⟩
abbrev cX6_hasFault : ByteArray := prog_8_method_68_code
def yX6_hasFault : MethodName := ⟨RX6, "hasFault", "(I)Z"⟩
abbrev cX6_serialFaults : ByteArray := prog_8_method_69_code
def yX6_serialFaults : MethodName := ⟨RX6, "serialFaults", "()I"⟩
abbrev cX6_rewind : ByteArray := prog_8_method_70_code
def yX6_rewind : MethodName := ⟨RX6, "rewind", "(I)I"⟩
abbrev cX6_addConstraint : ByteArray := prog_8_method_71_code
def yX6_addConstraint : MethodName := ⟨RX6, "addConstraint", "(IIII)I"⟩
abbrev cX6_clearConstraints : ByteArray := prog_8_method_72_code
def yX6_clearConstraints : MethodName := ⟨RX6, "clearConstraints", "()I"⟩
abbrev cX6_countOf : ByteArray := prog_8_method_73_code
def yX6_countOf : MethodName := ⟨RX6, "countOf", "(II)I"⟩
abbrev cX6_aborts : ByteArray := prog_8_method_74_code
def yX6_aborts : MethodName := ⟨RX6, "aborts", "(I)I"⟩
abbrev cX6_averageAttempts : ByteArray := prog_8_method_75_code
def yX6_averageAttempts : MethodName := ⟨RX6, "averageAttempts", "()D"⟩
abbrev cX6_abortRate : ByteArray := prog_8_method_76_code
def yX6_abortRate : MethodName := ⟨RX6, "abortRate", "()F"⟩
abbrev cX6_appendCharacter : ByteArray := prog_8_method_77_code
def yX6_appendCharacter : MethodName := ⟨RX6, "appendCharacter", "(I)I"⟩
abbrev cX6_sign : ByteArray := prog_8_method_78_code
def yX6_sign : MethodName := ⟨RX6, "sign", "()I"⟩
abbrev cX6_goes : ByteArray := prog_8_method_79_code
def yX6_goes : MethodName := ⟨RX6, "goes", "(C)Z"⟩
abbrev cX6_fault : ByteArray := prog_8_method_80_code
def yX6_fault : MethodName := ⟨RX6, "fault", "()V"⟩
abbrev cX6_expect : ByteArray := prog_8_method_81_code
def yX6_expect : MethodName := ⟨RX6, "expect", "(C)V"⟩
abbrev cX6_isDigit : ByteArray := prog_8_method_82_code
def yX6_isDigit : MethodName := ⟨RX6, "isDigit", "()Z"⟩
abbrev cX6_digits : ByteArray := prog_8_method_83_code
def yX6_digits : MethodName := ⟨RX6, "digits", "(II)I"⟩
abbrev cX6_readKey : ByteArray := prog_8_method_84_code
def yX6_readKey : MethodName := ⟨RX6, "readKey", "()I"⟩
abbrev cX6_readStep : ByteArray := prog_8_method_85_code
def yX6_readStep : MethodName := ⟨RX6, "readStep", "()V"⟩
abbrev cX6_readScript : ByteArray := prog_8_method_86_code
def yX6_readScript : MethodName := ⟨RX6, "readScript", "()V"⟩
abbrev cX6_doStep : ByteArray := prog_8_method_87_code
def yX6_doStep : MethodName := ⟨RX6, "doStep", "(II)V"⟩
abbrev cX6_runScript : ByteArray := prog_8_method_88_code
def yX6_runScript : MethodName := ⟨RX6, "runScript", "()I"⟩
abbrev cX6_faultPosition : ByteArray := prog_8_method_89_code
def yX6_faultPosition : MethodName := ⟨RX6, "faultPosition", "()I"⟩
def RJx145de : String := "java/io/Serializable"
def TJx145de : u_T := fun k => match k with
  | _ => ("", "", "", false)
def tyJx145de : Nat → FieldType := fun k => match k with
  | _ => .int
abbrev wsJx145de0 : List Cond := u_ws RJx145de TJx145de 0
theorem nmJx145de : ∀ a, a < 0 → ∀ b, b < 0 → a ≠ b → (TJx145de a).2.1 ≠ (TJx145de b).2.1 := by decide +kernel
theorem tyJx145de_ok : ∀ k, k < 0 → parseFieldDescriptor (TJx145de k).2.2.1 = some (tyJx145de k) := by decide +kernel
def RJx00060 : String := "java/lang/ArrayIndexOutOfBoundsException"
def TJx00060 : u_T := fun k => match k with
  | 0 => ("java/lang/Throwable", "backtrace", "Ljava/lang/Object;", false)
  | 1 => ("java/lang/Throwable", "detailMessage", "Ljava/lang/String;", false)
  | 2 => ("java/lang/Throwable", "cause", "Ljava/lang/Throwable;", false)
  | 3 => ("java/lang/Throwable", "stackTrace", "[Ljava/lang/StackTraceElement;", false)
  | 4 => ("java/lang/Throwable", "depth", "I", false)
  | _ => ("java/lang/Throwable", "suppressedExceptions", "Ljava/util/List;", false)
def tyJx00060 : Nat → FieldType := fun k => match k with
  | 0 => .object "java/lang/Object"
  | 1 => .object "java/lang/String"
  | 2 => .object "java/lang/Throwable"
  | 3 => .array (.object "java/lang/StackTraceElement")
  | 4 => .int
  | _ => .object "java/util/List"
abbrev wsJx000600 : List Cond := u_ws RJx00060 TJx00060 6
theorem nmJx00060 : ∀ a, a < 6 → ∀ b, b < 6 → a ≠ b → (TJx00060 a).2.1 ≠ (TJx00060 b).2.1 := by decide +kernel
theorem tyJx00060_ok : ∀ k, k < 6 → parseFieldDescriptor (TJx00060 k).2.2.1 = some (tyJx00060 k) := by decide +kernel
abbrev cJx00060_init_a7421 : ByteArray := prog_11_method_2_code
def yJx00060_init_a7421 : MethodName := ⟨RJx00060, "<init>", "(Ljava/lang/String;)V"⟩
def RJ9 : String := "java/lang/Math"
def TJ9 : u_T := fun k => match k with
  | _ => ("", "", "", false)
def tyJ9 : Nat → FieldType := fun k => match k with
  | _ => .int
abbrev wsJ90 : List Cond := u_ws RJ9 TJ9 0
theorem nmJ9 : ∀ a, a < 0 → ∀ b, b < 0 → a ≠ b → (TJ9 a).2.1 ≠ (TJ9 b).2.1 := by decide +kernel
theorem tyJ9_ok : ∀ k, k < 0 → parseFieldDescriptor (TJ9 k).2.2.1 = some (tyJ9 k) := by decide +kernel
abbrev cJ9_max_7cf53 : ByteArray := prog_16_method_65_code
def yJ9_max_7cf53 : MethodName := ⟨RJ9, "max", "(II)I"⟩
def RJ0 : String := "java/lang/String"
def TJ0 : u_T := fun k => match k with
  | 0 => ("java/lang/String", "value", "[B", true)
  | _ => ("java/lang/String", "coder", "B", true)
def tyJ0 : Nat → FieldType := fun k => match k with
  | 0 => .array .byte
  | _ => .byte
abbrev wsJ00 : List Cond := u_ws RJ0 TJ0 2
theorem nmJ0 : ∀ a, a < 2 → ∀ b, b < 2 → a ≠ b → (TJ0 a).2.1 ≠ (TJ0 b).2.1 := by decide +kernel
theorem tyJ0_ok : ∀ k, k < 2 → parseFieldDescriptor (TJ0 k).2.2.1 = some (tyJ0 k) := by decide +kernel
def RJ10 : String := "java/lang/System"
def TJ10 : u_T := fun k => match k with
  | _ => ("", "", "", false)
def tyJ10 : Nat → FieldType := fun k => match k with
  | _ => .int
abbrev wsJ100 : List Cond := u_ws RJ10 TJ10 0
theorem nmJ10 : ∀ a, a < 0 → ∀ b, b < 0 → a ≠ b → (TJ10 a).2.1 ≠ (TJ10 b).2.1 := by decide +kernel
theorem tyJ10_ok : ∀ k, k < 0 → parseFieldDescriptor (TJ10 k).2.2.1 = some (tyJ10 k) := by decide +kernel
def RJ7 : String := "java/util/Arrays"
def TJ7 : u_T := fun k => match k with
  | _ => ("", "", "", false)
def tyJ7 : Nat → FieldType := fun k => match k with
  | _ => .int
abbrev wsJ70 : List Cond := u_ws RJ7 TJ7 0
theorem nmJ7 : ∀ a, a < 0 → ∀ b, b < 0 → a ≠ b → (TJ7 a).2.1 ≠ (TJ7 b).2.1 := by decide +kernel
theorem tyJ7_ok : ∀ k, k < 0 → parseFieldDescriptor (TJ7 k).2.2.1 = some (tyJ7 k) := by decide +kernel
abbrev cJ7_fill_53178 : ByteArray := prog_21_method_103_code
def yJ7_fill_53178 : MethodName := ⟨RJ7, "fill", "([II)V"⟩
def RL : String := "OptimisticStoreLaw"
abbrev cL_configure : ByteArray := method_3_code
def yL_configure : MethodName := ⟨RL, "configure", "(LOptimisticStore;III)I"⟩
abbrev cL_begin : ByteArray := method_4_code
def yL_begin : MethodName := ⟨RL, "begin", "(LOptimisticStore;[J)I"⟩
abbrev cL_retry : ByteArray := method_5_code
def yL_retry : MethodName := ⟨RL, "retry", "(LOptimisticStore;I[J)I"⟩
abbrev cL_read : ByteArray := method_6_code
def yL_read : MethodName := ⟨RL, "read", "(LOptimisticStore;II[J)I"⟩
abbrev cL_scan : ByteArray := method_7_code
def yL_scan : MethodName := ⟨RL, "scan", "(LOptimisticStore;IIII[J)I"⟩
abbrev cL_sum : ByteArray := method_8_code
def yL_sum : MethodName := ⟨RL, "sum", "(LOptimisticStore;III[J)I"⟩
abbrev cL_write : ByteArray := method_9_code
def yL_write : MethodName := ⟨RL, "write", "(LOptimisticStore;III)I"⟩
abbrev cL_remove : ByteArray := method_10_code
def yL_remove : MethodName := ⟨RL, "remove", "(LOptimisticStore;II)I"⟩
abbrev cL_add : ByteArray := method_11_code
def yL_add : MethodName := ⟨RL, "add", "(LOptimisticStore;III[J)I"⟩
abbrev cL_commit : ByteArray := method_12_code
def yL_commit : MethodName := ⟨RL, "commit", "(LOptimisticStore;I[J)I"⟩
abbrev cL_abort : ByteArray := method_13_code
def yL_abort : MethodName := ⟨RL, "abort", "(LOptimisticStore;I)I"⟩
abbrev cL_ticketHolder : ByteArray := method_14_code
def yL_ticketHolder : MethodName := ⟨RL, "ticketHolder", "(LOptimisticStore;[J)I"⟩
abbrev cL_state : ByteArray := method_15_code
def yL_state : MethodName := ⟨RL, "state", "(LOptimisticStore;I[J)I"⟩
abbrev cL_attempt : ByteArray := method_16_code
def yL_attempt : MethodName := ⟨RL, "attempt", "(LOptimisticStore;I[J)I"⟩
abbrev cL_reason : ByteArray := method_17_code
def yL_reason : MethodName := ⟨RL, "reason", "(LOptimisticStore;I[J)I"⟩
abbrev cL_commitOf : ByteArray := method_18_code
def yL_commitOf : MethodName := ⟨RL, "commitOf", "(LOptimisticStore;I[J)I"⟩
abbrev cL_operationCount : ByteArray := method_19_code
def yL_operationCount : MethodName := ⟨RL, "operationCount", "(LOptimisticStore;I[J)I"⟩
abbrev cL_recordedKeys : ByteArray := method_20_code
def yL_recordedKeys : MethodName := ⟨RL, "recordedKeys", "(LOptimisticStore;I[J)I"⟩
abbrev cL_predicateCount : ByteArray := method_21_code
def yL_predicateCount : MethodName := ⟨RL, "predicateCount", "(LOptimisticStore;I[J)I"⟩
abbrev cL_writtenKeys : ByteArray := method_22_code
def yL_writtenKeys : MethodName := ⟨RL, "writtenKeys", "(LOptimisticStore;I[J)I"⟩
abbrev cL_isStale : ByteArray := method_23_code
def yL_isStale : MethodName := ⟨RL, "isStale", "(LOptimisticStore;I[J)I"⟩
abbrev cL_rivals : ByteArray := method_24_code
def yL_rivals : MethodName := ⟨RL, "rivals", "(LOptimisticStore;I[J)I"⟩
abbrev cL_value : ByteArray := method_25_code
def yL_value : MethodName := ⟨RL, "value", "(LOptimisticStore;I[J)I"⟩
abbrev cL_valueAt : ByteArray := method_26_code
def yL_valueAt : MethodName := ⟨RL, "valueAt", "(LOptimisticStore;II[J)I"⟩
abbrev cL_writerOf : ByteArray := method_27_code
def yL_writerOf : MethodName := ⟨RL, "writerOf", "(LOptimisticStore;I[J)I"⟩
abbrev cL_transactionOf : ByteArray := method_28_code
def yL_transactionOf : MethodName := ⟨RL, "transactionOf", "(LOptimisticStore;I[J)I"⟩
abbrev cL_dependency : ByteArray := method_29_code
def yL_dependency : MethodName := ⟨RL, "dependency", "(LOptimisticStore;II[J)I"⟩
abbrev cL_rewind : ByteArray := method_30_code
def yL_rewind : MethodName := ⟨RL, "rewind", "(LOptimisticStore;I[J)I"⟩
abbrev cL_addConstraint : ByteArray := method_31_code
def yL_addConstraint : MethodName := ⟨RL, "addConstraint", "(LOptimisticStore;IIII[J)I"⟩
abbrev cL_aborts : ByteArray := method_32_code
def yL_aborts : MethodName := ⟨RL, "aborts", "(LOptimisticStore;I[J)I"⟩
abbrev cL_averageAttempts : ByteArray := method_33_code
def yL_averageAttempts : MethodName := ⟨RL, "averageAttempts", "(LOptimisticStore;[D)I"⟩
abbrev cL_abortRate : ByteArray := method_34_code
def yL_abortRate : MethodName := ⟨RL, "abortRate", "(LOptimisticStore;[D)I"⟩
abbrev cL_appendCharacter : ByteArray := method_35_code
def yL_appendCharacter : MethodName := ⟨RL, "appendCharacter", "(LOptimisticStore;I[J)I"⟩
abbrev cL_runScript : ByteArray := method_36_code
def yL_runScript : MethodName := ⟨RL, "runScript", "(LOptimisticStore;[J)I"⟩
abbrev cL_law : ByteArray := code
def yL_law : MethodName := ⟨RL, "law", "([I)Z"⟩
end
section
/-! THE MODEL STATE: kinds, ints, references, longs, doubles, by address and place -/
abbrev MS : Type := (Nat → Nat × Nat) × (Nat → Nat → Int32) × (Nat → Nat → Nat) × (Nat → Nat → Int64) × (Nat → Nat → UInt64)
def kT (S : MS) (a : Nat) : Nat := (S.1 a).1
def kL (S : MS) (a : Nat) : Nat := (S.1 a).2
def sI (S : MS) : Nat → Nat → Int32 := S.2.1
def sR (S : MS) : Nat → Nat → Nat := S.2.2.1
def sL (S : MS) : Nat → Nat → Int64 := S.2.2.2.1
def sD (S : MS) : Nat → Nat → UInt64 := S.2.2.2.2
def u2 {α : Type} (f : Nat → Nat → α) (a k : Nat) (v : α) : Nat → Nat → α := fun b j => if b = a then (if j = k then v else f b j) else f b j
def pI (S : MS) (a k : Nat) (v : Int32) : MS := (S.1, u2 S.2.1 a k v, S.2.2)
def pR (S : MS) (a k v : Nat) : MS := (S.1, S.2.1, u2 S.2.2.1 a k v, S.2.2.2)
def pL (S : MS) (a k : Nat) (v : Int64) : MS := (S.1, S.2.1, S.2.2.1, u2 S.2.2.2.1 a k v, S.2.2.2.2)
def pD (S : MS) (a k : Nat) (v : UInt64) : MS := (S.1, S.2.1, S.2.2.1, S.2.2.2.1, u2 S.2.2.2.2 a k v)
def nw (S : MS) (q tag len : Nat) : MS := (fun a => if a = q then (tag, len) else S.1 a, fun a k => if a = q then 0 else S.2.1 a k, fun a k => if a = q then 0 else S.2.2.1 a k, fun a k => if a = q then 0 else S.2.2.2.1 a k, fun a k => if a = q then 0 else S.2.2.2.2 a k)
def op (x : Nat) : Option Nat := if x = 0 then none else some x
def rf (x : Nat) : Value := va_rf (op x)
def ix (i : Int32) : Nat := i.toNatClampNeg
def fl (tag : Nat) : List Bool := match tag with
  | 1 => [false, false, false, false]
  | 2 => [true, true, false]
  | 3 => [false, false, false, false, false, false]
  | 4 => [true, true, false, false, false, false]
  | 5 => [false, false, true, true, true, false, false, false, false, false, false, false]
  | 6 => [true, true, true, true, true, true, false, false, false, false, false, false]
  | _ => [false, false, true, true, true, true, true, true, true, true, true, true, true, false, false, true, true, false, false, false, true, false, true, true, true, false, false, false, false, true, false]
def fv (S : MS) (a : Nat) : Nat → List Bool → List Value
  | _, [] => []
  | k, b :: bs => (if b then rf (sR S a k) else .int (sI S a k)) :: fv S a (k + 1) bs
def cellOf (cy : Nat → ClassId) (S : MS) (a : Nat) : va_E :=
  if kT S a ≤ 7 then .inr (kT S a - 1, fv S a 0 (fl (kT S a)))
  else if kT S a ≤ 10 then .inl (cy (kT S a), kL S a, .inl (sI S a))
  else if kT S a ≤ 14 then .inl (cy (kT S a), kL S a, .inr (.inr (.inr (.inr (fun i => op (sR S a i))))))
  else if kT S a = 15 then .inl (cy (kT S a), kL S a, .inr (.inl (sL S a)))
  else .inl (cy (kT S a), kL S a, .inr (.inr (.inr (.inl (sD S a)))))
abbrev GP : Type := va_G × (Nat → ClassId) × Nat
abbrev cls : List vw_C := [(RX0, TX0, 4), (RX1, TX1, 3), (RX2, TX2, 6), (RX3, TX3, 6), (RX4, TX4, 12), (RX5, TX5, 12), (RX6, TX6, 31)]
abbrev tysOf (G : GP) : List (ClassId × FieldType) := [(G.2.1 8, .char), (G.2.1 9, .int), (G.2.1 10, .boolean), (G.2.1 11, .object RX0), (G.2.1 12, .object RX2), (G.2.1 13, .object RX4), (G.2.1 14, .array .int), (G.2.1 15, .long), (G.2.1 16, .double)]
abbrev Ab (G : GP) : Nat → Prop := fun q => G.2.2 ≤ q
def HR (G : GP) (S : MS) (H : Heap) : Prop := ∃ L : List Nat, (∀ a, a ∈ L ↔ kT S a ≠ 0) ∧ va_P G.1 cls (va_pl L (cellOf G.2.1 S)) H ∧ va_D (Ab G) (va_pl L (cellOf G.2.1 S))
def lw_all : List Cond := lw_tbl.filter goodWord
theorem lw_all_good {w : Cond} (h : w ∈ lw_all) : goodWord w = true := (List.mem_filter.mp h).2
theorem lw_mem {w : Cond} (h : w ∈ lw_tbl) (hg : goodWord w = true) : w ∈ lw_all := List.mem_filter.mpr ⟨h, hg⟩
theorem tb_mem {w : Cond} (i : Nat) (h : tables_1[i]? = some w) (hg : goodWord w = true) : w ∈ lw_all := lw_mem (List.mem_append_right _ (List.mem_of_getElem? h)) hg
theorem rf_ne {a : Nat} (h : a ≠ 0) : rf a = .ref a := by simp [rf, op, h, va_rf]
theorem rf_0 : rf 0 = .null := by simp [rf, op, va_rf]
theorem rf_cat (a : Nat) : (rf a).category = 1 := by
  by_cases h : a = 0
  · subst h; rw [rf_0]; rfl
  · rw [rf_ne h]; rfl
theorem tst1 : Cond.fieldLink RX1 11 "OptimisticStore$History" "stores" "[[I" ∈ lw_all := by decide +kernel
end
section
/-! what the model's updates do to the cells -/
theorem op_ne {a : Nat} (h : a ≠ 0) : op a = some a := by simp [op, h]
theorem fv_congr {S S' : MS} {b : Nat} (hI : ∀ k, sI S' b k = sI S b k) (hR : ∀ k, sR S' b k = sR S b k) : ∀ (bs : List Bool) (k0 : Nat), fv S' b k0 bs = fv S b k0 bs
  | [], _ => rfl
  | x :: bs, k0 => by rw [fv, fv, fv_congr hI hR bs (k0 + 1), hI, hR]
theorem fv_len (S : MS) (a : Nat) : ∀ (bs : List Bool) (k0 : Nat), (fv S a k0 bs).length = bs.length
  | [], _ => rfl
  | x :: bs, k0 => by rw [fv, List.length_cons, fv_len S a bs (k0 + 1), List.length_cons]
theorem fv_getI {S : MS} {a : Nat} : ∀ {bs : List Bool} {k0 i : Nat}, bs[i]? = some false → (fv S a k0 bs)[i]? = some (.int (sI S a (k0 + i)))
  | [], _, i, h => by simp at h
  | x :: bs, k0, 0, h => by
    simp only [List.getElem?_cons_zero, Option.some.injEq] at h
    subst h
    simp [fv]
  | x :: bs, k0, i + 1, h => by
    simp only [List.getElem?_cons_succ] at h
    rw [fv, List.getElem?_cons_succ, fv_getI h, Nat.add_right_comm, Nat.add_assoc]
theorem fv_getR {S : MS} {a : Nat} : ∀ {bs : List Bool} {k0 i : Nat}, bs[i]? = some true → (fv S a k0 bs)[i]? = some (rf (sR S a (k0 + i)))
  | [], _, i, h => by simp at h
  | x :: bs, k0, 0, h => by
    simp only [List.getElem?_cons_zero, Option.some.injEq] at h
    subst h
    simp [fv]
  | x :: bs, k0, i + 1, h => by
    simp only [List.getElem?_cons_succ] at h
    rw [fv, List.getElem?_cons_succ, fv_getR h, Nat.add_right_comm, Nat.add_assoc]
theorem sI_pI (S : MS) (a k : Nat) (v : Int32) (b j : Nat) : sI (pI S a k v) b j = if b = a then (if j = k then v else sI S b j) else sI S b j := rfl
theorem sR_pR (S : MS) (a k v b j : Nat) : sR (pR S a k v) b j = if b = a then (if j = k then v else sR S b j) else sR S b j := rfl
theorem sL_pL (S : MS) (a k : Nat) (v : Int64) (b j : Nat) : sL (pL S a k v) b j = if b = a then (if j = k then v else sL S b j) else sL S b j := rfl
theorem sD_pD (S : MS) (a k : Nat) (v : UInt64) (b j : Nat) : sD (pD S a k v) b j = if b = a then (if j = k then v else sD S b j) else sD S b j := rfl
theorem fv_lo {S : MS} {a : Nat} {v : Int32} : ∀ (bs : List Bool) (k0 k : Nat), k < k0 → fv (pI S a k v) a k0 bs = fv S a k0 bs
  | [], _, _, _ => rfl
  | x :: bs, k0, k, h => by
    rw [fv, fv, fv_lo bs (k0 + 1) k (by omega)]
    have e : sI (pI S a k v) a k0 = sI S a k0 := by rw [sI_pI, if_pos rfl, if_neg (by omega)]
    rw [e]; rfl
theorem fv_setI {S : MS} {a : Nat} {v : Int32} : ∀ {bs : List Bool} {k0 i : Nat}, bs[i]? = some false → (fv S a k0 bs).set i (.int v) = fv (pI S a (k0 + i) v) a k0 bs
  | [], _, i, h => by simp at h
  | x :: bs, k0, 0, h => by
    simp only [List.getElem?_cons_zero, Option.some.injEq] at h
    subst h
    rw [fv, fv, List.set_cons_zero, fv_lo bs (k0 + 1) (k0 + 0) (by omega)]
    simp [sI_pI]
  | x :: bs, k0, i + 1, h => by
    simp only [List.getElem?_cons_succ] at h
    rw [fv, fv, List.set_cons_succ, fv_setI h]
    have e : sI (pI S a (k0 + (i + 1)) v) a k0 = sI S a k0 := by rw [sI_pI, if_pos rfl, if_neg (by omega)]
    rw [e, show k0 + 1 + i = k0 + (i + 1) by omega]; rfl
theorem fv_loR {S : MS} {a v : Nat} : ∀ (bs : List Bool) (k0 k : Nat), k < k0 → fv (pR S a k v) a k0 bs = fv S a k0 bs
  | [], _, _, _ => rfl
  | x :: bs, k0, k, h => by
    rw [fv, fv, fv_loR bs (k0 + 1) k (by omega)]
    have e : sR (pR S a k v) a k0 = sR S a k0 := by rw [sR_pR, if_pos rfl, if_neg (by omega)]
    rw [e]; rfl
theorem fv_setR {S : MS} {a v : Nat} : ∀ {bs : List Bool} {k0 i : Nat}, bs[i]? = some true → (fv S a k0 bs).set i (rf v) = fv (pR S a (k0 + i) v) a k0 bs
  | [], _, i, h => by simp at h
  | x :: bs, k0, 0, h => by
    simp only [List.getElem?_cons_zero, Option.some.injEq] at h
    subst h
    rw [fv, fv, List.set_cons_zero, fv_loR bs (k0 + 1) (k0 + 0) (by omega)]
    simp [sR_pR]
  | x :: bs, k0, i + 1, h => by
    simp only [List.getElem?_cons_succ] at h
    rw [fv, fv, List.set_cons_succ, fv_setR h]
    have e : sR (pR S a (k0 + (i + 1)) v) a k0 = sR S a k0 := by rw [sR_pR, if_pos rfl, if_neg (by omega)]
    rw [e, show k0 + 1 + i = k0 + (i + 1) by omega]; rfl
theorem cell_congr {cy : Nat → ClassId} {S S' : MS} {b : Nat} (hT : kT S' b = kT S b) (hL : kL S' b = kL S b) (hI : sI S' b = sI S b) (hR : sR S' b = sR S b) (hl : sL S' b = sL S b) (hD : sD S' b = sD S b) : cellOf cy S' b = cellOf cy S b := by
  unfold cellOf
  rw [hT, hL, hI, hR, hl, hD, fv_congr (fun k => congrFun hI k) (fun k => congrFun hR k)]
theorem u2_ne {α : Type} (f : Nat → Nat → α) {a b : Nat} (k : Nat) (v : α) (h : b ≠ a) : u2 f a k v b = f b := by
  funext j; simp [u2, h]
theorem cell_pI {cy : Nat → ClassId} {S : MS} {a k : Nat} {v : Int32} {b : Nat} (h : b ≠ a) : cellOf cy (pI S a k v) b = cellOf cy S b := cell_congr rfl rfl (u2_ne _ _ _ h) rfl rfl rfl
theorem cell_pR {cy : Nat → ClassId} {S : MS} {a k v b : Nat} (h : b ≠ a) : cellOf cy (pR S a k v) b = cellOf cy S b := cell_congr rfl rfl rfl (u2_ne _ _ _ h) rfl rfl
theorem cell_pL {cy : Nat → ClassId} {S : MS} {a k : Nat} {v : Int64} {b : Nat} (h : b ≠ a) : cellOf cy (pL S a k v) b = cellOf cy S b := cell_congr rfl rfl rfl rfl (u2_ne _ _ _ h) rfl
theorem cell_pD {cy : Nat → ClassId} {S : MS} {a k : Nat} {v : UInt64} {b : Nat} (h : b ≠ a) : cellOf cy (pD S a k v) b = cellOf cy S b := cell_congr rfl rfl rfl rfl rfl (u2_ne _ _ _ h)
theorem cell_nw {cy : Nat → ClassId} {S : MS} {q t n b : Nat} (h : b ≠ q) : cellOf cy (nw S q t n) b = cellOf cy S b := by
  apply cell_congr
  · simp [kT, nw, h]
  · simp [kL, nw, h]
  · funext k; simp [sI, nw, h]
  · funext k; simp [sR, nw, h]
  · funext k; simp [sL, nw, h]
  · funext k; simp [sD, nw, h]
theorem cell_o {cy : Nat → ClassId} {S : MS} {a ci : Nat} (h : kT S a = ci + 1) (hc : ci < 7) : cellOf cy S a = .inr (ci, fv S a 0 (fl (ci + 1))) := by
  unfold cellOf
  rw [h, if_pos (by omega), Nat.add_sub_cancel]
theorem cell_i {cy : Nat → ClassId} {S : MS} {a t : Nat} (h : kT S a = t) (h1 : 8 ≤ t) (h2 : t ≤ 10) : cellOf cy S a = .inl (cy t, kL S a, .inl (sI S a)) := by
  unfold cellOf
  rw [h, if_neg (by omega), if_pos h2]
theorem cell_q {cy : Nat → ClassId} {S : MS} {a t : Nat} (h : kT S a = t) (h1 : 11 ≤ t) (h2 : t ≤ 14) : cellOf cy S a = .inl (cy t, kL S a, .inr (.inr (.inr (.inr (fun i => op (sR S a i)))))) := by
  unfold cellOf
  rw [h, if_neg (by omega), if_neg (by omega), if_pos h2]
theorem cell_l {cy : Nat → ClassId} {S : MS} {a : Nat} (h : kT S a = 15) : cellOf cy S a = .inl (cy 15, kL S a, .inr (.inl (sL S a))) := by
  unfold cellOf
  rw [h, if_neg (by omega), if_neg (by omega), if_neg (by omega), if_pos rfl]
theorem cell_d {cy : Nat → ClassId} {S : MS} {a : Nat} (h : kT S a = 16) : cellOf cy S a = .inl (cy 16, kL S a, .inr (.inr (.inr (.inl (sD S a))))) := by
  unfold cellOf
  rw [h, if_neg (by omega), if_neg (by omega), if_neg (by omega), if_neg (by omega)]
/-- a cell of the world by its address, its place in the list -/
theorem HR_at {G : GP} {S : MS} {H : Heap} {a : Nat} (hH : HR G S H) (h : kT S a ≠ 0) : ∃ (L : List Nat) (q : Nat), (∀ b, b ∈ L ↔ kT S b ≠ 0) ∧ va_P G.1 cls (va_pl L (cellOf G.2.1 S)) H ∧ va_D (Ab G) (va_pl L (cellOf G.2.1 S)) ∧ a ∈ L ∧ (va_pl L (cellOf G.2.1 S))[q]? = some (a, cellOf G.2.1 S a) := by
  obtain ⟨L, hL, hP, hD⟩ := hH
  have ha := (hL a).mpr h
  obtain ⟨q, hq⟩ := va_pl_get (X := []) (f := cellOf G.2.1 S) ha
  exact ⟨L, q, hL, hP, hD, ha, hq⟩
theorem HR_ab {G : GP} {S : MS} {H : Heap} {a : Nat} (hH : HR G S H) (h : kT S a ≠ 0) : G.2.2 ≤ a := by
  obtain ⟨L, q, -, -, hD, -, hq⟩ := HR_at hH h
  exact hD.2 q _ hq
theorem HR_put {G : GP} {S S' : MS} {H1 : Heap} {L : List Nat} {a q : Nat} {e : va_E} (hL : ∀ b, b ∈ L ↔ kT S b ≠ 0) (hD0 : va_D (Ab G) (va_pl L (cellOf G.2.1 S))) (ha : a ∈ L) (hq : (va_pl L (cellOf G.2.1 S))[q]? = some (a, cellOf G.2.1 S a))
    (hP : va_P G.1 cls ((va_pl L (cellOf G.2.1 S)).set q (a, e)) H1) (hD : va_D (Ab G) ((va_pl L (cellOf G.2.1 S)).set q (a, e))) (hT : ∀ b, kT S' b = kT S b) (he : e = cellOf G.2.1 S' a) (ho : ∀ b, b ≠ a → cellOf G.2.1 S' b = cellOf G.2.1 S b) : HR G S' H1 := by
  have h1 := va_pl_set (X := []) (e := e) hD0 ha hq
  have h2 : va_pl L (va_up (cellOf G.2.1 S) a e) = va_pl L (cellOf G.2.1 S') := va_pl_congr (fun b => by
    by_cases hb : b = a
    · subst hb; rw [va_up_self, he]
    · rw [va_up_ne _ _ hb, ho b hb])
  have h3 : (va_pl L (cellOf G.2.1 S)).set q (a, e) = va_pl L (cellOf G.2.1 S') := h1.trans h2
  rw [h3] at hP hD
  exact ⟨L, fun b => by rw [hT b]; exact hL b, hP, hD⟩
theorem HR_new {G : GP} {S : MS} {H1 : Heap} {L : List Nat} {q t n : Nat} {e : va_E} (hb : 1 ≤ G.2.2) (ht : t ≠ 0) (hL : ∀ b, b ∈ L ↔ kT S b ≠ 0) (hP : va_P G.1 cls (va_pl L (cellOf G.2.1 S) ++ [(q, e)]) H1) (hD : va_D (Ab G) (va_pl L (cellOf G.2.1 S) ++ [(q, e)])) (he : e = cellOf G.2.1 (nw S q t n) q) :
    kT S q = 0 ∧ q ≠ 0 ∧ HR G (nw S q t n) H1 := by
  have hl : (va_pl L (cellOf G.2.1 S) ++ [(q, e)])[(va_pl L (cellOf G.2.1 S)).length]? = some (q, e) := by simp
  have hq0 : G.2.2 ≤ q := hD.2 _ _ hl
  have hn : q ∉ L := fun hm => by
    obtain ⟨i, hi⟩ := va_pl_get (X := []) (f := cellOf G.2.1 S) hm
    have hi' : (va_pl L (cellOf G.2.1 S))[i]? = some (q, cellOf G.2.1 S q) := hi
    have hlt := (List.getElem?_eq_some_iff.mp hi').1
    have h2 : (va_pl L (cellOf G.2.1 S) ++ [(q, e)])[i]? = some (q, cellOf G.2.1 S q) := by rw [List.getElem?_append_left hlt]; exact hi'
    have := hD.1 _ _ _ _ h2 hl rfl
    omega
  have hk0 : kT S q = 0 := Classical.byContradiction fun h => hn ((hL q).mpr h)
  have h3 : va_pl L (cellOf G.2.1 S) ++ [(q, e)] = va_pl (L ++ [q]) (cellOf G.2.1 (nw S q t n)) := by
    rw [va_pl_push hn]
    exact va_pl_congr (fun b => by
      by_cases hb : b = q
      · subst hb; rw [va_up_self, he]
      · rw [va_up_ne _ _ hb, cell_nw hb])
  rw [h3] at hP hD
  refine ⟨hk0, by omega, L ++ [q], fun b => ?_, hP, hD⟩
  by_cases hbq : b = q
  · subst hbq; simp [kT, nw, ht]
  · have : kT (nw S q t n) b = kT S b := by simp [kT, nw, hbq]
    rw [this, ← hL b]
    simp [hbq]
end
section
/-! words that aren't good ones, carried by the world: strings, nest mates' methods, arrays over classes, what a class isn't -/
def strs : List (String × Nat × String) := [("OptimisticStore", 61, "policy, victim rule or patience is out of range"), ("OptimisticStore", 72, "a transaction is active"), ("OptimisticStore", 79, "no further transaction can begin"), ("OptimisticStore", 270, "there is no such transaction"), ("OptimisticStore", 98, "the transaction cannot be retried"), ("OptimisticStore", 279, "a number is out of range"), ("OptimisticStore", 284, "the transaction cannot make an operation"), ("OptimisticStore", 293, "the new value would be out of range"), ("OptimisticStore", 115, "the transaction cannot be committed"), ("OptimisticStore", 272, "the transaction is not active"), ("OptimisticStore", 136, "nobody holds the ticket"), ("OptimisticStore", 139, "the transaction is not aborted"), ("OptimisticStore", 144, "the transaction is not committed"), ("OptimisticStore", 263, "the key is out of range"), ("OptimisticStore", 267, "there is no such commit"), ("OptimisticStore", 190, "the first commit is not the earlier one"), ("OptimisticStore", 218, "kind, low or high is out of range"), ("OptimisticStore", 227, "the constraint cannot be added"), ("OptimisticStore", 229, "the reason is out of range"), ("OptimisticStore", 233, "no transaction is committed"), ("OptimisticStore", 236, "no transaction has ended"), ("OptimisticStore", 238, "the character is out of range"), ("OptimisticStore", 243, "the text is full"), ("OptimisticStore", 252, "the text has a fault"), ("OptimisticStore", 254, "no further transaction can begin or be committed")]
def nest : List (String × Nat × MethodName × String) := [("OptimisticStore$Operation", 36, ⟨"OptimisticStore", "countIn", "([IIII)I"⟩, "OptimisticStore"), ("OptimisticStore$Operation", 40, ⟨"OptimisticStore", "totalIn", "([III)I"⟩, "OptimisticStore"), ("OptimisticStore$Operation", 24, ⟨"OptimisticStore", "isRange", "(II)Z"⟩, "OptimisticStore"), ("OptimisticStore$Operation", 28, ⟨"OptimisticStore", "isBetween", "(III)Z"⟩, "OptimisticStore"), ("OptimisticStore$Constraint", 24, ⟨"OptimisticStore", "countIn", "([IIII)I"⟩, "OptimisticStore"), ("OptimisticStore$Constraint", 28, ⟨"OptimisticStore", "totalIn", "([III)I"⟩, "OptimisticStore")]
def excs : List String := ["java/lang/IllegalArgumentException", "java/lang/IllegalStateException", "java/lang/IndexOutOfBoundsException", "java/lang/ArithmeticException", "java/util/NoSuchElementException"]
def odd : List Cond := [.declares (Bundle.initS "java/lang/RuntimeException"), .declares (Bundle.initS "java/lang/Exception"), .declares (Bundle.initS "java/lang/Throwable"), .castable "java/lang/IllegalArgumentException" "java/lang/IllegalArgumentException", .castable "java/lang/IllegalStateException" "java/lang/IllegalStateException", .castable "java/lang/IndexOutOfBoundsException" "java/lang/IndexOutOfBoundsException", .castable "java/lang/ArithmeticException" "java/lang/ArithmeticException", .castable "java/util/NoSuchElementException" "java/util/NoSuchElementException"]
def WI (G : GP) (U : State) : Prop := va_K G.1 cls (tysOf G) U ∧ vx_Zq Bundle.tN "UNASSIGNED_STACK" Bundle.steD (Ab G) U U.heap ∧ vx_Zq Bundle.tN "SUPPRESSED_SENTINEL" Bundle.listD (Ab G) U U.heap ∧ (∀ q ∈ strs, ∃ a, vk_R q.1 q.2.1 q.2.2 a U) ∧ (∀ q ∈ nest, va_Nw (.methodLinkNest q.1 q.2.1 q.2.2.1 q.2.2.2) U) ∧ (∀ C ∈ [RX0, RX2, RX4], va_AO C U) ∧ va_AOA .int U ∧ (∀ a ∈ excs, ∀ b ∈ excs, a ≠ b → va_Nc a b U) ∧ (∀ w ∈ odd, w.before #[] U = true)
def Cx (p : Program) (s : State) (m : MethodId) (args : Array Value) (c : Code) (cc : ByteArray) (nL : Nat) (own : String) (G : GP) : Prop :=
  p.tables.exec = Jvm.exec ∧ c.code = cc ∧ c.maxLocals = nL ∧ s.vm.findClass own = some m.cls ∧ (∀ w ∈ lw_all, w.before args s = true) ∧ WI G s ∧ 1 ≤ G.2.2 ∧ G.2.2 ≤ s.heap.size
def Gd (p : Program) (l : Launch) (e : Env) (R : Room) (s : State) (m : MethodId) (args : Array Value) (below : List Frame) (meth : Method) (c : Code) (nL : Nat) (G : GP) (Q : State → Prop) (k j : Nat) (S : MS) (pc : Nat) (E : List (Nat × Value)) (st : List Value) : Prop :=
  ∀ (H : Heap) (locs : List Loc) (la : Array Slot), HR G S H → va_S (Ab G) s.heap H locs → lv_has la nL E → W p l e R s m args below meth c H locs k j Q (F0 m pc la st)
/-- what a class' number says: its name, its fields, their types -/
def CI (ci : Nat) (C : String) (T : u_T) (N : Nat) (ty : Nat → FieldType) : Prop := ci < 7 ∧ cls[ci]? = some (C, T, N) ∧ (∀ w ∈ u_ws C T N, w ∈ lw_all) ∧ (∀ k, k < N → parseFieldDescriptor (T k).2.2.1 = some (ty k)) ∧ (∀ a, a < N → ∀ b, b < N → a ≠ b → (T a).2.1 ≠ (T b).2.1) ∧ (fl (ci + 1)).length = N

theorem ci0 : CI 0 RX0 TX0 4 tyX0 := ⟨by decide, rfl, by decide +kernel, tyX0_ok, nmX0, rfl⟩
theorem ci1 : CI 1 RX1 TX1 3 tyX1 := ⟨by decide, rfl, by decide +kernel, tyX1_ok, nmX1, rfl⟩
theorem ci2 : CI 2 RX2 TX2 6 tyX2 := ⟨by decide, rfl, by decide +kernel, tyX2_ok, nmX2, rfl⟩
theorem ci3 : CI 3 RX3 TX3 6 tyX3 := ⟨by decide, rfl, by decide +kernel, tyX3_ok, nmX3, rfl⟩
theorem ci4 : CI 4 RX4 TX4 12 tyX4 := ⟨by decide, rfl, by decide +kernel, tyX4_ok, nmX4, rfl⟩
theorem ci5 : CI 5 RX5 TX5 12 tyX5 := ⟨by decide, rfl, by decide +kernel, tyX5_ok, nmX5, rfl⟩
theorem ci6 : CI 6 RX6 TX6 31 tyX6 := ⟨by decide, rfl, by decide +kernel, tyX6_ok, nmX6, rfl⟩
section GD
variable {p : Program} {l : Launch} {e : Env} {R : Room} {s : State} {m : MethodId} {args : Array Value} {below : List Frame} {meth : Method} {c : Code} {Q : State → Prop}
variable {cc : ByteArray} {nL : Nat} {own : String} {G : GP} {k j : Nat} {S : MS} {pc : Nat} {E : List (Nat × Value)} {st : List Value}

theorem gd_wide {k2 j2 : Nat} (h1 : k ≤ k2) (h2 : j ≤ j2) (K : Gd p l e R s m args below meth c nL G Q k2 j2 S pc E st) : Gd p l e R s m args below meth c nL G Q k j S pc E st := fun H locs la hH hS hl => W.widen h1 h2 (K H locs la hH hS hl)
theorem gd_sub {E2 : List (Nat × Value)} (ks : List Nat) (h : lv_pick E ks = E2) (K : Gd p l e R s m args below meth c nL G Q k j S pc E2 st) : Gd p l e R s m args below meth c nL G Q k j S pc E st := fun H locs la hH hS hl => K H locs la hH hS (lv_sub hl ks h)
theorem gd_pc {pc2 : Nat} (h : pc = pc2) (K : Gd p l e R s m args below meth c nL G Q k j S pc2 E st) : Gd p l e R s m args below meth c nL G Q k j S pc E st := h ▸ K
theorem gd_iconst (X : Cx p s m args c cc nL own G) {n : Int} (v : Int32) (d : decode cc pc = .ok (.iconst n, 1)) (hv : Int32.ofInt n = v) (K : Gd p l e R s m args below meth c nL G Q k j S (pc + 1) E (.int v :: st)) : Gd p l e R s m args below meth c nL G Q k j S pc E st := fun H locs la hH hS hl => lv_iconst X.1 X.2.1 d hv (K H locs la hH hS hl)
theorem gd_bipush (X : Cx p s m args c cc nL own G) {n : Int} (v : Int32) (d : decode cc pc = .ok (.bipush n, 2)) (hv : (Int8.ofInt n).toInt32 = v) (K : Gd p l e R s m args below meth c nL G Q k j S (pc + 2) E (.int v :: st)) : Gd p l e R s m args below meth c nL G Q k j S pc E st := fun H locs la hH hS hl => lv_bipush X.1 X.2.1 d hv (K H locs la hH hS hl)
theorem gd_sipush (X : Cx p s m args c cc nL own G) {n : Int} (v : Int32) (d : decode cc pc = .ok (.sipush n, 3)) (hv : (Int16.ofInt n).toInt32 = v) (K : Gd p l e R s m args below meth c nL G Q k j S (pc + 3) E (.int v :: st)) : Gd p l e R s m args below meth c nL G Q k j S pc E st := fun H locs la hH hS hl => lv_sipush X.1 X.2.1 d hv (K H locs la hH hS hl)
theorem gd_iload_n (X : Cx p s m args c cc nL own G) {f : Fin 4} {x : Int32} (q : Nat) (d : decode cc pc = .ok (.iload_n f, 1)) (hq : E[q]? = some ((f : Nat), .int x)) (K : Gd p l e R s m args below meth c nL G Q k j S (pc + 1) E (.int x :: st)) : Gd p l e R s m args below meth c nL G Q k j S pc E st := fun H locs la hH hS hl => lv_iload_n X.1 X.2.1 d rfl (lv_at hl q hq) (K H locs la hH hS hl)
theorem gd_iload (X : Cx p s m args c cc nL own G) {i : Nat} {x : Int32} (q : Nat) (d : decode cc pc = .ok (.iload i, 2)) (hq : E[q]? = some (i, .int x)) (K : Gd p l e R s m args below meth c nL G Q k j S (pc + 2) E (.int x :: st)) : Gd p l e R s m args below meth c nL G Q k j S pc E st := fun H locs la hH hS hl => lv_iload X.1 X.2.1 d (lv_at hl q hq) (K H locs la hH hS hl)
theorem gd_fload (X : Cx p s m args c cc nL own G) {i : Nat} {x : UInt32} (q : Nat) (d : decode cc pc = .ok (.fload i, 2)) (hq : E[q]? = some (i, .float x)) (K : Gd p l e R s m args below meth c nL G Q k j S (pc + 2) E (.float x :: st)) : Gd p l e R s m args below meth c nL G Q k j S pc E st := fun H locs la hH hS hl => lv_fload X.1 X.2.1 d (lv_at hl q hq) (K H locs la hH hS hl)
theorem gd_dload (X : Cx p s m args c cc nL own G) {i : Nat} {x : UInt64} (q : Nat) (d : decode cc pc = .ok (.dload i, 2)) (hq : E[q]? = some (i, .double x)) (K : Gd p l e R s m args below meth c nL G Q k j S (pc + 2) E (.double x :: st)) : Gd p l e R s m args below meth c nL G Q k j S pc E st := fun H locs la hH hS hl => lv_dload X.1 X.2.1 d (lv_at hl q hq) (K H locs la hH hS hl)
theorem gd_lconst (X : Cx p s m args c cc nL own G) {n : Fin 2} (v : Int64) (d : decode cc pc = .ok (.lconst n, 1)) (hv : Int64.ofNat n = v) (K : Gd p l e R s m args below meth c nL G Q k j S (pc + 1) E (.long v :: st)) : Gd p l e R s m args below meth c nL G Q k j S pc E st := fun H locs la hH hS hl => lv_lconst X.1 X.2.1 d hv (K H locs la hH hS hl)
theorem gd_aload_n (X : Cx p s m args c cc nL own G) {f : Fin 4} {x : Nat} (q : Nat) (d : decode cc pc = .ok (.aload_n f, 1)) (hq : E[q]? = some ((f : Nat), rf x)) (K : Gd p l e R s m args below meth c nL G Q k j S (pc + 1) E (rf x :: st)) : Gd p l e R s m args below meth c nL G Q k j S pc E st := fun H locs la hH hS hl => by
  have h := lv_at hl q hq
  have K2 := K H locs la hH hS hl
  by_cases hx : x = 0
  · subst hx; rw [rf_0] at h K2; exact lv_aload_nN X.1 X.2.1 d rfl h K2
  · rw [rf_ne hx] at h K2; exact lv_aload_n X.1 X.2.1 d rfl h K2
theorem gd_aload (X : Cx p s m args c cc nL own G) {i : Nat} {x : Nat} (q : Nat) (d : decode cc pc = .ok (.aload i, 2)) (hq : E[q]? = some (i, rf x)) (K : Gd p l e R s m args below meth c nL G Q k j S (pc + 2) E (rf x :: st)) : Gd p l e R s m args below meth c nL G Q k j S pc E st := fun H locs la hH hS hl => by
  have h := lv_at hl q hq
  have K2 := K H locs la hH hS hl
  by_cases hx : x = 0
  · subst hx; rw [rf_0] at h K2; exact lv_aloadN X.1 X.2.1 d h K2
  · rw [rf_ne hx] at h K2; exact lv_aload X.1 X.2.1 d h K2
theorem gd_null (X : Cx p s m args c cc nL own G)  (d : decode cc pc = .ok (.aconst_null, 1))  (K : Gd p l e R s m args below meth c nL G Q k j S (pc + 1) E (rf 0 :: st)) : Gd p l e R s m args below meth c nL G Q k j S pc E st := fun H locs la hH hS hl => by have K2 := K H locs la hH hS hl; rw [rf_0] at K2; exact lv_null X.1 X.2.1 d K2
theorem gd_istore_n (X : Cx p s m args c cc nL own G) {f : Fin 4} {x : Int32} (d : decode cc pc = .ok (.istore_n f, 1)) (hn : (f : Nat) < nL) {E2 : List (Nat × Value)} (hE : ((f : Nat), Value.int x) :: E.filter (fun q => !(q.1 == (f : Nat)) && !(q.1 + 1 == (f : Nat) && q.2.category == 2)) = E2) (K : Gd p l e R s m args below meth c nL G Q k j S (pc + 1) E2 st) : Gd p l e R s m args below meth c nL G Q k j S pc E (.int x :: st) := fun H locs la hH hS hl => lv_istore_n X.1 X.2.1 d rfl hl hn hE (fun la2 hl2 => K H locs la2 hH hS hl2)
theorem gd_istore (X : Cx p s m args c cc nL own G) {i : Nat} {x : Int32} (d : decode cc pc = .ok (.istore i, 2)) (hn : i < nL) {E2 : List (Nat × Value)} (hE : (i, Value.int x) :: E.filter (fun q => !(q.1 == i) && !(q.1 + 1 == i && q.2.category == 2)) = E2) (K : Gd p l e R s m args below meth c nL G Q k j S (pc + 2) E2 st) : Gd p l e R s m args below meth c nL G Q k j S pc E (.int x :: st) := fun H locs la hH hS hl => lv_istore X.1 X.2.1 d hl hn hE (fun la2 hl2 => K H locs la2 hH hS hl2)
theorem gd_fstore (X : Cx p s m args c cc nL own G) {i : Nat} {x : UInt32} (d : decode cc pc = .ok (.fstore i, 2)) (hn : i < nL) {E2 : List (Nat × Value)} (hE : (i, Value.float x) :: E.filter (fun q => !(q.1 == i) && !(q.1 + 1 == i && q.2.category == 2)) = E2) (K : Gd p l e R s m args below meth c nL G Q k j S (pc + 2) E2 st) : Gd p l e R s m args below meth c nL G Q k j S pc E (.float x :: st) := fun H locs la hH hS hl => lv_fstore X.1 X.2.1 d hl hn hE (fun la2 hl2 => K H locs la2 hH hS hl2)
theorem gd_dstore (X : Cx p s m args c cc nL own G) {i : Nat} {x : UInt64} (d : decode cc pc = .ok (.dstore i, 2)) (hn : i + 1 < nL) {E2 : List (Nat × Value)} (hE : (i, Value.double x) :: E.filter (fun q => !(q.1 == i) && (!(q.1 == i + 1) && !(q.1 + 1 == i && q.2.category == 2))) = E2) (K : Gd p l e R s m args below meth c nL G Q k j S (pc + 2) E2 st) : Gd p l e R s m args below meth c nL G Q k j S pc E (.double x :: st) := fun H locs la hH hS hl => lv_dstore X.1 X.2.1 d hl hn hE (fun la2 hl2 => K H locs la2 hH hS hl2)
theorem gd_astore_n (X : Cx p s m args c cc nL own G) {f : Fin 4} {x : Nat} (d : decode cc pc = .ok (.astore_n f, 1)) (hn : (f : Nat) < nL) {E2 : List (Nat × Value)} (hE : ((f : Nat), rf x) :: E.filter (fun q => !(q.1 == (f : Nat)) && !(q.1 + 1 == (f : Nat) && q.2.category == 2)) = E2) (K : Gd p l e R s m args below meth c nL G Q k j S (pc + 1) E2 st) : Gd p l e R s m args below meth c nL G Q k j S pc E (rf x :: st) := fun H locs la hH hS hl => by
  by_cases hx : x = 0
  · subst hx; rw [rf_0] at hE ⊢; exact lv_astore_nN X.1 X.2.1 d rfl hl hn hE (fun la2 hl2 => K H locs la2 hH hS hl2)
  · rw [rf_ne hx] at hE ⊢; exact lv_astore_n X.1 X.2.1 d rfl hl hn hE (fun la2 hl2 => K H locs la2 hH hS hl2)
theorem gd_astore (X : Cx p s m args c cc nL own G) {i : Nat} {x : Nat} (d : decode cc pc = .ok (.astore i, 2)) (hn : i < nL) {E2 : List (Nat × Value)} (hE : (i, rf x) :: E.filter (fun q => !(q.1 == i) && !(q.1 + 1 == i && q.2.category == 2)) = E2) (K : Gd p l e R s m args below meth c nL G Q k j S (pc + 2) E2 st) : Gd p l e R s m args below meth c nL G Q k j S pc E (rf x :: st) := fun H locs la hH hS hl => by
  by_cases hx : x = 0
  · subst hx; rw [rf_0] at hE ⊢; exact lv_astoreN X.1 X.2.1 d hl hn hE (fun la2 hl2 => K H locs la2 hH hS hl2)
  · rw [rf_ne hx] at hE ⊢; exact lv_astore X.1 X.2.1 d hl hn hE (fun la2 hl2 => K H locs la2 hH hS hl2)
theorem gd_iinc (X : Cx p s m args c cc nL own G) {i : Nat} {n : Int} {x v : Int32} (q : Nat) (d : decode cc pc = .ok (.iinc i n, 3)) (hq : E[q]? = some (i, .int x)) (hv : x + Int32.ofInt n = v) (hn : i < nL) {E2 : List (Nat × Value)} (hE : (i, Value.int v) :: E.filter (fun q => !(q.1 == i) && !(q.1 + 1 == i && q.2.category == 2)) = E2) (K : Gd p l e R s m args below meth c nL G Q k j S (pc + 3) E2 st) : Gd p l e R s m args below meth c nL G Q k j S pc E st := fun H locs la hH hS hl => lv_iinc X.1 X.2.1 d hl hq hv hn hE (fun la2 hl2 => K H locs la2 hH hS hl2)
theorem gd_iadd (X : Cx p s m args c cc nL own G) {x y : Int32} (d : decode cc pc = .ok (.iadd, 1))  (K : Gd p l e R s m args below meth c nL G Q k j S (pc + 1) E (.int (x + y) :: st)) : Gd p l e R s m args below meth c nL G Q k j S pc E (.int y :: .int x :: st) := fun H locs la hH hS hl => lv_iadd X.1 X.2.1 d  (K H locs la hH hS hl)
theorem gd_isub (X : Cx p s m args c cc nL own G) {x y : Int32} (d : decode cc pc = .ok (.isub, 1))  (K : Gd p l e R s m args below meth c nL G Q k j S (pc + 1) E (.int (x - y) :: st)) : Gd p l e R s m args below meth c nL G Q k j S pc E (.int y :: .int x :: st) := fun H locs la hH hS hl => lv_isub X.1 X.2.1 d  (K H locs la hH hS hl)
theorem gd_imul (X : Cx p s m args c cc nL own G) {x y : Int32} (d : decode cc pc = .ok (.imul, 1))  (K : Gd p l e R s m args below meth c nL G Q k j S (pc + 1) E (.int (x * y) :: st)) : Gd p l e R s m args below meth c nL G Q k j S pc E (.int y :: .int x :: st) := fun H locs la hH hS hl => lv_imul X.1 X.2.1 d  (K H locs la hH hS hl)
theorem gd_iand (X : Cx p s m args c cc nL own G) {x y : Int32} (d : decode cc pc = .ok (.iand, 1))  (K : Gd p l e R s m args below meth c nL G Q k j S (pc + 1) E (.int (x &&& y) :: st)) : Gd p l e R s m args below meth c nL G Q k j S pc E (.int y :: .int x :: st) := fun H locs la hH hS hl => lv_iand X.1 X.2.1 d  (K H locs la hH hS hl)
theorem gd_ior (X : Cx p s m args c cc nL own G) {x y : Int32} (d : decode cc pc = .ok (.ior, 1))  (K : Gd p l e R s m args below meth c nL G Q k j S (pc + 1) E (.int (x ||| y) :: st)) : Gd p l e R s m args below meth c nL G Q k j S pc E (.int y :: .int x :: st) := fun H locs la hH hS hl => lv_ior X.1 X.2.1 d  (K H locs la hH hS hl)
theorem gd_ixor (X : Cx p s m args c cc nL own G) {x y : Int32} (d : decode cc pc = .ok (.ixor, 1))  (K : Gd p l e R s m args below meth c nL G Q k j S (pc + 1) E (.int (x ^^^ y) :: st)) : Gd p l e R s m args below meth c nL G Q k j S pc E (.int y :: .int x :: st) := fun H locs la hH hS hl => lv_ixor X.1 X.2.1 d  (K H locs la hH hS hl)
theorem gd_ishl (X : Cx p s m args c cc nL own G) {x y : Int32} (d : decode cc pc = .ok (.ishl, 1))  (K : Gd p l e R s m args below meth c nL G Q k j S (pc + 1) E (.int (x <<< (y &&& 31)) :: st)) : Gd p l e R s m args below meth c nL G Q k j S pc E (.int y :: .int x :: st) := fun H locs la hH hS hl => lv_ishl X.1 X.2.1 d  (K H locs la hH hS hl)
theorem gd_ddiv (X : Cx p s m args c cc nL own G) {x y : UInt64} (d : decode cc pc = .ok (.ddiv, 1)) (hne : vf_n64 (FP.ddiv x y)) (K : Gd p l e R s m args below meth c nL G Q k j S (pc + 1) E (.double (FP.ddiv x y) :: st)) : Gd p l e R s m args below meth c nL G Q k j S pc E (.double y :: .double x :: st) := fun H locs la hH hS hl => lv_ddiv X.1 X.2.1 d hne (K H locs la hH hS hl)
theorem gd_fdiv (X : Cx p s m args c cc nL own G) {x y : UInt32} (d : decode cc pc = .ok (.fdiv, 1)) (hne : vf_n32 (FP.fdiv x y)) (K : Gd p l e R s m args below meth c nL G Q k j S (pc + 1) E (.float (FP.fdiv x y) :: st)) : Gd p l e R s m args below meth c nL G Q k j S pc E (.float y :: .float x :: st) := fun H locs la hH hS hl => lv_fdiv X.1 X.2.1 d hne (K H locs la hH hS hl)
theorem gd_lcmp (X : Cx p s m args c cc nL own G) {x y : Int64} (d : decode cc pc = .ok (.lcmp, 1))  (K : Gd p l e R s m args below meth c nL G Q k j S (pc + 1) E (.int (lg_cmp x y) :: st)) : Gd p l e R s m args below meth c nL G Q k j S pc E (.long y :: .long x :: st) := fun H locs la hH hS hl => W.lcmp X.1 X.2.1 d  (K H locs la hH hS hl)
theorem gd_dcmp (X : Cx p s m args c cc nL own G) {x y : UInt64} {o : CmpOp} (d : decode cc pc = .ok (.dcmp o, 1)) (K : Gd p l e R s m args below meth c nL G Q k j S (pc + 1) E (.int (Op.cmpValue (FP.dcmp x y) o) :: st)) : Gd p l e R s m args below meth c nL G Q k j S pc E (.double y :: .double x :: st) := fun H locs la hH hS hl => lv_dcmp X.1 X.2.1 d (K H locs la hH hS hl)
theorem gd_fcmp (X : Cx p s m args c cc nL own G) {x y : UInt32} {o : CmpOp} (d : decode cc pc = .ok (.fcmp o, 1)) (K : Gd p l e R s m args below meth c nL G Q k j S (pc + 1) E (.int (Op.cmpValue (FP.fcmp x y) o) :: st)) : Gd p l e R s m args below meth c nL G Q k j S pc E (.float y :: .float x :: st) := fun H locs la hH hS hl => lv_fcmp X.1 X.2.1 d (K H locs la hH hS hl)
theorem gd_ineg (X : Cx p s m args c cc nL own G) {x : Int32} (d : decode cc pc = .ok (.ineg, 1))  (K : Gd p l e R s m args below meth c nL G Q k j S (pc + 1) E (.int (-x) :: st)) : Gd p l e R s m args below meth c nL G Q k j S pc E (.int x :: st) := fun H locs la hH hS hl => lv_ineg X.1 X.2.1 d  (K H locs la hH hS hl)
theorem gd_i2l (X : Cx p s m args c cc nL own G) {x : Int32} (d : decode cc pc = .ok (.i2l, 1))  (K : Gd p l e R s m args below meth c nL G Q k j S (pc + 1) E (.long (x.toInt64) :: st)) : Gd p l e R s m args below meth c nL G Q k j S pc E (.int x :: st) := fun H locs la hH hS hl => lv_i2l X.1 X.2.1 d rfl (K H locs la hH hS hl)
theorem gd_i2c (X : Cx p s m args c cc nL own G) {x : Int32} (d : decode cc pc = .ok (.i2c, 1))  (K : Gd p l e R s m args below meth c nL G Q k j S (pc + 1) E (.int ((x.toUInt32 % 65536).toInt32) :: st)) : Gd p l e R s m args below meth c nL G Q k j S pc E (.int x :: st) := fun H locs la hH hS hl => lv_i2c X.1 X.2.1 d rfl (K H locs la hH hS hl)
theorem gd_i2f (X : Cx p s m args c cc nL own G) {x : Int32} (d : decode cc pc = .ok (.i2f, 1))  (K : Gd p l e R s m args below meth c nL G Q k j S (pc + 1) E (.float (FP.i2f x) :: st)) : Gd p l e R s m args below meth c nL G Q k j S pc E (.int x :: st) := fun H locs la hH hS hl => lv_i2f X.1 X.2.1 d  (K H locs la hH hS hl)
theorem gd_i2d (X : Cx p s m args c cc nL own G) {x : Int32} (d : decode cc pc = .ok (.i2d, 1))  (K : Gd p l e R s m args below meth c nL G Q k j S (pc + 1) E (.double (FP.i2d x) :: st)) : Gd p l e R s m args below meth c nL G Q k j S pc E (.int x :: st) := fun H locs la hH hS hl => lv_i2d X.1 X.2.1 d  (K H locs la hH hS hl)
theorem gd_f2d (X : Cx p s m args c cc nL own G) {x : UInt32} (d : decode cc pc = .ok (.f2d, 1)) (hne : vf_n64 (FP.f2d x)) (K : Gd p l e R s m args below meth c nL G Q k j S (pc + 1) E (.double (FP.f2d x) :: st)) : Gd p l e R s m args below meth c nL G Q k j S pc E (.float x :: st) := fun H locs la hH hS hl => lv_f2d X.1 X.2.1 d hne (K H locs la hH hS hl)
theorem gd_dupI (X : Cx p s m args c cc nL own G) {x : Int32} (d : decode cc pc = .ok (.dup, 1)) (K : Gd p l e R s m args below meth c nL G Q k j S (pc + 1) E (.int x :: .int x :: st)) : Gd p l e R s m args below meth c nL G Q k j S pc E (.int x :: st) := fun H locs la hH hS hl => lv_dup X.1 X.2.1 d rfl (K H locs la hH hS hl)
theorem gd_dupR (X : Cx p s m args c cc nL own G) {x : Nat} (d : decode cc pc = .ok (.dup, 1)) (K : Gd p l e R s m args below meth c nL G Q k j S (pc + 1) E (rf x :: rf x :: st)) : Gd p l e R s m args below meth c nL G Q k j S pc E (rf x :: st) := fun H locs la hH hS hl => lv_dup X.1 X.2.1 d (rf_cat x) (K H locs la hH hS hl)
theorem gd_popI (X : Cx p s m args c cc nL own G) {x : Int32} (d : decode cc pc = .ok (.pop, 1)) (K : Gd p l e R s m args below meth c nL G Q k j S (pc + 1) E st) : Gd p l e R s m args below meth c nL G Q k j S pc E (.int x :: st) := fun H locs la hH hS hl => lv_pop X.1 X.2.1 d rfl (K H locs la hH hS hl)
theorem gd_dup2 (X : Cx p s m args c cc nL own G) {x : Int32} {a : Nat} (d : decode cc pc = .ok (.dup2, 1)) (K : Gd p l e R s m args below meth c nL G Q k j S (pc + 1) E (.int x :: rf a :: .int x :: rf a :: st)) : Gd p l e R s m args below meth c nL G Q k j S pc E (.int x :: rf a :: st) := fun H locs la hH hS hl => lv_dup2_11 X.1 X.2.1 d rfl (rf_cat a) (K H locs la hH hS hl)
theorem gd_if_eq (X : Cx p s m args c cc nL own G) {x : Int32} {off : Int} (tgt : Nat) (d : decode cc pc = .ok (.ifCond .eq off, 3)) (ht : (pc : Int) + off = (tgt : Int)) (K1 : x = 0 → Gd p l e R s m args below meth c nL G Q k j S tgt E st) (K2 : ¬ x = 0 → Gd p l e R s m args below meth c nL G Q k j S (pc + 3) E st) : Gd p l e R s m args below meth c nL G Q k j S pc E (.int x :: st) := fun H locs la hH hS hl => lv_if_eq X.1 X.2.1 d ht (fun h => K1 h H locs la hH hS hl) (fun h => K2 h H locs la hH hS hl)
theorem gd_icmp_eq (X : Cx p s m args c cc nL own G) {x y : Int32} {off : Int} (tgt : Nat) (d : decode cc pc = .ok (.if_icmp .eq off, 3)) (ht : (pc : Int) + off = (tgt : Int)) (K1 : x = y → Gd p l e R s m args below meth c nL G Q k j S tgt E st) (K2 : ¬ x = y → Gd p l e R s m args below meth c nL G Q k j S (pc + 3) E st) : Gd p l e R s m args below meth c nL G Q k j S pc E (.int y :: .int x :: st) := fun H locs la hH hS hl => lv_icmp_eq X.1 X.2.1 d ht (fun h => K1 h H locs la hH hS hl) (fun h => K2 h H locs la hH hS hl)
theorem gd_if_ne (X : Cx p s m args c cc nL own G) {x : Int32} {off : Int} (tgt : Nat) (d : decode cc pc = .ok (.ifCond .ne off, 3)) (ht : (pc : Int) + off = (tgt : Int)) (K1 : ¬ x = 0 → Gd p l e R s m args below meth c nL G Q k j S tgt E st) (K2 : x = 0 → Gd p l e R s m args below meth c nL G Q k j S (pc + 3) E st) : Gd p l e R s m args below meth c nL G Q k j S pc E (.int x :: st) := fun H locs la hH hS hl => lv_if_ne X.1 X.2.1 d ht (fun h => K1 h H locs la hH hS hl) (fun h => K2 h H locs la hH hS hl)
theorem gd_icmp_ne (X : Cx p s m args c cc nL own G) {x y : Int32} {off : Int} (tgt : Nat) (d : decode cc pc = .ok (.if_icmp .ne off, 3)) (ht : (pc : Int) + off = (tgt : Int)) (K1 : ¬ x = y → Gd p l e R s m args below meth c nL G Q k j S tgt E st) (K2 : x = y → Gd p l e R s m args below meth c nL G Q k j S (pc + 3) E st) : Gd p l e R s m args below meth c nL G Q k j S pc E (.int y :: .int x :: st) := fun H locs la hH hS hl => lv_icmp_ne X.1 X.2.1 d ht (fun h => K1 h H locs la hH hS hl) (fun h => K2 h H locs la hH hS hl)
theorem gd_if_lt (X : Cx p s m args c cc nL own G) {x : Int32} {off : Int} (tgt : Nat) (d : decode cc pc = .ok (.ifCond .lt off, 3)) (ht : (pc : Int) + off = (tgt : Int)) (K1 : x < 0 → Gd p l e R s m args below meth c nL G Q k j S tgt E st) (K2 : ¬ x < 0 → Gd p l e R s m args below meth c nL G Q k j S (pc + 3) E st) : Gd p l e R s m args below meth c nL G Q k j S pc E (.int x :: st) := fun H locs la hH hS hl => lv_if_lt X.1 X.2.1 d ht (fun h => K1 h H locs la hH hS hl) (fun h => K2 h H locs la hH hS hl)
theorem gd_icmp_lt (X : Cx p s m args c cc nL own G) {x y : Int32} {off : Int} (tgt : Nat) (d : decode cc pc = .ok (.if_icmp .lt off, 3)) (ht : (pc : Int) + off = (tgt : Int)) (K1 : x < y → Gd p l e R s m args below meth c nL G Q k j S tgt E st) (K2 : ¬ x < y → Gd p l e R s m args below meth c nL G Q k j S (pc + 3) E st) : Gd p l e R s m args below meth c nL G Q k j S pc E (.int y :: .int x :: st) := fun H locs la hH hS hl => lv_icmp_lt X.1 X.2.1 d ht (fun h => K1 h H locs la hH hS hl) (fun h => K2 h H locs la hH hS hl)
theorem gd_if_ge (X : Cx p s m args c cc nL own G) {x : Int32} {off : Int} (tgt : Nat) (d : decode cc pc = .ok (.ifCond .ge off, 3)) (ht : (pc : Int) + off = (tgt : Int)) (K1 : 0 ≤ x → Gd p l e R s m args below meth c nL G Q k j S tgt E st) (K2 : ¬ 0 ≤ x → Gd p l e R s m args below meth c nL G Q k j S (pc + 3) E st) : Gd p l e R s m args below meth c nL G Q k j S pc E (.int x :: st) := fun H locs la hH hS hl => lv_if_ge X.1 X.2.1 d ht (fun h => K1 h H locs la hH hS hl) (fun h => K2 h H locs la hH hS hl)
theorem gd_icmp_ge (X : Cx p s m args c cc nL own G) {x y : Int32} {off : Int} (tgt : Nat) (d : decode cc pc = .ok (.if_icmp .ge off, 3)) (ht : (pc : Int) + off = (tgt : Int)) (K1 : y ≤ x → Gd p l e R s m args below meth c nL G Q k j S tgt E st) (K2 : ¬ y ≤ x → Gd p l e R s m args below meth c nL G Q k j S (pc + 3) E st) : Gd p l e R s m args below meth c nL G Q k j S pc E (.int y :: .int x :: st) := fun H locs la hH hS hl => lv_icmp_ge X.1 X.2.1 d ht (fun h => K1 h H locs la hH hS hl) (fun h => K2 h H locs la hH hS hl)
theorem gd_if_gt (X : Cx p s m args c cc nL own G) {x : Int32} {off : Int} (tgt : Nat) (d : decode cc pc = .ok (.ifCond .gt off, 3)) (ht : (pc : Int) + off = (tgt : Int)) (K1 : 0 < x → Gd p l e R s m args below meth c nL G Q k j S tgt E st) (K2 : ¬ 0 < x → Gd p l e R s m args below meth c nL G Q k j S (pc + 3) E st) : Gd p l e R s m args below meth c nL G Q k j S pc E (.int x :: st) := fun H locs la hH hS hl => lv_if_gt X.1 X.2.1 d ht (fun h => K1 h H locs la hH hS hl) (fun h => K2 h H locs la hH hS hl)
theorem gd_icmp_gt (X : Cx p s m args c cc nL own G) {x y : Int32} {off : Int} (tgt : Nat) (d : decode cc pc = .ok (.if_icmp .gt off, 3)) (ht : (pc : Int) + off = (tgt : Int)) (K1 : y < x → Gd p l e R s m args below meth c nL G Q k j S tgt E st) (K2 : ¬ y < x → Gd p l e R s m args below meth c nL G Q k j S (pc + 3) E st) : Gd p l e R s m args below meth c nL G Q k j S pc E (.int y :: .int x :: st) := fun H locs la hH hS hl => lv_icmp_gt X.1 X.2.1 d ht (fun h => K1 h H locs la hH hS hl) (fun h => K2 h H locs la hH hS hl)
theorem gd_if_le (X : Cx p s m args c cc nL own G) {x : Int32} {off : Int} (tgt : Nat) (d : decode cc pc = .ok (.ifCond .le off, 3)) (ht : (pc : Int) + off = (tgt : Int)) (K1 : x ≤ 0 → Gd p l e R s m args below meth c nL G Q k j S tgt E st) (K2 : ¬ x ≤ 0 → Gd p l e R s m args below meth c nL G Q k j S (pc + 3) E st) : Gd p l e R s m args below meth c nL G Q k j S pc E (.int x :: st) := fun H locs la hH hS hl => lv_if_le X.1 X.2.1 d ht (fun h => K1 h H locs la hH hS hl) (fun h => K2 h H locs la hH hS hl)
theorem gd_icmp_le (X : Cx p s m args c cc nL own G) {x y : Int32} {off : Int} (tgt : Nat) (d : decode cc pc = .ok (.if_icmp .le off, 3)) (ht : (pc : Int) + off = (tgt : Int)) (K1 : x ≤ y → Gd p l e R s m args below meth c nL G Q k j S tgt E st) (K2 : ¬ x ≤ y → Gd p l e R s m args below meth c nL G Q k j S (pc + 3) E st) : Gd p l e R s m args below meth c nL G Q k j S pc E (.int y :: .int x :: st) := fun H locs la hH hS hl => lv_icmp_le X.1 X.2.1 d ht (fun h => K1 h H locs la hH hS hl) (fun h => K2 h H locs la hH hS hl)
theorem gd_ifnull (X : Cx p s m args c cc nL own G) {x : Nat} {off : Int} (tgt : Nat) (d : decode cc pc = .ok (.ifnull off, 3)) (ht : (pc : Int) + off = (tgt : Int)) (K1 : x = 0 → Gd p l e R s m args below meth c nL G Q k j S tgt E st) (K2 : ¬ x = 0 → Gd p l e R s m args below meth c nL G Q k j S (pc + 3) E st) : Gd p l e R s m args below meth c nL G Q k j S pc E (rf x :: st) := fun H locs la hH hS hl => by
  by_cases hx : x = 0
  · have K := K1 hx H locs la hH hS hl
    subst hx; rw [rf_0]; exact lv_ifnullN X.1 X.2.1 d ht K
  · have K := K2 hx H locs la hH hS hl
    rw [rf_ne hx]; exact lv_ifnull X.1 X.2.1 d K
theorem gd_ifnonnull (X : Cx p s m args c cc nL own G) {x : Nat} {off : Int} (tgt : Nat) (d : decode cc pc = .ok (.ifnonnull off, 3)) (ht : (pc : Int) + off = (tgt : Int)) (K1 : ¬ x = 0 → Gd p l e R s m args below meth c nL G Q k j S tgt E st) (K2 : x = 0 → Gd p l e R s m args below meth c nL G Q k j S (pc + 3) E st) : Gd p l e R s m args below meth c nL G Q k j S pc E (rf x :: st) := fun H locs la hH hS hl => by
  by_cases hx : x = 0
  · have K := K2 hx H locs la hH hS hl
    subst hx; rw [rf_0]; exact lv_ifnonnullN X.1 X.2.1 d K
  · have K := K1 hx H locs la hH hS hl
    rw [rf_ne hx]; exact lv_ifnonnull X.1 X.2.1 d ht K
theorem op_inj {x y : Nat} : op x = op y ↔ x = y := by
  unfold op
  by_cases hx : x = 0 <;> by_cases hy : y = 0 <;> simp [hx, hy]
  · exact fun h => hy h.symm
theorem gd_acmp_eq (X : Cx p s m args c cc nL own G) {x y : Nat} {off : Int} (tgt : Nat) (d : decode cc pc = .ok (.if_acmp .eq off, 3)) (ht : (pc : Int) + off = (tgt : Int)) (K1 : x = y → Gd p l e R s m args below meth c nL G Q k j S tgt E st) (K2 : ¬ x = y → Gd p l e R s m args below meth c nL G Q k j S (pc + 3) E st) : Gd p l e R s m args below meth c nL G Q k j S pc E (rf y :: rf x :: st) := fun H locs la hH hS hl => lv_acmp_eq X.1 X.2.1 d ht (fun h => K1 (op_inj.mp h) H locs la hH hS hl) (fun h => K2 (fun h2 => h (op_inj.mpr h2)) H locs la hH hS hl)
theorem gd_goto (X : Cx p s m args c cc nL own G) {off : Int} (tgt : Nat) (d : decode cc pc = .ok (.goto off, 3)) (ht : (pc : Int) + off = (tgt : Int)) (K : Gd p l e R s m args below meth c nL G Q k j S tgt E st) : Gd p l e R s m args below meth c nL G Q k j S pc E st := fun H locs la hH hS hl => lv_goto X.1 X.2.1 d ht (K H locs la hH hS hl)
theorem Cx.ne (X : Cx p s m args c cc nL own G) {H : Heap} {a : Nat} (hH : HR G S H) (h : kT S a ≠ 0) : a ≠ 0 := fun h0 => by
  have := HR_ab hH h
  have := X.2.2.2.2.2.2.1
  omega
theorem Cx.A (X : Cx p s m args c cc nL own G) : ∀ q : Nat, s.heap.size ≤ q → Ab G q := fun _ h => Nat.le_trans X.2.2.2.2.2.2.2 h
theorem gd_getI (X : Cx p s m args c cc nL own G) {ci kf index N a : Nat} {C : String} {T : u_T} {ty : Nat → FieldType} (hc : CI ci C T N ty) (hk : kf < N) (hf : (fl (ci + 1))[kf]? = some false) (hw : Cond.fieldLink own index (T kf).1 (T kf).2.1 (T kf).2.2.1 ∈ lw_all) (d : decode cc pc = .ok (.getfield index, 3)) (ha : kT S a = ci + 1) (K : Gd p l e R s m args below meth c nL G Q k j S (pc + 3) E (.int (sI S a kf) :: st)) : Gd p l e R s m args below meth c nL G Q k j S pc E (rf a :: st) := fun H locs la hH hS hl => by
  obtain ⟨L, q, hL, hP, hD, hm, hq⟩ := HR_at hH (a := a) (by rw [ha]; omega)
  rw [cell_o ha hc.1] at hq
  rw [rf_ne (a := a) (Cx.ne X hH (by rw [ha]; omega))]
  have hv := fv_getI (S := S) (a := a) (k0 := 0) hf
  rw [Nat.zero_add] at hv
  exact va_get X.1 X.2.1 X.2.2.2.2.1 hc.2.2.1 X.2.2.2.1 X.2.2.2.2.2.1.1 hP q hq hc.2.1 kf hk (X.2.2.2.2.1 _ hw) (fun _ h => h) hv d (K H locs la hH hS hl)
theorem gd_getR (X : Cx p s m args c cc nL own G) {ci kf index N a : Nat} {C : String} {T : u_T} {ty : Nat → FieldType} (hc : CI ci C T N ty) (hk : kf < N) (hf : (fl (ci + 1))[kf]? = some true) (hw : Cond.fieldLink own index (T kf).1 (T kf).2.1 (T kf).2.2.1 ∈ lw_all) (d : decode cc pc = .ok (.getfield index, 3)) (ha : kT S a = ci + 1) (K : Gd p l e R s m args below meth c nL G Q k j S (pc + 3) E (rf (sR S a kf) :: st)) : Gd p l e R s m args below meth c nL G Q k j S pc E (rf a :: st) := fun H locs la hH hS hl => by
  obtain ⟨L, q, hL, hP, hD, hm, hq⟩ := HR_at hH (a := a) (by rw [ha]; omega)
  rw [cell_o ha hc.1] at hq
  rw [rf_ne (a := a) (Cx.ne X hH (by rw [ha]; omega))]
  have hv := fv_getR (S := S) (a := a) (k0 := 0) hf
  rw [Nat.zero_add] at hv
  exact va_get X.1 X.2.1 X.2.2.2.2.1 hc.2.2.1 X.2.2.2.1 X.2.2.2.2.2.1.1 hP q hq hc.2.1 kf hk (X.2.2.2.2.1 _ hw) (fun _ h => h) hv d (K H locs la hH hS hl)
theorem gd_putI (X : Cx p s m args c cc nL own G) {ci kf index N a : Nat} {v : Int32} {C : String} {T : u_T} {ty : Nat → FieldType} (hc : CI ci C T N ty) (hk : kf < N) (hf : (fl (ci + 1))[kf]? = some false) (hfin : (T kf).2.2.2 = false) (hw : Cond.fieldLink own index (T kf).1 (T kf).2.1 (T kf).2.2.1 ∈ lw_all) (hn : narrow (ty kf) (.int v) = .int v) (hft : fits (ty kf) (.int v) = true) (d : decode cc pc = .ok (.putfield index, 3)) (ha : kT S a = ci + 1) (K : Gd p l e R s m args below meth c nL G Q k j (pI S a kf v) (pc + 3) E st) : Gd p l e R s m args below meth c nL G Q k j S pc E (.int v :: rf a :: st) := fun H locs la hH hS hl => by
  obtain ⟨L, q, hL, hP, hD, hm, hq⟩ := HR_at hH (a := a) (by rw [ha]; omega)
  have hq0 := hq
  rw [cell_o ha hc.1] at hq
  rw [rf_ne (a := a) (Cx.ne X hH (by rw [ha]; omega))]
  refine va_put X.1 X.2.1 X.2.2.2.2.1 hc.2.2.1 ty hc.2.2.2.1 hc.2.2.2.2.1 X.2.2.2.1 X.2.2.2.2.2.1.1 hP hD hS q hq hc.2.1 kf hk (X.2.2.2.2.1 _ hw) (fun _ h => h) hfin (hc.2.2.2.1 kf hk) hn hft (by rw [fv_len, hc.2.2.2.2.2]; exact hk) d (fun H1 locs1 hP1 hD1 hS1 => ?_)
  refine K H1 locs1 la (HR_put hL hD hm hq0 hP1 hD1 (fun _ => rfl) ?_ (fun b hb => cell_pI hb)) hS1 hl
  rw [cell_o (S := pI S a kf v) ha hc.1, fv_setI hf, Nat.zero_add]
theorem gd_putR (X : Cx p s m args c cc nL own G) {ci kf index N a : Nat} {v : Nat} {C : String} {T : u_T} {ty : Nat → FieldType} (hc : CI ci C T N ty) (hk : kf < N) (hf : (fl (ci + 1))[kf]? = some true) (hfin : (T kf).2.2.2 = false) (hw : Cond.fieldLink own index (T kf).1 (T kf).2.1 (T kf).2.2.1 ∈ lw_all) (hn : narrow (ty kf) (rf v) = rf v) (hft : fits (ty kf) (rf v) = true) (d : decode cc pc = .ok (.putfield index, 3)) (ha : kT S a = ci + 1) (K : Gd p l e R s m args below meth c nL G Q k j (pR S a kf v) (pc + 3) E st) : Gd p l e R s m args below meth c nL G Q k j S pc E (rf v :: rf a :: st) := fun H locs la hH hS hl => by
  obtain ⟨L, q, hL, hP, hD, hm, hq⟩ := HR_at hH (a := a) (by rw [ha]; omega)
  have hq0 := hq
  rw [cell_o ha hc.1] at hq
  rw [rf_ne (a := a) (Cx.ne X hH (by rw [ha]; omega))]
  refine va_put X.1 X.2.1 X.2.2.2.2.1 hc.2.2.1 ty hc.2.2.2.1 hc.2.2.2.2.1 X.2.2.2.1 X.2.2.2.2.2.1.1 hP hD hS q hq hc.2.1 kf hk (X.2.2.2.2.1 _ hw) (fun _ h => h) hfin (hc.2.2.2.1 kf hk) hn hft (by rw [fv_len, hc.2.2.2.2.2]; exact hk) d (fun H1 locs1 hP1 hD1 hS1 => ?_)
  refine K H1 locs1 la (HR_put hL hD hm hq0 hP1 hD1 (fun _ => rfl) ?_ (fun b hb => cell_pR hb)) hS1 hl
  rw [cell_o (S := pR S a kf v) ha hc.1, fv_setR hf, Nat.zero_add]
theorem gd_putFI (X : Cx p s m args c cc nL own G) {ci kf index N a : Nat} {v : Int32} {C : String} {T : u_T} {ty : Nat → FieldType} (hc : CI ci C T N ty) (hk : kf < N) (hf : (fl (ci + 1))[kf]? = some false) (hfin : (T kf).2.2.2 = true) (hin : meth.name = "<init>") (hdecl : (T kf).1 = own) (hw : Cond.fieldLink own index (T kf).1 (T kf).2.1 (T kf).2.2.1 ∈ lw_all) (hn : narrow (ty kf) (.int v) = .int v) (hft : fits (ty kf) (.int v) = true) (d : decode cc pc = .ok (.putfield index, 3)) (ha : kT S a = ci + 1) (K : Gd p l e R s m args below meth c nL G Q k j (pI S a kf v) (pc + 3) E st) : Gd p l e R s m args below meth c nL G Q k j S pc E (.int v :: rf a :: st) := fun H locs la hH hS hl => by
  obtain ⟨L, q, hL, hP, hD, hm, hq⟩ := HR_at hH (a := a) (by rw [ha]; omega)
  have hq0 := hq
  rw [cell_o ha hc.1] at hq
  rw [rf_ne (a := a) (Cx.ne X hH (by rw [ha]; omega))]
  refine va_putF X.1 X.2.1 X.2.2.2.2.1 hc.2.2.1 ty hc.2.2.2.1 hc.2.2.2.2.1 X.2.2.2.1 X.2.2.2.2.2.1.1 hP hD hS q hq hc.2.1 kf hk (X.2.2.2.2.1 _ hw) (fun _ h => h) hfin hin hdecl (hc.2.2.2.1 kf hk) hn hft (by rw [fv_len, hc.2.2.2.2.2]; exact hk) d (fun H1 locs1 hP1 hD1 hS1 => ?_)
  refine K H1 locs1 la (HR_put hL hD hm hq0 hP1 hD1 (fun _ => rfl) ?_ (fun b hb => cell_pI hb)) hS1 hl
  rw [cell_o (S := pI S a kf v) ha hc.1, fv_setI hf, Nat.zero_add]
theorem gd_putFR (X : Cx p s m args c cc nL own G) {ci kf index N a : Nat} {v : Nat} {C : String} {T : u_T} {ty : Nat → FieldType} (hc : CI ci C T N ty) (hk : kf < N) (hf : (fl (ci + 1))[kf]? = some true) (hfin : (T kf).2.2.2 = true) (hin : meth.name = "<init>") (hdecl : (T kf).1 = own) (hw : Cond.fieldLink own index (T kf).1 (T kf).2.1 (T kf).2.2.1 ∈ lw_all) (hn : narrow (ty kf) (rf v) = rf v) (hft : fits (ty kf) (rf v) = true) (d : decode cc pc = .ok (.putfield index, 3)) (ha : kT S a = ci + 1) (K : Gd p l e R s m args below meth c nL G Q k j (pR S a kf v) (pc + 3) E st) : Gd p l e R s m args below meth c nL G Q k j S pc E (rf v :: rf a :: st) := fun H locs la hH hS hl => by
  obtain ⟨L, q, hL, hP, hD, hm, hq⟩ := HR_at hH (a := a) (by rw [ha]; omega)
  have hq0 := hq
  rw [cell_o ha hc.1] at hq
  rw [rf_ne (a := a) (Cx.ne X hH (by rw [ha]; omega))]
  refine va_putF X.1 X.2.1 X.2.2.2.2.1 hc.2.2.1 ty hc.2.2.2.1 hc.2.2.2.2.1 X.2.2.2.1 X.2.2.2.2.2.1.1 hP hD hS q hq hc.2.1 kf hk (X.2.2.2.2.1 _ hw) (fun _ h => h) hfin hin hdecl (hc.2.2.2.1 kf hk) hn hft (by rw [fv_len, hc.2.2.2.2.2]; exact hk) d (fun H1 locs1 hP1 hD1 hS1 => ?_)
  refine K H1 locs1 la (HR_put hL hD hm hq0 hP1 hD1 (fun _ => rfl) ?_ (fun b hb => cell_pR hb)) hS1 hl
  rw [cell_o (S := pR S a kf v) ha hc.1, fv_setR hf, Nat.zero_add]
theorem gd_iald (X : Cx p s m args c cc nL own G) {a : Nat} {i : Int32} (d : decode cc pc = .ok (.iaload, 1)) (ha : kT S a = 9) (hi : vp_in i (kL S a)) (K : Gd p l e R s m args below meth c nL G Q k j S (pc + 1) E (.int (sI S a (ix i)) :: st)) : Gd p l e R s m args below meth c nL G Q k j S pc E (.int i :: rf a :: st) := fun H locs la hH hS hl => by
  obtain ⟨L, q, hL, hP, hD, hm, hq⟩ := HR_at hH (a := a) (by rw [ha]; omega)
  rw [cell_i ha (by omega) (by omega)] at hq
  rw [rf_ne (a := a) (Cx.ne X hH (by rw [ha]; omega))]
  exact va_iald X.1 X.2.1 X.2.2.2.2.2.1.1 hP q 1 hq rfl hi d (K H locs la hH hS hl)
theorem gd_cald (X : Cx p s m args c cc nL own G) {a : Nat} {i : Int32} (d : decode cc pc = .ok (.caload, 1)) (ha : kT S a = 8) (hi : vp_in i (kL S a)) (K : Gd p l e R s m args below meth c nL G Q k j S (pc + 1) E (.int (sI S a (ix i)) :: st)) : Gd p l e R s m args below meth c nL G Q k j S pc E (.int i :: rf a :: st) := fun H locs la hH hS hl => by
  obtain ⟨L, q, hL, hP, hD, hm, hq⟩ := HR_at hH (a := a) (by rw [ha]; omega)
  rw [cell_i ha (by omega) (by omega)] at hq
  rw [rf_ne (a := a) (Cx.ne X hH (by rw [ha]; omega))]
  exact va_cald X.1 X.2.1 X.2.2.2.2.2.1.1 hP q 0 hq rfl hi d (K H locs la hH hS hl)
theorem gd_zald (X : Cx p s m args c cc nL own G) {a : Nat} {i : Int32} (d : decode cc pc = .ok (.baload, 1)) (ha : kT S a = 10) (hi : vp_in i (kL S a)) (K : Gd p l e R s m args below meth c nL G Q k j S (pc + 1) E (.int (sI S a (ix i)) :: st)) : Gd p l e R s m args below meth c nL G Q k j S pc E (.int i :: rf a :: st) := fun H locs la hH hS hl => by
  obtain ⟨L, q, hL, hP, hD, hm, hq⟩ := HR_at hH (a := a) (by rw [ha]; omega)
  rw [cell_i ha (by omega) (by omega)] at hq
  rw [rf_ne (a := a) (Cx.ne X hH (by rw [ha]; omega))]
  exact va_zald X.1 X.2.1 X.2.2.2.2.2.1.1 hP q 2 hq rfl hi d (K H locs la hH hS hl)
theorem gd_iast (X : Cx p s m args c cc nL own G) {a : Nat} {i v : Int32} (d : decode cc pc = .ok (.iastore, 1)) (ha : kT S a = 9) (hi : vp_in i (kL S a)) (K : Gd p l e R s m args below meth c nL G Q k j (pI S a (ix i) v) (pc + 1) E st) : Gd p l e R s m args below meth c nL G Q k j S pc E (.int v :: .int i :: rf a :: st) := fun H locs la hH hS hl => by
  obtain ⟨L, q, hL, hP, hD, hm, hq⟩ := HR_at hH (a := a) (by rw [ha]; omega)
  have hq0 := hq
  rw [cell_i ha (by omega) (by omega)] at hq
  rw [rf_ne (a := a) (Cx.ne X hH (by rw [ha]; omega))]
  refine va_iast X.1 X.2.1 X.2.2.2.2.2.1.1 hP hD hS q 1 hq rfl hi d (fun H1 locs1 hP1 hD1 hS1 => ?_)
  refine K H1 locs1 la (HR_put hL hD hm hq0 hP1 hD1 (fun _ => rfl) ?_ (fun b hb => cell_pI hb)) hS1 hl
  rw [cell_i (S := pI S a (ix i) v) ha (by omega) (by omega)]
  congr 2
  congr 1
  congr 1
  funext j
  simp [sI_pI, upd, ix]
theorem gd_cast (X : Cx p s m args c cc nL own G) {a : Nat} {i v : Int32} (d : decode cc pc = .ok (.castore, 1)) (ha : kT S a = 8) (hi : vp_in i (kL S a)) (K : Gd p l e R s m args below meth c nL G Q k j (pI S a (ix i) (vp_nar .char v)) (pc + 1) E st) : Gd p l e R s m args below meth c nL G Q k j S pc E (.int v :: .int i :: rf a :: st) := fun H locs la hH hS hl => by
  obtain ⟨L, q, hL, hP, hD, hm, hq⟩ := HR_at hH (a := a) (by rw [ha]; omega)
  have hq0 := hq
  rw [cell_i ha (by omega) (by omega)] at hq
  rw [rf_ne (a := a) (Cx.ne X hH (by rw [ha]; omega))]
  refine va_cast X.1 X.2.1 X.2.2.2.2.2.1.1 hP hD hS q 0 hq rfl hi d (fun H1 locs1 hP1 hD1 hS1 => ?_)
  refine K H1 locs1 la (HR_put hL hD hm hq0 hP1 hD1 (fun _ => rfl) ?_ (fun b hb => cell_pI hb)) hS1 hl
  rw [cell_i (S := pI S a (ix i) (vp_nar .char v)) ha (by omega) (by omega)]
  congr 2
  congr 1
  congr 1
  funext j
  simp [sI_pI, upd, ix]
theorem gd_zast (X : Cx p s m args c cc nL own G) {a : Nat} {i v : Int32} (d : decode cc pc = .ok (.bastore, 1)) (ha : kT S a = 10) (hi : vp_in i (kL S a)) (K : Gd p l e R s m args below meth c nL G Q k j (pI S a (ix i) (vp_nar .boolean v)) (pc + 1) E st) : Gd p l e R s m args below meth c nL G Q k j S pc E (.int v :: .int i :: rf a :: st) := fun H locs la hH hS hl => by
  obtain ⟨L, q, hL, hP, hD, hm, hq⟩ := HR_at hH (a := a) (by rw [ha]; omega)
  have hq0 := hq
  rw [cell_i ha (by omega) (by omega)] at hq
  rw [rf_ne (a := a) (Cx.ne X hH (by rw [ha]; omega))]
  refine va_zast X.1 X.2.1 X.2.2.2.2.2.1.1 hP hD hS q 2 hq rfl hi d (fun H1 locs1 hP1 hD1 hS1 => ?_)
  refine K H1 locs1 la (HR_put hL hD hm hq0 hP1 hD1 (fun _ => rfl) ?_ (fun b hb => cell_pI hb)) hS1 hl
  rw [cell_i (S := pI S a (ix i) (vp_nar .boolean v)) ha (by omega) (by omega)]
  congr 2
  congr 1
  congr 1
  funext j
  simp [sI_pI, upd, ix]
theorem gd_lald (X : Cx p s m args c cc nL own G) {a : Nat} {i : Int32} (d : decode cc pc = .ok (.laload, 1)) (ha : kT S a = 15) (hi : vp_in i (kL S a)) (K : Gd p l e R s m args below meth c nL G Q k j S (pc + 1) E (.long (sL S a (ix i)) :: st)) : Gd p l e R s m args below meth c nL G Q k j S pc E (.int i :: rf a :: st) := fun H locs la hH hS hl => by
  obtain ⟨L, q, hL, hP, hD, hm, hq⟩ := HR_at hH (a := a) (by rw [ha]; omega)
  rw [cell_l ha] at hq
  rw [rf_ne (a := a) (Cx.ne X hH (by rw [ha]; omega))]
  exact va_lald X.1 X.2.1 X.2.2.2.2.2.1.1 hP q 7 hq rfl hi d (K H locs la hH hS hl)
theorem gd_last (X : Cx p s m args c cc nL own G) {a : Nat} {i : Int32} {v : Int64} (d : decode cc pc = .ok (.lastore, 1)) (ha : kT S a = 15) (hi : vp_in i (kL S a)) (K : Gd p l e R s m args below meth c nL G Q k j (pL S a (ix i) v) (pc + 1) E st) : Gd p l e R s m args below meth c nL G Q k j S pc E (.long v :: .int i :: rf a :: st) := fun H locs la hH hS hl => by
  obtain ⟨L, q, hL, hP, hD, hm, hq⟩ := HR_at hH (a := a) (by rw [ha]; omega)
  have hq0 := hq
  rw [cell_l ha] at hq
  rw [rf_ne (a := a) (Cx.ne X hH (by rw [ha]; omega))]
  refine va_last X.1 X.2.1 X.2.2.2.2.2.1.1 hP hD hS q 7 hq rfl hi d (fun H1 locs1 hP1 hD1 hS1 => ?_)
  refine K H1 locs1 la (HR_put hL hD hm hq0 hP1 hD1 (fun _ => rfl) ?_ (fun b hb => cell_pL hb)) hS1 hl
  rw [cell_l (S := pL S a (ix i) v) ha]
  congr 2
  congr 1
  congr 1
  congr 1
  funext j
  simp [sL_pL, vp_updL, ix]
theorem gd_dald (X : Cx p s m args c cc nL own G) {a : Nat} {i : Int32} (d : decode cc pc = .ok (.daload, 1)) (ha : kT S a = 16) (hi : vp_in i (kL S a)) (K : Gd p l e R s m args below meth c nL G Q k j S (pc + 1) E (.double (sD S a (ix i)) :: st)) : Gd p l e R s m args below meth c nL G Q k j S pc E (.int i :: rf a :: st) := fun H locs la hH hS hl => by
  obtain ⟨L, q, hL, hP, hD, hm, hq⟩ := HR_at hH (a := a) (by rw [ha]; omega)
  rw [cell_d ha] at hq
  rw [rf_ne (a := a) (Cx.ne X hH (by rw [ha]; omega))]
  exact va_dald X.1 X.2.1 X.2.2.2.2.2.1.1 hP q 8 hq rfl hi d (K H locs la hH hS hl)
theorem gd_dast (X : Cx p s m args c cc nL own G) {a : Nat} {i : Int32} {v : UInt64} (d : decode cc pc = .ok (.dastore, 1)) (ha : kT S a = 16) (hi : vp_in i (kL S a)) (K : Gd p l e R s m args below meth c nL G Q k j (pD S a (ix i) v) (pc + 1) E st) : Gd p l e R s m args below meth c nL G Q k j S pc E (.double v :: .int i :: rf a :: st) := fun H locs la hH hS hl => by
  obtain ⟨L, q, hL, hP, hD, hm, hq⟩ := HR_at hH (a := a) (by rw [ha]; omega)
  have hq0 := hq
  rw [cell_d ha] at hq
  rw [rf_ne (a := a) (Cx.ne X hH (by rw [ha]; omega))]
  refine va_dast X.1 X.2.1 X.2.2.2.2.2.1.1 hP hD hS q 8 hq rfl hi d (fun H1 locs1 hP1 hD1 hS1 => ?_)
  refine K H1 locs1 la (HR_put hL hD hm hq0 hP1 hD1 (fun _ => rfl) ?_ (fun b hb => cell_pD hb)) hS1 hl
  rw [cell_d (S := pD S a (ix i) v) ha]
  congr 2
  congr 1
  congr 1
  congr 1; congr 1; congr 1
  funext j
  simp [sD_pD, vf_upd, ix]
end GD
end
section
theorem va_AOA.moved {ty : FieldType} {u U : State} (hvm : u.vm.Alike U.vm) (h : va_AOA ty u) : va_AOA ty U := Jvm.Stand.arrayOver_alikeB hvm h
theorem odd_warm {w : Cond} {s U : State} (hf : w.faceAtom = true) (ho : w.onTables = true) (hW : s.WarmedH U.vm) (h : w.before #[] s = true) : w.before #[] U = true := va_tabs ho (rfl : (s.setVm U.vm).vm = U.vm) (Cond.faceAtom_setVm hW.alike w hf h)
theorem odd_ok : ∀ w ∈ odd, w.faceAtom = true ∧ w.onTables = true := by decide +kernel
theorem wi_warm {G : GP} {s U : State} {H : Heap} {locs : List Loc} (hW : s.WarmedH U.vm) (hU : U.heap = H) (hS : va_S (Ab G) s.heap H locs) (h : WI G s) : WI G U := by
  obtain ⟨h1, h2, h3, h4, h5, h6, h7, h8, h9⟩ := h
  refine ⟨va_K.moved hW.alike h1, ?_, ?_, fun q hq => ?_, fun q hq => va_Nw.warmM hW (h5 q hq), fun C hC => va_AO.moved hW.alike (h6 C hC), va_AOA.moved hW.alike h7, fun a ha b hb hab => va_Nc.moved hW.alike (h8 a ha b hb hab), fun w hw => odd_warm (odd_ok w hw).1 (odd_ok w hw).2 hW (h9 w hw)⟩
  · rw [hU]; exact (h2.moved hW.alike).kept (fun a ha hA => hS.2.1 a ha hA)
  · rw [hU]; exact (h3.moved hW.alike).kept (fun a ha hA => hS.2.1 a ha hA)
  · obtain ⟨a, ha⟩ := h4 q hq
    exact ⟨a, ha.warm hW⟩
theorem wi_calling {G : GP} {U : State} {g : JFrame} {mk : MethodId} {a : Array Value} (h : WI G U) : WI G (U.calling g mk a) := by
  obtain ⟨h1, h2, h3, h4, h5, h6, h7, h8, h9⟩ := h
  have hA : U.vm.Alike (U.calling g mk a).vm := Vm.Alike.refl U.vm
  refine ⟨va_K.moved hA h1, h2.moved hA, h3.moved hA, fun q hq => ?_, fun q hq => (h5 q hq).same ?_ rfl, fun C hC => va_AO.moved hA (h6 C hC), va_AOA.moved hA h7, fun x hx y hy hxy => va_Nc.moved hA (h8 x hx y hy hxy), fun w hw => va_Nw.same (u := U) (odd_ok w hw).2 rfl (h9 w hw)⟩
  · obtain ⟨a, ha⟩ := h4 q hq
    exact ⟨a, ha.same rfl⟩
  · rfl
/-! CONTRACTS over the model state -/
def PcM (G : GP) (S : MS) (as : List Value) : Array Value → State → Prop := fun v U => v = as.toArray ∧ HR G S U.heap ∧ WI G U ∧ 1 ≤ G.2.2 ∧ G.2.2 ≤ U.heap.size
def QcM (G : GP) (post : Option Value → MS → Prop) : Array Value → State → Outcome → State → Prop := fun _ st o t => ∃ (v : Option Value) (S' : MS), o = .returned v ∧ post v S' ∧ HR G S' t.heap ∧ va_F (Ab G) st t
def XcM (G : GP) (xp : String → MS → Prop) : String → State → State → Prop := fun E st t => ∃ S' : MS, E ∈ excs ∧ xp E S' ∧ HR G S' t.heap ∧ va_F (Ab G) st t
def pI_ (post : Int32 → MS → Prop) : Option Value → MS → Prop := fun v S => ∃ r : Int32, v = some (.int r) ∧ post r S
def pR_ (post : Nat → MS → Prop) : Option Value → MS → Prop := fun v S => ∃ r : Nat, v = some (rf r) ∧ post r S
def pV_ (post : MS → Prop) : Option Value → MS → Prop := fun v S => v = none ∧ post S
def pD_ (post : UInt64 → MS → Prop) : Option Value → MS → Prop := fun v S => ∃ r : UInt64, v = some (.double r) ∧ post r S
def pF_ (post : UInt32 → MS → Prop) : Option Value → MS → Prop := fun v S => ∃ r : UInt32, v = some (.float r) ∧ post r S
/-- a method that returns -/
def MetM (l : Launch) (y : MethodName) (bytes : ByteArray) (maxL : Nat) (ret : Option FieldType) (rm : Room) (as : List Value) (G : GP) (S : MS) (post : Option Value → MS → Prop) : Prop := Met l y (Cond.code y bytes maxL ret :: lw_all) rm (PcM G S as) (QcM G post) rm.cells rm.slots (Ab G)
/-- a method that returns or throws -/
def MetX (l : Launch) (y : MethodName) (bytes : ByteArray) (maxL : Nat) (ret : Option FieldType) (rm : Room) (as : List Value) (G : GP) (S : MS) (post : Option Value → MS → Prop) (xp : String → MS → Prop) : Prop := vx_Met l y (Cond.code y bytes maxL ret :: lw_all) rm (PcM G S as) (QcM G post) (XcM G xp) rm.cells rm.slots (Ab G)
theorem pc_blind (G : GP) (S : MS) (as : List Value) : FrameBlind (PcM G S as) := fun a U g mk h => ⟨h.1, h.2.1, wi_calling h.2.2.1, h.2.2.2⟩
theorem cat_sum : ∀ (st : List Value), (st.map fun v => v.category).sum ≤ 2 * st.length
  | [] => Nat.le_refl 0
  | v :: st => by
    have h1 := cat_sum st
    have h2 : v.category ≤ 2 := by cases v <;> simp [Value.category]
    simp only [List.map_cons, List.sum_cons, List.length_cons]
    omega
theorem lw_goodIn {w : Cond} (h : w ∈ lw_all) : w ∈ lw_all ∧ ((w.onTables && w.keeps) = true ∨ ∃ ty, w = .arrayClass ty) := ⟨h, good_of_word (lw_all_good h)⟩
/-- what the tables say of a method that is called: by its receiver, statically, as a constructor -/
def MVw (y : MethodName) (bytes : ByteArray) (maxL : Nat) (ret : Option FieldType) (n : Nat) : Prop := Cond.instanceMethod y ∈ lw_all ∧ Cond.selects y.cls y y ∈ lw_all ∧ Cond.initialized y.cls ∈ lw_all ∧ Cond.code y bytes maxL ret ∈ lw_all ∧ y.cls ≠ "java/lang/invoke/MethodHandle" ∧ y.cls ≠ "java/lang/invoke/VarHandle" ∧ (parseMethodDescriptor y.desc).map (fun d => d.parameters.length) = some n
def MSw (y : MethodName) (bytes : ByteArray) (maxL : Nat) (ret : Option FieldType) (n : Nat) : Prop := Cond.static y ∈ lw_all ∧ Cond.initialized y.cls ∈ lw_all ∧ Cond.code y bytes maxL ret ∈ lw_all ∧ y.cls ≠ "java/lang/invoke/MethodHandle" ∧ y.cls ≠ "java/lang/invoke/VarHandle" ∧ (parseMethodDescriptor y.desc).map (fun d => d.parameters.length) = some n
def MIw (y : MethodName) (bytes : ByteArray) (maxL : Nat) (n : Nat) : Prop := Cond.instanceMethod y ∈ lw_all ∧ Cond.initialized y.cls ∈ lw_all ∧ Cond.code y bytes maxL none ∈ lw_all ∧ y.cls ≠ "java/lang/invoke/MethodHandle" ∧ y.cls ≠ "java/lang/invoke/VarHandle" ∧ (parseMethodDescriptor y.desc).map (fun d => d.parameters.length) = some n ∧ y.name = "<init>"
section CALLS
variable {p : Program} {l : Launch} {e : Env} {R : Room} {s : State} {m : MethodId} {args : Array Value} {below : List Frame} {meth : Method} {c : Code} {Q : State → Prop}
variable {cc : ByteArray} {nL : Nat} {own : String} {G : GP} {k j : Nat} {S : MS} {pc : Nat} {E : List (Nat × Value)} {st rest : List Value}
variable {y : MethodName} {bytes : ByteArray} {maxL : Nat} {ret : Option FieldType} {rm : Room} {post : Option Value → MS → Prop} {xp : String → MS → Prop} {As : List Value} {a ci index n : Nat}
theorem Cx.fix (X : Cx p s m args c cc nL own G) : CallFix p m c cc nL s args lw_all own := ⟨X.1, X.2.1, X.2.2.1, X.2.2.2.1, X.2.2.2.2.1⟩
theorem Cx.pre (X : Cx p s m args c cc nL own G) {H : Heap} {locs : List Loc} (hH : HR G S H) (hS : va_S (Ab G) s.heap H locs) {as : List Value} {v : Array Value} (hv : v = as.toArray) {U : State} (hU : U.heap = H) (hW : s.WarmedH U.vm) : PcM G S as v U :=
  ⟨hv, by rw [hU]; exact hH, wi_warm hW hU hS X.2.2.2.2.2.1, X.2.2.2.2.2.2.1, by rw [hU]; exact Nat.le_trans X.2.2.2.2.2.2.2 hS.1⟩
/-- behind a call that returned: the run goes on over the new model state -/
theorem gd_back {H : Heap} {locs : List Loc} {la : Array Slot} (hS : va_S (Ab G) s.heap H locs) (hl : lv_has la nL E) {a0 : Array Value} (hr : va_Run p l e R s m args below meth c H locs k j rm.cells rm.slots (F0 m pc la st) rest (QcM G post a0) (Ab G))
    (K : ∀ (v : Option Value) (S' : MS), post v S' → Gd p l e R s m args below meth c nL G Q (k + rm.cells) (j + rm.slots) S' (pc + 3) E (v.toList ++ rest)) : W p l e R s m args below meth c H locs k j Q (F0 m pc la st) := by
  intro T hT X
  obtain ⟨v, st₀, t, T', L, h0, X', hL, e1, e2, ⟨v', S', hv, hp, hH, hF⟩, go⟩ := hr T hT X
  cases hv
  obtain ⟨-, -, hS'⟩ := vx_keep h0 e1 hS (fun _ _ h => h) (fun _ h => h) hL hF
  obtain ⟨t2, a1, b1⟩ := K v S' hp T'.heap (locs ++ L) la (by rw [e1]; exact hH) hS' hl T' rfl X'
  exact ⟨t2, go t2 a1, b1⟩
theorem gd_backX {H : Heap} {locs : List Loc} {la : Array Slot} (hS : va_S (Ab G) s.heap H locs) (hl : lv_has la nL E) {a0 : Array Value} (hr : vx_Run p l e R s m args below meth c H locs k j rm.cells rm.slots (F0 m pc la st) rest (QcM G post a0) (XcM G xp) (Ab G))
    (K : ∀ (v : Option Value) (S' : MS), post v S' → Gd p l e R s m args below meth c nL G Q (k + rm.cells) (j + rm.slots) S' (pc + 3) E (v.toList ++ rest))
    (KX : ∀ (Ex : String) (S' : MS), Ex ∈ excs → xp Ex S' → ∀ (H1 : Heap) (locs1 : List Loc) (q : Addr) (ce : Cell), HR G S' H1 → va_S (Ab G) s.heap H1 locs1 → H1[q]? = some ce → ce.vm = .none → s.vm.findClass Ex = some ce.cls → vx_W p l e R s m args below meth c H1 locs1 (k + rm.cells) (j + rm.slots) Q (F0 m pc la rest) q) : W p l e R s m args below meth c H locs k j Q (F0 m pc la st) := by
  intro T hT X
  rcases hr T hT X with ⟨v, st₀, t, T', L, h0, X', hL, e1, e2, ⟨v', S', hv, hp, hH, hF⟩, go⟩ | ⟨q, st₀, t, T', L, Ex, ce, h0, X', hL, e1, e2, ⟨S', hE, hp, hH, hF⟩, hce, hcv, hcl, go⟩
  · cases hv
    obtain ⟨-, -, hS'⟩ := vx_keep h0 e1 hS (fun _ _ h => h) (fun _ h => h) hL hF
    obtain ⟨t2, a1, b1⟩ := K v S' hp T'.heap (locs ++ L) la (by rw [e1]; exact hH) hS' hl T' rfl X'
    exact ⟨t2, go t2 a1, b1⟩
  · obtain ⟨-, -, hS'⟩ := vx_keep h0 e1 hS (fun _ _ h => h) (fun _ h => h) hL hF
    obtain ⟨t2, a1, b1⟩ := KX Ex S' hE hp T'.heap (locs ++ L) q ce (by rw [e1]; exact hH) hS' (by rw [e1]; exact hce) hcv hcl T' rfl X'
    exact ⟨t2, go.trans a1, b1⟩
theorem gd_recv (X : Cx p s m args c cc nL own G) {H : Heap} (hH : HR G S H) {C : String} {T : u_T} {N : Nat} {ty : Nat → FieldType} (hc : CI ci C T N ty) (ha : kT S a = ci + 1) : ∃ cell : Cell, H[a]? = some cell ∧ cell.vm.isStatics = false ∧ s.vm.findClass C = some cell.cls := by
  obtain ⟨L, q, hL, hP, hD, hm, hq⟩ := HR_at hH (a := a) (by rw [ha]; omega)
  rw [cell_o ha hc.1] at hq
  exact va_recv X.2.2.2.2.2.1.1 hP hc.2.1 hq
theorem cwV_of (X : Cx p s m args c cc nL own G) (hm : MVw y bytes maxL ret n) (hl : Cond.methodLink own index y ∈ lw_all) (hR : rm.frames + 1 ≤ R.frames ∧ 8 + (maxL + 11) + rm.locals ≤ R.locals) : CallW R s args own y.cls index y bytes maxL ret (Cond.code y bytes maxL ret :: lw_all) rm rm.cells rm.slots n := by
  obtain ⟨h1, h2, h3, h4, h5, h6, h7⟩ := hm
  refine cwV (ws' := lw_all) n X.2.2.2.2.1 (fun w hw => ?_) rfl rfl rfl ⟨rfl, h5, h6, h7⟩ hR
  unfold wsV at hw
  rcases List.mem_append.mp hw with hw | hw
  · simp only [List.mem_cons, List.not_mem_nil, or_false] at hw
    rcases hw with rfl | rfl | rfl | rfl
    · exact lw_goodIn hl
    · exact lw_goodIn h1
    · exact lw_goodIn h2
    · exact lw_goodIn h3
  · rcases List.mem_cons.mp hw with rfl | hw
    · exact lw_goodIn h4
    · exact lw_goodIn hw
theorem cwB_of (X : Cx p s m args c cc nL own G) (h3 : Cond.initialized y.cls ∈ lw_all) (h4 : Cond.code y bytes maxL ret ∈ lw_all) (h5 : y.cls ≠ "java/lang/invoke/MethodHandle" ∧ y.cls ≠ "java/lang/invoke/VarHandle" ∧ (parseMethodDescriptor y.desc).map (fun d => d.parameters.length) = some n) (hl : Cond.methodLink own index y ∈ lw_all) (hR : rm.frames + 1 ≤ R.frames ∧ 8 + (maxL + 11) + rm.locals ≤ R.locals) : CallB R s args own index y bytes maxL ret (Cond.code y bytes maxL ret :: lw_all) rm rm.cells rm.slots n := by
  refine callB_of (ws' := lw_all) n X.2.2.2.2.1 (fun w hw => ?_) rfl rfl rfl (X.2.2.2.2.1 _ h3) (X.2.2.2.2.1 _ hl) h5 hR
  rcases List.mem_cons.mp hw with rfl | hw
  · exact lw_goodIn h4
  · exact lw_goodIn hw
theorem gd_callV (X : Cx p s m args c cc nL own G) (hM : MetM l y bytes maxL ret rm (rf a :: As) G S post) (hm : MVw y bytes maxL ret n) (hl : Cond.methodLink own index y ∈ lw_all) {C : String} {T : u_T} {N : Nat} {ty : Nat → FieldType} (hc : CI ci C T N ty) (hC : y.cls = C) (ha : kT S a = ci + 1) (hR : rm.frames + 1 ≤ R.frames ∧ 8 + (maxL + 11) + rm.locals ≤ R.locals) (hn : As.length = n) (hst : st = As.reverse ++ rf a :: rest) (hr : rest.length ≤ 4) (d : decode cc pc = .ok (.invokevirtual index, 3)) (hf : k + rm.cells ≤ R.cells ∧ j + rm.slots ≤ R.slots)
    (K : ∀ (v : Option Value) (S' : MS), post v S' → Gd p l e R s m args below meth c nL G Q (k + rm.cells) (j + rm.slots) S' (pc + 3) E (v.toList ++ rest)) : Gd p l e R s m args below meth c nL G Q k j S pc E st := fun H locs la hH hS hl2 => by
  have ha0 : rf a = .ref a := rf_ne (Cx.ne X hH (by rw [ha]; omega))
  subst hst
  rw [ha0] at hM ⊢
  refine gd_back (a0 := (Value.ref a :: As).toArray) hS hl2 (va_runV X.fix hM (cwV_of X hm hl hR) ⟨pc_blind G S _, by rw [hC]; exact gd_recv X hH hc ha, fun U hU hW => X.pre hH hS rfl hU hW⟩ rfl hn hl2.1 rfl (lv_room ?_) d hf) K
  have := cat_sum rest
  omega
theorem gd_callVX (X : Cx p s m args c cc nL own G) (hM : MetX l y bytes maxL ret rm (rf a :: As) G S post xp) (hm : MVw y bytes maxL ret n) (hl : Cond.methodLink own index y ∈ lw_all) {C : String} {T : u_T} {N : Nat} {ty : Nat → FieldType} (hc : CI ci C T N ty) (hC : y.cls = C) (ha : kT S a = ci + 1) (hR : rm.frames + 1 ≤ R.frames ∧ 8 + (maxL + 11) + rm.locals ≤ R.locals) (hn : As.length = n) (hst : st = As.reverse ++ rf a :: rest) (hr : rest.length ≤ 4) (d : decode cc pc = .ok (.invokevirtual index, 3)) (hf : k + rm.cells ≤ R.cells ∧ j + rm.slots ≤ R.slots)
    (K : ∀ (v : Option Value) (S' : MS), post v S' → Gd p l e R s m args below meth c nL G Q (k + rm.cells) (j + rm.slots) S' (pc + 3) E (v.toList ++ rest))
    (KX : ∀ (Ex : String) (S' : MS), Ex ∈ excs → xp Ex S' → ∀ (H1 : Heap) (locs1 : List Loc) (la : Array Slot) (q : Addr) (ce : Cell), HR G S' H1 → va_S (Ab G) s.heap H1 locs1 → lv_has la nL E → H1[q]? = some ce → ce.vm = .none → s.vm.findClass Ex = some ce.cls → vx_W p l e R s m args below meth c H1 locs1 (k + rm.cells) (j + rm.slots) Q (F0 m pc la rest) q) : Gd p l e R s m args below meth c nL G Q k j S pc E st := fun H locs la hH hS hl2 => by
  have ha0 : rf a = .ref a := rf_ne (Cx.ne X hH (by rw [ha]; omega))
  subst hst
  rw [ha0] at hM ⊢
  refine gd_backX (a0 := (Value.ref a :: As).toArray) hS hl2 (vx_runV X.fix hM (cwV_of X hm hl hR) ⟨pc_blind G S _, by rw [hC]; exact gd_recv X hH hc ha, fun U hU hW => X.pre hH hS rfl hU hW⟩ rfl hn hl2.1 rfl (lv_room ?_) d hf) K (fun Ex S' hE hp H1 locs1 q ce h1 h2 => KX Ex S' hE hp H1 locs1 la q ce h1 h2 hl2)
  have := cat_sum rest
  omega
theorem gd_callS (X : Cx p s m args c cc nL own G) (hM : MetM l y bytes maxL ret rm As G S post) (hm : MSw y bytes maxL ret n) (hl : Cond.methodLink own index y ∈ lw_all) (hR : rm.frames + 1 ≤ R.frames ∧ 8 + (maxL + 11) + rm.locals ≤ R.locals) (hn : As.length = n) (hst : st = As.reverse ++ rest) (hr : rest.length ≤ 4) (d : decode cc pc = .ok (.invokestatic index, 3)) (hf : k + rm.cells ≤ R.cells ∧ j + rm.slots ≤ R.slots)
    (K : ∀ (v : Option Value) (S' : MS), post v S' → Gd p l e R s m args below meth c nL G Q (k + rm.cells) (j + rm.slots) S' (pc + 3) E (v.toList ++ rest)) : Gd p l e R s m args below meth c nL G Q k j S pc E st := fun H locs la hH hS hl2 => by
  subst hst
  refine gd_back (a0 := As.toArray) hS hl2 (va_runS X.fix hM ⟨cwB_of X hm.2.1 hm.2.2.1 hm.2.2.2 hl hR, X.2.2.2.2.1 _ hm.1⟩ ⟨pc_blind G S _, fun U hU hW => X.pre hH hS rfl hU hW⟩ rfl hn hl2.1 rfl (lv_room ?_) d hf) K
  have := cat_sum rest
  omega
theorem gd_callSX (X : Cx p s m args c cc nL own G) (hM : MetX l y bytes maxL ret rm As G S post xp) (hm : MSw y bytes maxL ret n) (hl : Cond.methodLink own index y ∈ lw_all) (hR : rm.frames + 1 ≤ R.frames ∧ 8 + (maxL + 11) + rm.locals ≤ R.locals) (hn : As.length = n) (hst : st = As.reverse ++ rest) (hr : rest.length ≤ 4) (d : decode cc pc = .ok (.invokestatic index, 3)) (hf : k + rm.cells ≤ R.cells ∧ j + rm.slots ≤ R.slots)
    (K : ∀ (v : Option Value) (S' : MS), post v S' → Gd p l e R s m args below meth c nL G Q (k + rm.cells) (j + rm.slots) S' (pc + 3) E (v.toList ++ rest))
    (KX : ∀ (Ex : String) (S' : MS), Ex ∈ excs → xp Ex S' → ∀ (H1 : Heap) (locs1 : List Loc) (la : Array Slot) (q : Addr) (ce : Cell), HR G S' H1 → va_S (Ab G) s.heap H1 locs1 → lv_has la nL E → H1[q]? = some ce → ce.vm = .none → s.vm.findClass Ex = some ce.cls → vx_W p l e R s m args below meth c H1 locs1 (k + rm.cells) (j + rm.slots) Q (F0 m pc la rest) q) : Gd p l e R s m args below meth c nL G Q k j S pc E st := fun H locs la hH hS hl2 => by
  subst hst
  refine gd_backX (a0 := As.toArray) hS hl2 (vx_runS X.fix hM ⟨cwB_of X hm.2.1 hm.2.2.1 hm.2.2.2 hl hR, X.2.2.2.2.1 _ hm.1⟩ ⟨pc_blind G S _, fun U hU hW => X.pre hH hS rfl hU hW⟩ rfl hn hl2.1 rfl (lv_room ?_) d hf) K (fun Ex S' hE hp H1 locs1 q ce h1 h2 => KX Ex S' hE hp H1 locs1 la q ce h1 h2 hl2)
  have := cat_sum rest
  omega
theorem gd_callSN (X : Cx p s m args c cc nL own G) {host : String} (hM : MetM l y bytes maxL ret rm As G S post) (hm : MSw y bytes maxL ret n) (hl : (own, index, y, host) ∈ nest) (hR : rm.frames + 1 ≤ R.frames ∧ 8 + (maxL + 11) + rm.locals ≤ R.locals) (hn : As.length = n) (hst : st = As.reverse ++ rest) (hr : rest.length ≤ 4) (d : decode cc pc = .ok (.invokestatic index, 3)) (hf : k + rm.cells ≤ R.cells ∧ j + rm.slots ≤ R.slots)
    (K : ∀ (v : Option Value) (S' : MS), post v S' → Gd p l e R s m args below meth c nL G Q (k + rm.cells) (j + rm.slots) S' (pc + 3) E (v.toList ++ rest)) : Gd p l e R s m args below meth c nL G Q k j S pc E st := fun H locs la hH hS hl2 => by
  subst hst
  refine gd_back (a0 := As.toArray) hS hl2 (va_runSN X.fix hM ⟨va_cnB (host := host) (ws' := lw_all) n X.2.2.2.2.1 (fun w hw => ?_) rfl rfl rfl (X.2.2.2.2.2.1.2.2.2.2.1 _ hl) (X.2.2.2.2.1 _ hm.2.1) hm.2.2.2 hR, X.2.2.2.2.1 _ hm.1, trivial⟩ ⟨pc_blind G S _, fun U hU hW => X.pre hH hS rfl hU hW⟩ rfl hn hl2.1 rfl (lv_room ?_) d hf) K
  · rcases List.mem_cons.mp hw with rfl | hw
    · exact lw_goodIn hm.2.2.1
    · exact lw_goodIn hw
  · have := cat_sum rest
    omega
theorem gd_callI (X : Cx p s m args c cc nL own G) (hM : MetM l y bytes maxL none rm (rf a :: As) G S post) (hm : MIw y bytes maxL n) (hl : Cond.methodLink own index y ∈ lw_all) (ha : kT S a ≠ 0) (hR : rm.frames + 1 ≤ R.frames ∧ 8 + (maxL + 11) + rm.locals ≤ R.locals) (hn : As.length = n) (hst : st = As.reverse ++ rf a :: rest) (hr : rest.length ≤ 4) (d : decode cc pc = .ok (.invokespecial index, 3)) (hf : k + rm.cells ≤ R.cells ∧ j + rm.slots ≤ R.slots)
    (K : ∀ (v : Option Value) (S' : MS), post v S' → Gd p l e R s m args below meth c nL G Q (k + rm.cells) (j + rm.slots) S' (pc + 3) E (v.toList ++ rest)) : Gd p l e R s m args below meth c nL G Q k j S pc E st := fun H locs la hH hS hl2 => by
  have ha0 : rf a = .ref a := rf_ne (Cx.ne X hH ha)
  subst hst
  rw [ha0] at hM ⊢
  refine gd_back (a0 := (Value.ref a :: As).toArray) hS hl2 (va_runI X.fix hM ⟨cwB_of X hm.2.1 hm.2.2.1 ⟨hm.2.2.2.1, hm.2.2.2.2.1, hm.2.2.2.2.2.1⟩ hl hR, hm.2.2.2.2.2.2, X.2.2.2.2.1 _ hm.1⟩ ⟨pc_blind G S _, fun U hU hW => X.pre hH hS rfl hU hW⟩ rfl hn hl2.1 rfl (lv_room ?_) d hf) K
  have := cat_sum rest
  omega
theorem gd_objInit (X : Cx p s m args c cc nL own G) (ha : kT S a ≠ 0) (hl : Cond.methodLink own index objectInit ∈ lw_all) (h2 : Cond.instanceMethod objectInit ∈ lw_all) (h3 : Cond.code objectInit ⟨#[0xb1]⟩ 1 none ∈ lw_all) (d : decode cc pc = .ok (.invokespecial index, 3)) (hr : st.length ≤ 4) (hR : 1 ≤ R.frames ∧ 20 ≤ R.locals) (K : Gd p l e R s m args below meth c nL G Q k j S (pc + 3) E st) : Gd p l e R s m args below meth c nL G Q k j S pc E (rf a :: st) := fun H locs la hH hS hl2 => by
  rw [rf_ne (Cx.ne X hH ha)]
  refine W.objInit X.1 X.2.1 X.2.2.2.1 (X.2.2.2.2.1 _ hl) (X.2.2.2.2.1 _ h2) (X.2.2.2.2.1 _ h3) rfl (by rw [X.2.2.1]; exact hl2.1) rfl d hR.1 ?_ (K H locs la hH hS hl2)
  have := cat_sum st
  show 2 * 0 + _ + 12 ≤ _
  omega
end CALLS
end
section
/-! entries, ends, throws, catches; new cells; arrays of references; natives -/
def lv1 : Nat → List Value → List (Nat × Value)
  | _, [] => []
  | i, v :: vs => (i, v) :: lv1 (i + 1) vs
theorem lv1_args : ∀ (vs : List Value) (i : Nat), (∀ v ∈ vs, v.category = 1) → lv_args i vs = lv1 i vs
  | [], _, _ => rfl
  | v :: vs, i, h => by
    have h1 := h v List.mem_cons_self
    rw [lv_args, lv1, if_neg (by rw [h1]; decide), lv1_args vs (i + 1) (fun x hx => h x (List.mem_cons_of_mem _ hx))]
theorem lg_len : ∀ (vs : List Value), (∀ v ∈ vs, v.category = 1) → (lg_sl vs).length = vs.length
  | [], _ => rfl
  | v :: vs, h => by
    have h1 := h v List.mem_cons_self
    have h2 := lg_len vs (fun x hx => h x (List.mem_cons_of_mem _ hx))
    unfold lg_sl at h2 ⊢
    rw [List.flatMap_cons, List.length_append, h2, if_neg (by rw [h1]; decide)]
    simp [Nat.add_comm]
def cat1 : List Value → Prop
  | [] => True
  | v :: vs => v.category = 1 ∧ cat1 vs
theorem cat1_all : ∀ {vs : List Value}, cat1 vs → ∀ v ∈ vs, v.category = 1
  | [], _, _, h => by cases h
  | v :: vs, hc, w, h => by
    rcases List.mem_cons.mp h with rfl | h
    · exact hc.1
    · exact cat1_all hc.2 w h
theorem cat1_i {x : Int32} {vs : List Value} (h : cat1 vs) : cat1 (.int x :: vs) := ⟨rfl, h⟩
theorem cat1_r {a : Nat} {vs : List Value} (h : cat1 vs) : cat1 (rf a :: vs) := ⟨rf_cat a, h⟩
theorem cat1_n : cat1 [] := trivial
def MetW (l : Launch) (y : MethodName) (bytes : ByteArray) (maxL : Nat) (ret : Option FieldType) (hh : List (Nat × Nat × Nat × Nat)) (rm : Room) (as : List Value) (G : GP) (S : MS) (post : Option Value → MS → Prop) : Prop := vx_Met l y (Cond.codeWith y bytes maxL ret hh :: lw_all) rm (PcM G S as) (QcM G post) (XcM G (fun _ _ => False)) rm.cells rm.slots (Ab G)
section ENTRY
variable {l : Launch} {y : MethodName} {bytes : ByteArray} {maxL : Nat} {ret : Option FieldType} {rm : Room} {as : List Value} {G : GP} {S : MS} {post : Option Value → MS → Prop} {xp : String → MS → Prop}
theorem met_of (hy : plainName y.cls = true) (hc : cat1 as) (hlen : as.length ≤ maxL)
    (body : ∀ (p : Program) (e : Env) (s : State) (m : MethodId) (args : Array Value) (below : List Frame) (meth : Method) (c : Code), Cx p s m args c bytes maxL y.cls G → meth.sig.returnType = ret → meth.locks = false → meth.name = y.name →
      Gd p l e rm s m args below meth c maxL G (MQ below (QcM G post) args s rm.cells rm.slots (Ab G)) 0 0 S 0 (lv1 0 as) []) : MetM l y bytes maxL ret rm as G S post := by
  refine Met.ofW (cc := bytes) (maxL := maxL) (ret := ret) hy rfl ?_
  intro p e s m args below meth c s₁ B hml hv
  obtain ⟨rfl, hH, hWI, h1, h2⟩ := hv
  have hts := atoms_spec (ws := Cond.code y bytes maxL ret :: lw_all) B.pre
  have hown : s.vm.findClass y.cls = some m.cls := findClass_of_methodNamed B.named
  have hl := lv_entry as (n := maxL) (by rw [lg_len as (cat1_all hc)]; exact hlen)
  rw [lg_entry_eq]
  rw [lv1_args as 0 (cat1_all hc)] at hl
  exact body p e s m as.toArray below meth c ⟨B.exec, B.bytes, hml, hown, fun w hw => hts w (List.mem_cons_of_mem _ hw), hWI, h1, h2⟩ B.returns B.notSynchronized (name_of_methodNamed B.named B.method).1 s.heap [] _ hH va_S.rf hl
theorem metX_of (hy : plainName y.cls = true) (hc : cat1 as) (hlen : as.length ≤ maxL)
    (body : ∀ (p : Program) (e : Env) (s : State) (m : MethodId) (args : Array Value) (below : List Frame) (meth : Method) (c : Code), Cx p s m args c bytes maxL y.cls G → meth.sig.returnType = ret → meth.locks = false → (∀ x ∈ c.exceptionTable.toList, False) →
      Gd p l e rm s m args below meth c maxL G (vx_MQ below (QcM G post) (XcM G xp) args s rm.cells rm.slots (Ab G)) 0 0 S 0 (lv1 0 as) []) : MetX l y bytes maxL ret rm as G S post xp := by
  refine vx_ofW (cc := bytes) (maxL := maxL) (ret := ret) hy rfl ?_
  intro p e s m args below meth c s₁ B hml ht hv
  obtain ⟨rfl, hH, hWI, h1, h2⟩ := hv
  have hts := atoms_spec (ws := Cond.code y bytes maxL ret :: lw_all) B.pre
  have hown : s.vm.findClass y.cls = some m.cls := findClass_of_methodNamed B.named
  have hl := lv_entry as (n := maxL) (by rw [lg_len as (cat1_all hc)]; exact hlen)
  rw [lg_entry_eq]
  rw [lv1_args as 0 (cat1_all hc)] at hl
  exact body p e s m as.toArray below meth c ⟨B.exec, B.bytes, hml, hown, fun w hw => hts w (List.mem_cons_of_mem _ hw), hWI, h1, h2⟩ B.returns B.notSynchronized ht s.heap [] _ hH va_S.rf hl
theorem metW_of {hh : List (Nat × Nat × Nat × Nat)} (hy : plainName y.cls = true) (hc : cat1 as) (hlen : as.length ≤ maxL)
    (body : ∀ (p : Program) (e : Env) (s : State) (m : MethodId) (args : Array Value) (below : List Frame) (meth : Method) (c : Code), Cx p s m args c bytes maxL y.cls G → meth.sig.returnType = ret → meth.locks = false → c.exceptionTable.toList = tableOf hh →
      Gd p l e rm s m args below meth c maxL G (vx_MQ below (QcM G post) (XcM G (fun _ _ => False)) args s rm.cells rm.slots (Ab G)) 0 0 S 0 (lv1 0 as) []) : MetW l y bytes maxL ret hh rm as G S post := by
  refine vx_ofWH (cc := bytes) (maxL := maxL) (ret := ret) (hh := hh) hy rfl ?_
  intro p e s m args below meth c s₁ B hml hv
  obtain ⟨rfl, hH, hWI, h1, h2⟩ := hv
  have hts := atoms_spec (ws := Cond.codeWith y bytes maxL ret hh :: lw_all) B.pre
  have hown : s.vm.findClass y.cls = some m.cls := findClass_of_methodNamed B.named
  have hl := lv_entry as (n := maxL) (by rw [lg_len as (cat1_all hc)]; exact hlen)
  rw [lg_entry_eq]
  rw [lv1_args as 0 (cat1_all hc)] at hl
  exact body p e s m as.toArray below meth c ⟨B.exec, B.bytes, hml, hown, fun w hw => hts w (List.mem_cons_of_mem _ hw), hWI, h1, h2⟩ B.returns B.notSynchronized (vx_table (x := y) B (hts _ List.mem_cons_self)) s.heap [] _ hH va_S.rf hl
end ENTRY
section ENDS
variable {p : Program} {l : Launch} {e : Env} {R : Room} {s : State} {m : MethodId} {args : Array Value} {below : List Frame} {meth : Method} {c : Code} {Q : State → Prop}
variable {cc : ByteArray} {nL : Nat} {own : String} {G : GP} {k j mc ms : Nat} {S : MS} {pc : Nat} {E : List (Nat × Value)} {st rest : List Value} {post : Option Value → MS → Prop} {xp : String → MS → Prop}
/-- a value on return: what W's rows want of it -/
theorem gd_ret_i (X : Cx p s m args c cc nL own G) {ty : FieldType} {v : Int32} (hr : meth.sig.returnType = some ty) (hlk : meth.locks = false) (hn : narrow ty (.int v) = .int v) (hk : k ≤ mc) (hj : j ≤ ms) (d : decode cc pc = .ok (.ireturn, 1)) (h : post (some (.int v)) S) : Gd p l e R s m args below meth c nL G (MQ below (QcM G post) args s mc ms (Ab G)) k j S pc E [.int v] := fun H locs la hH hS _ =>
  W.widen hk hj (W.zret X.1 X.2.1 hr hn (fun t ht hW => ⟨_, S, rfl, h, by rw [ht]; exact hH, hS.F ht⟩) hS.2.2 d hlk)
theorem gd_ret_v (X : Cx p s m args c cc nL own G) (hr : meth.sig.returnType = none) (hlk : meth.locks = false) (hk : k ≤ mc) (hj : j ≤ ms) (d : decode cc pc = .ok (.return_, 1)) (h : post none S) : Gd p l e R s m args below meth c nL G (MQ below (QcM G post) args s mc ms (Ab G)) k j S pc E [] := fun H locs la hH hS _ =>
  W.widen hk hj (W.vret X.1 X.2.1 hr (fun t ht hW => ⟨_, S, rfl, h, by rw [ht]; exact hH, hS.F ht⟩) hS.2.2 d hlk)
theorem gd_ret_d (X : Cx p s m args c cc nL own G) {v : UInt64} (hr : meth.sig.returnType = some .double) (hlk : meth.locks = false) (hk : k ≤ mc) (hj : j ≤ ms) (d : decode cc pc = .ok (.dreturn, 1)) (h : post (some (.double v)) S) : Gd p l e R s m args below meth c nL G (MQ below (QcM G post) args s mc ms (Ab G)) k j S pc E [.double v] := fun H locs la hH hS _ =>
  W.widen hk hj (W.dret X.1 X.2.1 hr (fun t ht hW => ⟨_, S, rfl, h, by rw [ht]; exact hH, hS.F ht⟩) hS.2.2 d hlk)
theorem gd_ret_f (X : Cx p s m args c cc nL own G) {v : UInt32} (hr : meth.sig.returnType = some .float) (hlk : meth.locks = false) (hk : k ≤ mc) (hj : j ≤ ms) (d : decode cc pc = .ok (.freturn, 1)) (h : post (some (.float v)) S) : Gd p l e R s m args below meth c nL G (MQ below (QcM G post) args s mc ms (Ab G)) k j S pc E [.float v] := fun H locs la hH hS _ =>
  W.widen hk hj (W.fret X.1 X.2.1 hr (fun t ht hW => ⟨_, S, rfl, h, by rw [ht]; exact hH, hS.F ht⟩) hS.2.2 d hlk)
theorem gd_ret_a (X : Cx p s m args c cc nL own G) {ty : FieldType} {a : Nat} (hr : meth.sig.returnType = some ty) (hrt : (∃ n, ty = .object n) ∨ ∃ t, ty = .array t) (hlk : meth.locks = false) (hk : k ≤ mc) (hj : j ≤ ms) (d : decode cc pc = .ok (.areturn, 1)) (h : post (some (rf a)) S) : Gd p l e R s m args below meth c nL G (MQ below (QcM G post) args s mc ms (Ab G)) k j S pc E [rf a] := fun H locs la hH hS _ =>
  W.widen hk hj (W.aret X.1 X.2.1 hr hrt (by
    by_cases ha : a = 0
    · subst ha; exact Or.inl rf_0
    · exact Or.inr ⟨a, rf_ne ha⟩) (fun t ht hW => ⟨_, S, rfl, h, by rw [ht]; exact hH, hS.F ht⟩) hS.2.2 d hlk)
/-- the same ends in a method that may throw -/
theorem gd_x (K : Gd p l e R s m args below meth c nL G (MQ below (QcM G post) args s mc ms (Ab G)) k j S pc E st) : Gd p l e R s m args below meth c nL G (vx_MQ below (QcM G post) (XcM G xp) args s mc ms (Ab G)) k j S pc E st := fun H locs la hH hS hl => vx_ret (K H locs la hH hS hl)
theorem HR_kept {H H1 : Heap} (hH : HR G S H) (h : ∀ q : Nat, q < H.size → H1[q]? = H[q]?) : HR G S H1 := by
  obtain ⟨L, hL, hP, hD⟩ := hH
  exact ⟨L, hL, hP.kept (fun k q hq => h q.1 (hP k q hq).lt), hD⟩
theorem gd_xout (hlk : meth.locks = false) (ht : ∀ x ∈ c.exceptionTable.toList, False) (hk : k ≤ mc) (hj : j ≤ ms) {Ex : String} {S' : MS} (hE : Ex ∈ excs) (hp : xp Ex S') {H1 : Heap} {locs1 : List Loc} {la : Array Slot} {q : Addr} {ce : Cell} (hH : HR G S' H1) (hS : va_S (Ab G) s.heap H1 locs1) (hce : H1[q]? = some ce) (hcv : ce.vm = .none) (hcl : s.vm.findClass Ex = some ce.cls) : vx_W p l e R s m args below meth c H1 locs1 k j (vx_MQ below (QcM G post) (XcM G xp) args s mc ms (Ab G)) (F0 m pc la rest) q :=
  vx_out (fun x hx => (ht x hx).elim) hlk hce hcv hcl (fun t h1 h2 => ⟨S', hE, hp, by rw [h1]; exact hH, hS.F h1⟩) hS.2.2 hk hj
def xnames : List String := ["java/lang/RuntimeException", "java/lang/Exception"]
/-- the words of a throw of the class Ex by the method's class own, its constructor at ic -/
def THw (own : String) (ik is ic : Nat) (Ex text : String) : Prop := Ex ∈ excs ∧ Bundle.fit Ex = true ∧ Cond.classLink own ik Ex ∈ lw_all ∧ Cond.initialized Ex ∈ lw_all ∧ (own, is, text) ∈ strs ∧ (∀ w ∈ (vx_atS own ic Ex xnames).filter goodWord, w ∈ lw_all) ∧ (∀ w ∈ (vx_atS own ic Ex xnames).filter (fun w => !goodWord w), w ∈ odd) ∧ (∀ w ∈ Cond.classLink own ik Ex :: Cond.initialized Ex :: vx_atS own ic Ex xnames, vx_ot w = true)
theorem xnames_fit : ∀ n ∈ xnames, Bundle.fit n = true := by decide +kernel
theorem odd_args {args : Array Value} {s : State} (h : ∀ w ∈ odd, w.before #[] s = true) : ∀ w ∈ odd, w.before args s = true := fun w hw => va_Nw.use (odd_ok w hw).2 (h w hw)
theorem gd_throw (hfl : l.stackTraces = false) (X : Cx p s m args c cc nL own G) (hlk : meth.locks = false) (ht : ∀ x ∈ c.exceptionTable.toList, False) {Ex text : String} {ik is ic : Nat} (hw : THw own ik is ic Ex text) (d0 : decode cc pc = .ok (.new ik, 3)) (d3 : decode cc (pc + 3) = .ok (.dup, 1)) (d4 : decode cc (pc + 4) = .ok (.ldc is, 2)) (d6 : decode cc (pc + 6) = .ok (.invokespecial ic, 3)) (d9 : decode cc (pc + 9) = .ok (.athrow, 1))
    (hR : 6 ≤ R.frames ∧ 100 ≤ R.locals ∧ k + 1 ≤ R.cells ∧ j + 6 ≤ R.slots) (hst : st.length ≤ 4) (hk : k + 1 ≤ mc) (hj : j + 6 ≤ ms) (h : xp Ex S) : Gd p l e R s m args below meth c nL G (vx_MQ below (QcM G post) (XcM G xp) args s mc ms (Ab G)) k j S pc E st := fun H locs la hH hS hl => by
  obtain ⟨w0, w1, w2, w3, w4, w5, w6, w7⟩ := hw
  obtain ⟨sa, hstr⟩ := X.2.2.2.2.2.1.2.2.2.1 _ w4
  have hcs := cat_sum st
  refine vx_throwS X.1 X.2.1 hfl X.2.2.2.1 w1 xnames_fit (X.2.2.2.2.1 _ w2) (X.2.2.2.2.1 _ w3) hstr (vx_hat (fun w hw => X.2.2.2.2.1 w (w5 w hw)) w6 (odd_args X.2.2.2.2.2.1.2.2.2.2.2.2.2.2)) w7 X.2.2.2.2.2.1.2.1 X.2.2.2.2.2.1.2.2.1 hS (by rw [X.2.2.1]; exact hl.1) d0 d3 d4 d6 d9 (fun x hx => (ht x hx).elim) ?_ ?_ hR.2.2.1 hR.2.2.2 hlk ?_ hS.2.2 hk hj
  · show 2 + 3 < _
    omega
  · show _ + (13 * (2 + 1) + 43) ≤ _
    omega
  · intro t h1 h2 h3
    exact ⟨S, w0, h, HR_kept hH h3, Nat.le_trans hS.1 h2, fun q hq hA => (h3 q (Nat.lt_of_lt_of_le hq hS.1)).trans (hS.2.1 q hq hA)⟩
theorem gd_throwW (hfl : l.stackTraces = false) (X : Cx p s m args c cc nL own G) (hlk : meth.locks = false) (ht : ∀ x ∈ c.exceptionTable.toList, False) {Ex text : String} {ik is ic : Nat} (hw : THw own ik is ic Ex text) (d0 : decode cc pc = .ok (.new ik, 3)) (d3 : decode cc (pc + 3) = .ok (.dup, 1)) (d4 : decode cc (pc + 4) = .ok (.ldc_w is, 3)) (d6 : decode cc (pc + 7) = .ok (.invokespecial ic, 3)) (d9 : decode cc (pc + 10) = .ok (.athrow, 1))
    (hR : 6 ≤ R.frames ∧ 100 ≤ R.locals ∧ k + 1 ≤ R.cells ∧ j + 6 ≤ R.slots) (hst : st.length ≤ 4) (hk : k + 1 ≤ mc) (hj : j + 6 ≤ ms) (h : xp Ex S) : Gd p l e R s m args below meth c nL G (vx_MQ below (QcM G post) (XcM G xp) args s mc ms (Ab G)) k j S pc E st := fun H locs la hH hS hl => by
  obtain ⟨w0, w1, w2, w3, w4, w5, w6, w7⟩ := hw
  obtain ⟨sa, hstr⟩ := X.2.2.2.2.2.1.2.2.2.1 _ w4
  have hcs := cat_sum st
  refine vx_throwSW X.1 X.2.1 hfl X.2.2.2.1 w1 xnames_fit (X.2.2.2.2.1 _ w2) (X.2.2.2.2.1 _ w3) hstr (vx_hat (fun w hw => X.2.2.2.2.1 w (w5 w hw)) w6 (odd_args X.2.2.2.2.2.1.2.2.2.2.2.2.2.2)) w7 X.2.2.2.2.2.1.2.1 X.2.2.2.2.2.1.2.2.1 hS (by rw [X.2.2.1]; exact hl.1) d0 d3 d4 d6 d9 (fun x hx => (ht x hx).elim) ?_ ?_ hR.2.2.1 hR.2.2.2 hlk ?_ hS.2.2 hk hj
  · show 2 + 3 < _
    omega
  · show _ + (13 * (2 + 1) + 43) ≤ _
    omega
  · intro t h1 h2 h3
    exact ⟨S, w0, h, HR_kept hH h3, Nat.le_trans hS.1 h2, fun q hq hA => (h3 q (Nat.lt_of_lt_of_le hq hS.1)).trans (hS.2.1 q hq hA)⟩
/-- an exception that comes over a call, caught by the place i of the method's table; its handler begins with a store -/
theorem gd_catch (X : Cx p s m args c cc nL own G) {Ex : String} {S' : MS} {H1 : Heap} {locs1 : List Loc} {la : Array Slot} {q : Addr} {ce : Cell} (pre : List ExceptionTableEntry) (x : ExceptionTableEntry) (suf : List ExceptionTableEntry) (hsplit : c.exceptionTable.toList = pre ++ x :: suf)
    (hpass : ∀ z ∈ pre, z.catchType ≠ 0 ∧ ∃ nm ∈ excs, Cond.classLink own z.catchType nm ∈ lw_all ∧ Ex ≠ nm) (hx : covers x pc = true) (h0 : x.catchType ≠ 0) (hlink : Cond.classLink own x.catchType Ex ∈ lw_all) (hE : Ex ∈ excs) (hcast : Cond.castable Ex Ex ∈ odd)
    {i hp len : Nat} (hhp : x.handlerPc = hp) (hst : ∀ (H : Heap) (locs : List Loc) {k j : Nat} {lv' : List (Nat × Value)}, (i, Value.ref q) :: E.filter (fun q => !(q.1 == i) && !(q.1 + 1 == i && q.2.category == 2)) = lv' → (∀ ls' : Array Slot, lv_has ls' nL lv' → W p l e R s m args below meth c H locs k j Q (F0 m (hp + len) ls' [])) → W p l e R s m args below meth c H locs k j Q (F0 m hp la [.ref q]))
    (hH : HR G S' H1) (hS : va_S (Ab G) s.heap H1 locs1) (hce : H1[q]? = some ce) (hcv : ce.vm = .none) (hcl : s.vm.findClass Ex = some ce.cls)
    (K : Gd p l e R s m args below meth c nL G Q k j S' (hp + len) [] []) : vx_W p l e R s m args below meth c H1 locs1 k j Q (F0 m pc la rest) q := by
  refine vx_catch X.2.2.2.1 pre x suf hsplit (fun z hz => ?_) hx h0 (X.2.2.2.2.1 _ hlink) (odd_args X.2.2.2.2.2.1.2.2.2.2.2.2.2.2 _ hcast) hce hcv hcl ?_
  · obtain ⟨z0, nm, hnm, hl, hne⟩ := hpass z hz
    exact Or.inr ⟨z0, nm, X.2.2.2.2.1 _ hl, X.2.2.2.2.2.1.2.2.2.2.2.2.2.1 Ex hE nm hnm hne⟩
  · rw [hhp]
    refine hst H1 locs1 rfl (fun ls' hl' => K H1 locs1 ls' hH hS (lv_sub hl' [] rfl))
end ENDS
section MAKES
variable {p : Program} {l : Launch} {e : Env} {R : Room} {s : State} {m : MethodId} {args : Array Value} {below : List Frame} {meth : Method} {c : Code} {Q : State → Prop}
variable {cc : ByteArray} {nL : Nat} {own : String} {G : GP} {k j : Nat} {S : MS} {pc : Nat} {E : List (Nat × Value)} {st rest : List Value} {a index : Nat}
theorem fv_new (S : MS) (q t n : Nat) : ∀ (bs : List Bool) (k0 : Nat), fv (nw S q t n) q k0 bs = bs.map (fun b => if b then .null else .int 0)
  | [], _ => rfl
  | b :: bs, k0 => by
    rw [fv, List.map_cons, fv_new S q t n bs (k0 + 1)]
    have e1 : sI (nw S q t n) q k0 = 0 := by simp [sI, nw]
    have e2 : sR (nw S q t n) q k0 = 0 := by simp [sR, nw]
    rw [e1, e2, rf_0]
theorem kT_nw (S : MS) (q t n : Nat) : kT (nw S q t n) q = t := by simp [kT, nw]
theorem kL_nw (S : MS) (q t n : Nat) : kL (nw S q t n) q = n := by simp [kL, nw]
theorem gd_new (X : Cx p s m args c cc nL own G) {ci N : Nat} {C : String} {T : u_T} {ty : Nat → FieldType} (hc : CI ci C T N ty) (h1 : Cond.classLink own index C ∈ lw_all) (h2 : Cond.instantiable C N ∈ lw_all) (h3 : Cond.initialized C ∈ lw_all) (hdef : ∀ i, i < N → defaultValue (ty i) = vp_V ((fl (ci + 1)).map (fun b => if b then .null else .int 0)) i) (d : decode cc pc = .ok (.new index, 3)) (hR : k + 1 ≤ R.cells ∧ j + N ≤ R.slots)
    (K : ∀ q : Nat, kT S q = 0 → q ≠ 0 → Gd p l e R s m args below meth c nL G Q (k + 1) (j + N) (nw S q (ci + 1) 0) (pc + 3) E (rf q :: st)) : Gd p l e R s m args below meth c nL G Q k j S pc E st := fun H locs la hH hS hl => by
  obtain ⟨L, hL, hP, hD⟩ := hH
  refine va_new X.1 X.2.1 X.2.2.2.2.1 hc.2.2.1 ty hc.2.2.2.1 X.2.2.2.1 (X.2.2.2.2.1 _ h1) (X.2.2.2.2.1 _ h2) (X.2.2.2.2.1 _ h3) X.2.2.2.2.2.1.1 hP hD hS X.A hc.2.1 hdef hR.1 hR.2 d (fun q H1 hP1 hD1 hS1 => ?_)
  obtain ⟨hq, hq0, hH1⟩ := HR_new (t := ci + 1) (n := 0) X.2.2.2.2.2.2.1 (by omega) hL hP1 hD1 (by rw [cell_o (kT_nw S q (ci + 1) 0) hc.1, fv_new])
  have := K q hq hq0 H1 locs la hH1 hS1 hl
  rw [rf_ne hq0] at this
  exact this
theorem cy_eq (X : Cx p s m args c cc nL own G) {cA : ClassId} {t0 : Nat} {ty : FieldType} (hK : va_K G.1 cls (tysOf G ++ [(cA, ty)]) s) (h : (tysOf G)[t0]? = some (G.2.1 (t0 + 8), ty)) : cA = G.2.1 (t0 + 8) := by
  have h1 := (X.2.2.2.2.2.1.1.2 t0 _ h).2
  have h2 := (hK.2 9 (cA, ty) rfl).2
  cases ty with
  | object C =>
    obtain ⟨_, _, -, -, -, g1⟩ := h1
    obtain ⟨_, _, -, -, -, g2⟩ := h2
    exact Option.some.inj (g2.symm.trans g1)
  | _ => exact Option.some.inj (Eq.trans (Eq.symm h2) h1)
theorem gd_newaC (X : Cx p s m args c cc nL own G) {N : Nat} {n : Int32} (h1 : Cond.arrayClass .char ∈ lw_all) (hn : ¬ n < 0) (hN : n.toNatClampNeg = N) (hb : N * 8 ≤ 536870912) (d : decode cc pc = .ok (.newarray .char, 2)) (hR : k + 1 ≤ R.cells ∧ j + N ≤ R.slots)
    (K : ∀ q : Nat, kT S q = 0 → q ≠ 0 → Gd p l e R s m args below meth c nL G Q (k + 1) (j + N) (nw S q 8 N) (pc + 2) E (rf q :: st)) : Gd p l e R s m args below meth c nL G Q k j S pc E (.int n :: st) := fun H locs la hH hS hl => by
  obtain ⟨L, hL, hP, hD⟩ := hH
  refine va_newa (atype := .char) (ty := .char) (a0 := (N, .inl (fun _ => 0))) X.1 X.2.1 (X.2.2.2.2.1 _ h1) rfl X.2.2.2.2.2.1.1 hP hD hS X.A (fun _ => rfl) hn hN (Nat.le_trans (Nat.mul_le_mul_left N (by decide)) hb) hR.1 hR.2 d (fun q cA H1 hK1 hP1 hD1 hS1 => ?_)
  have hcA := cy_eq X hK1 (t0 := 0) rfl
  subst hcA
  obtain ⟨hq, hq0, hH1⟩ := HR_new (t := 8) (n := N) X.2.2.2.2.2.2.1 (by omega) hL hP1 hD1 (by
    rw [cell_i (kT_nw S q 8 N) (by omega) (by omega), kL_nw]
    have e1 : sI (nw S q 8 N) q = fun _ => 0 := by funext i; simp [sI, nw]
    rw [e1])
  have := K q hq hq0 H1 locs la hH1 hS1 hl
  rw [rf_ne hq0] at this
  exact this
theorem gd_newaI (X : Cx p s m args c cc nL own G) {N : Nat} {n : Int32} (h1 : Cond.arrayClass .int ∈ lw_all) (hn : ¬ n < 0) (hN : n.toNatClampNeg = N) (hb : N * 8 ≤ 536870912) (d : decode cc pc = .ok (.newarray .int, 2)) (hR : k + 1 ≤ R.cells ∧ j + N ≤ R.slots)
    (K : ∀ q : Nat, kT S q = 0 → q ≠ 0 → Gd p l e R s m args below meth c nL G Q (k + 1) (j + N) (nw S q 9 N) (pc + 2) E (rf q :: st)) : Gd p l e R s m args below meth c nL G Q k j S pc E (.int n :: st) := fun H locs la hH hS hl => by
  obtain ⟨L, hL, hP, hD⟩ := hH
  refine va_newa (atype := .int) (ty := .int) (a0 := (N, .inl (fun _ => 0))) X.1 X.2.1 (X.2.2.2.2.1 _ h1) rfl X.2.2.2.2.2.1.1 hP hD hS X.A (fun _ => rfl) hn hN (Nat.le_trans (Nat.mul_le_mul_left N (by decide)) hb) hR.1 hR.2 d (fun q cA H1 hK1 hP1 hD1 hS1 => ?_)
  have hcA := cy_eq X hK1 (t0 := 1) rfl
  subst hcA
  obtain ⟨hq, hq0, hH1⟩ := HR_new (t := 9) (n := N) X.2.2.2.2.2.2.1 (by omega) hL hP1 hD1 (by
    rw [cell_i (kT_nw S q 9 N) (by omega) (by omega), kL_nw]
    have e1 : sI (nw S q 9 N) q = fun _ => 0 := by funext i; simp [sI, nw]
    rw [e1])
  have := K q hq hq0 H1 locs la hH1 hS1 hl
  rw [rf_ne hq0] at this
  exact this
theorem gd_newaZ (X : Cx p s m args c cc nL own G) {N : Nat} {n : Int32} (h1 : Cond.arrayClass .boolean ∈ lw_all) (hn : ¬ n < 0) (hN : n.toNatClampNeg = N) (hb : N * 8 ≤ 536870912) (d : decode cc pc = .ok (.newarray .boolean, 2)) (hR : k + 1 ≤ R.cells ∧ j + N ≤ R.slots)
    (K : ∀ q : Nat, kT S q = 0 → q ≠ 0 → Gd p l e R s m args below meth c nL G Q (k + 1) (j + N) (nw S q 10 N) (pc + 2) E (rf q :: st)) : Gd p l e R s m args below meth c nL G Q k j S pc E (.int n :: st) := fun H locs la hH hS hl => by
  obtain ⟨L, hL, hP, hD⟩ := hH
  refine va_newa (atype := .boolean) (ty := .boolean) (a0 := (N, .inl (fun _ => 0))) X.1 X.2.1 (X.2.2.2.2.1 _ h1) rfl X.2.2.2.2.2.1.1 hP hD hS X.A (fun _ => rfl) hn hN (Nat.le_trans (Nat.mul_le_mul_left N (by decide)) hb) hR.1 hR.2 d (fun q cA H1 hK1 hP1 hD1 hS1 => ?_)
  have hcA := cy_eq X hK1 (t0 := 2) rfl
  subst hcA
  obtain ⟨hq, hq0, hH1⟩ := HR_new (t := 10) (n := N) X.2.2.2.2.2.2.1 (by omega) hL hP1 hD1 (by
    rw [cell_i (kT_nw S q 10 N) (by omega) (by omega), kL_nw]
    have e1 : sI (nw S q 10 N) q = fun _ => 0 := by funext i; simp [sI, nw]
    rw [e1])
  have := K q hq hq0 H1 locs la hH1 hS1 hl
  rw [rf_ne hq0] at this
  exact this
theorem gd_newaL (X : Cx p s m args c cc nL own G) {N : Nat} {n : Int32} (h1 : Cond.arrayClass .long ∈ lw_all) (hn : ¬ n < 0) (hN : n.toNatClampNeg = N) (hb : N * 8 ≤ 536870912) (d : decode cc pc = .ok (.newarray .long, 2)) (hR : k + 1 ≤ R.cells ∧ j + N ≤ R.slots)
    (K : ∀ q : Nat, kT S q = 0 → q ≠ 0 → Gd p l e R s m args below meth c nL G Q (k + 1) (j + N) (nw S q 15 N) (pc + 2) E (rf q :: st)) : Gd p l e R s m args below meth c nL G Q k j S pc E (.int n :: st) := fun H locs la hH hS hl => by
  obtain ⟨L, hL, hP, hD⟩ := hH
  refine va_newa (atype := .long) (ty := .long) (a0 := (N, .inr (.inl (fun _ => 0)))) X.1 X.2.1 (X.2.2.2.2.1 _ h1) rfl X.2.2.2.2.2.1.1 hP hD hS X.A (fun _ => rfl) hn hN (Nat.le_trans (Nat.mul_le_mul_left N (by decide)) hb) hR.1 hR.2 d (fun q cA H1 hK1 hP1 hD1 hS1 => ?_)
  have hcA := cy_eq X hK1 (t0 := 7) rfl
  subst hcA
  obtain ⟨hq, hq0, hH1⟩ := HR_new (t := 15) (n := N) X.2.2.2.2.2.2.1 (by omega) hL hP1 hD1 (by
    rw [cell_l (kT_nw S q 15 N), kL_nw]
    have e1 : sL (nw S q 15 N) q = fun _ => 0 := by funext i; simp [sL, nw]
    rw [e1])
  have := K q hq hq0 H1 locs la hH1 hS1 hl
  rw [rf_ne hq0] at this
  exact this
theorem gd_newaD (X : Cx p s m args c cc nL own G) {N : Nat} {n : Int32} (h1 : Cond.arrayClass .double ∈ lw_all) (hn : ¬ n < 0) (hN : n.toNatClampNeg = N) (hb : N * 8 ≤ 536870912) (d : decode cc pc = .ok (.newarray .double, 2)) (hR : k + 1 ≤ R.cells ∧ j + N ≤ R.slots)
    (K : ∀ q : Nat, kT S q = 0 → q ≠ 0 → Gd p l e R s m args below meth c nL G Q (k + 1) (j + N) (nw S q 16 N) (pc + 2) E (rf q :: st)) : Gd p l e R s m args below meth c nL G Q k j S pc E (.int n :: st) := fun H locs la hH hS hl => by
  obtain ⟨L, hL, hP, hD⟩ := hH
  refine va_newa (atype := .double) (ty := .double) (a0 := (N, .inr (.inr (.inr (.inl (fun _ => 0)))))) X.1 X.2.1 (X.2.2.2.2.1 _ h1) rfl X.2.2.2.2.2.1.1 hP hD hS X.A (fun _ => rfl) hn hN (Nat.le_trans (Nat.mul_le_mul_left N (by decide)) hb) hR.1 hR.2 d (fun q cA H1 hK1 hP1 hD1 hS1 => ?_)
  have hcA := cy_eq X hK1 (t0 := 8) rfl
  subst hcA
  obtain ⟨hq, hq0, hH1⟩ := HR_new (t := 16) (n := N) X.2.2.2.2.2.2.1 (by omega) hL hP1 hD1 (by
    rw [cell_d (kT_nw S q 16 N), kL_nw]
    have e1 : sD (nw S q 16 N) q = fun _ => 0 := by funext i; simp [sD, nw]
    rw [e1])
  have := K q hq hq0 H1 locs la hH1 hS1 hl
  rw [rf_ne hq0] at this
  exact this
theorem gd_anew (X : Cx p s m args c cc nL own G) {t N : Nat} {n : Int32} {C : String} (h1 : Cond.classLink own index C ∈ lw_all) (hC : C ∈ [RX0, RX2, RX4]) (ht : (tysOf G)[t]? = some (G.2.1 (t + 8), .object C)) (ht1 : 3 ≤ t) (ht2 : t ≤ 5) (hn : ¬ n < 0) (hN : n.toNatClampNeg = N) (hb : N * 4 ≤ 536870912) (d : decode cc pc = .ok (.anewarray index, 3)) (hR : k + 1 ≤ R.cells ∧ j + N ≤ R.slots)
    (K : ∀ q : Nat, kT S q = 0 → q ≠ 0 → Gd p l e R s m args below meth c nL G Q (k + 1) (j + N) (nw S q (t + 8) N) (pc + 3) E (rf q :: st)) : Gd p l e R s m args below meth c nL G Q k j S pc E (.int n :: st) := fun H locs la hH hS hl => by
  obtain ⟨L, hL, hP, hD⟩ := hH
  refine va_newq X.1 X.2.1 X.2.2.2.1 (X.2.2.2.2.1 _ h1) (X.2.2.2.2.2.1.2.2.2.2.2.1 C hC) X.2.2.2.2.2.1.1 hP hD hS X.A hn hN hb hR.1 hR.2 d (fun q cA H1 hK1 hP1 hD1 hS1 => ?_)
  have hcA := cy_eq X hK1 (t0 := t) ht
  subst hcA
  obtain ⟨hq, hq0, hH1⟩ := HR_new (t := t + 8) (n := N) X.2.2.2.2.2.2.1 (by omega) hL hP1 hD1 (by
    rw [cell_q (kT_nw S q (t + 8) N) (by omega) (by omega), kL_nw]
    have e1 : (fun i => op (sR (nw S q (t + 8) N) q i)) = fun _ => none := by funext i; simp [sR, nw, op]
    rw [e1])
  have := K q hq hq0 H1 locs la hH1 hS1 hl
  rw [rf_ne hq0] at this
  exact this
theorem gd_aald (X : Cx p s m args c cc nL own G) {a t : Nat} {i : Int32} {ty : FieldType} (ht : (tysOf G)[t]? = some (G.2.1 (t + 8), ty)) (hty : ty.isReference = true) (ht1 : 3 ≤ t) (ht2 : t ≤ 6) (d : decode cc pc = .ok (.aaload, 1)) (ha : kT S a = t + 8) (hi : vp_in i (kL S a)) (K : Gd p l e R s m args below meth c nL G Q k j S (pc + 1) E (rf (sR S a (ix i)) :: st)) : Gd p l e R s m args below meth c nL G Q k j S pc E (.int i :: rf a :: st) := fun H locs la hH hS hl => by
  obtain ⟨L, q, hL, hP, hD, hm, hq⟩ := HR_at hH (a := a) (by rw [ha]; omega)
  rw [cell_q ha (by omega) (by omega)] at hq
  rw [rf_ne (a := a) (Cx.ne X hH (by rw [ha]; omega))]
  have hlt : i.toNatClampNeg < kL S a := Nat.not_le.mp fun q => hi (Or.inr q)
  exact W.aald (v := rf (sR S a (ix i))) (ty := ty) X.1 X.2.1 (hP q _ hq) ((X.2.2.2.2.2.1.1.2 t _ ht).1 (kL S a) (fun j => va_rf (op (sR S a j)))) hty (fun q => by cases q) (by show ¬ (i < 0 ∨ (arrV _ _ _).slots.size ≤ _); rw [arrV_size]; exact hi) (by show (arrV _ _ _).slots[_]? = _; rw [arrV_read _ _ hlt]; rfl) rfl rfl d (K H locs la hH hS hl)
theorem gd_aast (X : Cx p s m args c cc nL own G) {a t v ci : Nat} {i : Int32} {C : String} {T : u_T} {N : Nat} {ty : Nat → FieldType} (hc : CI ci C T N ty) (ht : (tysOf G)[t]? = some (G.2.1 (t + 8), .object C)) (ht1 : 3 ≤ t) (ht2 : t ≤ 6) (d : decode cc pc = .ok (.aastore, 1)) (ha : kT S a = t + 8) (hv : kT S v = ci + 1) (hi : vp_in i (kL S a)) (K : Gd p l e R s m args below meth c nL G Q k j (pR S a (ix i) v) (pc + 1) E st) : Gd p l e R s m args below meth c nL G Q k j S pc E (rf v :: .int i :: rf a :: st) := fun H locs la hH hS hl => by
  obtain ⟨L, q, hL, hP, hD, hm, hq⟩ := HR_at hH (a := a) (by rw [ha]; omega)
  have hq0 := hq
  obtain ⟨qv, hqv⟩ := va_pl_get (X := []) (f := cellOf G.2.1 S) ((hL v).mpr (by rw [hv]; omega))
  have hqv : (va_pl L (cellOf G.2.1 S))[qv]? = some (v, cellOf G.2.1 S v) := hqv
  rw [cell_o hv hc.1] at hqv
  rw [cell_q ha (by omega) (by omega)] at hq
  have hv0 : v ≠ 0 := Cx.ne X hH (by rw [hv]; omega)
  rw [rf_ne (a := a) (Cx.ne X hH (by rw [ha]; omega)), rf_ne (a := v) hv0]
  refine va_astq X.1 X.2.1 X.2.2.2.2.2.1.1 hP hD hS q t qv ci hq ht hqv hc.2.1 hi d (fun H1 locs1 hP1 hD1 hS1 => ?_)
  refine K H1 locs1 la (HR_put hL hD hm hq0 hP1 hD1 (fun _ => rfl) ?_ (fun b hb => cell_pR hb)) hS1 hl
  rw [cell_q (S := pR S a (ix i) v) ha (by omega) (by omega)]
  congr 2
  congr 1
  congr 1
  congr 1
  congr 1
  congr 1
  funext z
  simp only [sR_pR, va_up, ix, if_pos]
  by_cases hz : z = i.toNatClampNeg
  · simp [hz, op_ne hv0]
  · simp [hz]
theorem gd_copy (X : Cx p s m args c cc nL own G) {a b : Nat} {sp dp n : Int32} (h1 : Cond.methodLink own index arraycopyName ∈ lw_all) (h2 : Cond.native arraycopyName ∈ lw_all) (h3 : Cond.static arraycopyName ∈ lw_all) (h4 : Cond.initialized "java/lang/System" ∈ lw_all) (d : decode cc pc = .ok (.invokestatic index, 3)) (ha : kT S a = 9) (hb : kT S b = 9) (n1 : ¬ sp < 0) (n2 : ¬ dp < 0) (n3 : ¬ n < 0) (n4 : ix sp + ix n ≤ kL S a) (n5 : ix dp + ix n ≤ kL S b) (hR : 1 ≤ R.frames ∧ 100 ≤ R.locals) (hst : st.length ≤ 4)
    (K : Gd p l e R s m args below meth c nL G Q k j (S.1, fun x => if x = b then va_cpy (sI S a) (sI S b) (ix sp) (ix dp) (ix n) else sI S x, S.2.2) (pc + 3) E st) : Gd p l e R s m args below meth c nL G Q k j S pc E (.int n :: .int dp :: rf b :: .int sp :: rf a :: st) := fun H locs la hH hS hl => by
  obtain ⟨L, q, hL, hP, hD, hm, hq⟩ := HR_at hH (a := b) (by rw [hb]; omega)
  have hq0 := hq
  obtain ⟨qa, hqa⟩ := va_pl_get (X := []) (f := cellOf G.2.1 S) ((hL a).mpr (by rw [ha]; omega))
  have hqa : (va_pl L (cellOf G.2.1 S))[qa]? = some (a, cellOf G.2.1 S a) := hqa
  rw [cell_i ha (by omega) (by omega)] at hqa
  rw [cell_i hb (by omega) (by omega)] at hq
  rw [rf_ne (a := a) (Cx.ne X hH (by rw [ha]; omega)), rf_ne (a := b) (Cx.ne X hH (by rw [hb]; omega))]
  have hcs := cat_sum st
  refine va_copyi (ty := .int) X.1 X.2.1 (X.2.2.1.trans hl.1.symm) X.2.2.2.1 (X.2.2.2.2.1 _ h1) (X.2.2.2.2.1 _ h2) (X.2.2.2.2.1 _ h3) (X.2.2.2.2.1 _ h4) X.2.2.2.2.2.1.1 hP hD hS qa q 1 1 hqa hq rfl rfl rfl n1 n2 n3 n4 n5 (fun _ _ => rfl) hR.1 (Nat.le_trans (Nat.add_le_add_right (show _ ≤ 8 by omega) _) (Nat.le_trans (show 8 + (nativeFrameWords "java/lang/System" "arraycopy" 5 + 11) ≤ 100 by decide +kernel) hR.2)) d (fun H1 locs1 hP1 hD1 hS1 => ?_)
  refine K H1 locs1 la (HR_put hL hD hm hq0 hP1 hD1 (fun _ => rfl) ?_ (fun x hx => ?_)) hS1 hl
  · rw [cell_i (S := (S.1, fun x => if x = b then va_cpy (sI S a) (sI S b) (ix sp) (ix dp) (ix n) else sI S x, S.2.2)) hb (by omega) (by omega)]
    simp only [sI, kL, ix, if_pos]
  · refine cell_congr rfl rfl ?_ rfl rfl rfl
    show (if x = b then _ else sI S x) = sI S x
    rw [if_neg hx]
theorem gd_max (X : Cx p s m args c cc nL own G) {x y : Int32} (h1 : Cond.methodLink own index Lib.Math.max.name ∈ lw_all) (h2 : Cond.static Lib.Math.max.name ∈ lw_all) (h3 : Cond.initialized "java/lang/Math" ∈ lw_all) (h4 : Cond.code Lib.Math.max.name Lib.Math.max.code 2 (some .int) ∈ lw_all) (d : decode cc pc = .ok (.invokestatic index, 3)) (hR : 1 ≤ R.frames ∧ 100 ≤ R.locals ∧ k ≤ R.cells ∧ j ≤ R.slots) (hst : st.length ≤ 4)
    (K : Gd p l e R s m args below meth c nL G Q k j S (pc + 3) E (.int (if x < y then y else x) :: st)) : Gd p l e R s m args below meth c nL G Q k j S pc E (.int y :: .int x :: st) := fun H locs la hH hS hl => by
  have hcs := cat_sum st
  exact va_mmax X.1 X.2.1 (X.2.2.1.trans hl.1.symm) X.2.2.2.1 (X.2.2.2.2.1 _ h1) (X.2.2.2.2.1 _ h2) (X.2.2.2.2.1 _ h3) (X.2.2.2.2.1 _ h4) hR.1 (by omega) hR.2.2.1 hR.2.2.2 d (K H locs la hH hS hl)
theorem gd_tableOut (X : Cx p s m args c cc nL own G) {dflt lo hi : Int} {offs : Array Int} {len : Nat} {x : Int32} (tgt : Nat) (d : decode cc pc = .ok (.tableswitch dflt lo hi offs, len)) (h : x.toInt < lo ∨ hi < x.toInt) (ht : (pc : Int) + dflt = (tgt : Int)) (K : Gd p l e R s m args below meth c nL G Q k j S tgt E st) : Gd p l e R s m args below meth c nL G Q k j S pc E (.int x :: st) := fun H locs la hH hS hl => lv_tableOut X.1 X.2.1 d h ht (K H locs la hH hS hl)
theorem gd_tableIn (X : Cx p s m args c cc nL own G) {dflt lo hi : Int} {offs : Array Int} {len : Nat} {x : Int32} {off : Int} (tgt : Nat) (d : decode cc pc = .ok (.tableswitch dflt lo hi offs, len)) (h1 : ¬ x.toInt < lo) (h2 : ¬ hi < x.toInt) (ho : offs[(x.toInt - lo).toNat]? = some off) (ht : (pc : Int) + off = (tgt : Int)) (K : Gd p l e R s m args below meth c nL G Q k j S tgt E st) : Gd p l e R s m args below meth c nL G Q k j S pc E (.int x :: st) := fun H locs la hH hS hl => lv_tableIn X.1 X.2.1 d h1 h2 ho ht (K H locs la hH hS hl)
theorem gd_callW (X : Cx p s m args c cc nL own G) {y : MethodName} {bytes : ByteArray} {maxL n : Nat} {ret : Option FieldType} {hh : List (Nat × Nat × Nat × Nat)} {rm : Room} {As : List Value} {post : Option Value → MS → Prop} (hM : MetW l y bytes maxL ret hh rm As G S post) (h1 : Cond.static y ∈ lw_all) (h2 : Cond.initialized y.cls ∈ lw_all) (h3 : Cond.codeWith y bytes maxL ret hh ∈ lw_all) (h4 : y.cls ≠ "java/lang/invoke/MethodHandle" ∧ y.cls ≠ "java/lang/invoke/VarHandle" ∧ (parseMethodDescriptor y.desc).map (fun d => d.parameters.length) = some n) (hl : Cond.methodLink own index y ∈ lw_all) (hR : rm.frames + 1 ≤ R.frames ∧ 8 + (maxL + 11) + rm.locals ≤ R.locals) (hn : As.length = n) (hst : st = As.reverse ++ rest) (hr : rest.length ≤ 4) (d : decode cc pc = .ok (.invokestatic index, 3)) (hf : k + rm.cells ≤ R.cells ∧ j + rm.slots ≤ R.slots)
    (K : ∀ (v : Option Value) (S' : MS), post v S' → Gd p l e R s m args below meth c nL G Q (k + rm.cells) (j + rm.slots) S' (pc + 3) E (v.toList ++ rest)) : Gd p l e R s m args below meth c nL G Q k j S pc E st := fun H locs la hH hS hl2 => by
  subst hst
  refine gd_backX (a0 := As.toArray) hS hl2 (vx_runSX (hh := hh) X.fix hM (vx_cwSW (ws' := lw_all) n X.2.2.2.2.1 (fun w hw => ?_) rfl rfl rfl h4 hR) ⟨pc_blind G S _, fun U hU hW => X.pre hH hS rfl hU hW⟩ rfl hn hl2.1 rfl (lv_room ?_) d hf) K (fun Ex S' hE hp => hp.elim)
  · unfold va_wsS at hw
    rcases List.mem_append.mp hw with hw | hw
    · simp only [List.mem_cons, List.not_mem_nil, or_false] at hw
      rcases hw with rfl | rfl | rfl
      · exact lw_goodIn hl
      · exact lw_goodIn h1
      · exact lw_goodIn h2
    · rcases List.mem_cons.mp hw with rfl | hw
      · exact lw_goodIn h3
      · exact lw_goodIn hw
  · have := cat_sum rest
    omega
end MAKES
end
section
theorem dX0_init_0 : decode cX0_init 0 = .ok (.aload_n 0, 1) := by decide +kernel
theorem dX0_init_1 : decode cX0_init 1 = .ok (.invokespecial 3, 3) := by decide +kernel
theorem dX0_init_4 : decode cX0_init 4 = .ok (.aload_n 0, 1) := by decide +kernel
theorem dX0_init_5 : decode cX0_init 5 = .ok (.iload_n 1, 1) := by decide +kernel
theorem dX0_init_6 : decode cX0_init 6 = .ok (.putfield 9, 3) := by decide +kernel
theorem dX0_init_9 : decode cX0_init 9 = .ok (.aload_n 0, 1) := by decide +kernel
theorem dX0_init_10 : decode cX0_init 10 = .ok (.iload_n 2, 1) := by decide +kernel
theorem dX0_init_11 : decode cX0_init 11 = .ok (.putfield 15, 3) := by decide +kernel
theorem dX0_init_14 : decode cX0_init 14 = .ok (.aload_n 0, 1) := by decide +kernel
theorem dX0_init_15 : decode cX0_init 15 = .ok (.iload_n 3, 1) := by decide +kernel
theorem dX0_init_16 : decode cX0_init 16 = .ok (.putfield 18, 3) := by decide +kernel
theorem dX0_init_19 : decode cX0_init 19 = .ok (.aload_n 0, 1) := by decide +kernel
theorem dX0_init_20 : decode cX0_init 20 = .ok (.iload 4, 2) := by decide +kernel
theorem dX0_init_22 : decode cX0_init 22 = .ok (.putfield 21, 3) := by decide +kernel
theorem dX0_init_25 : decode cX0_init 25 = .ok (.return_, 1) := by decide +kernel
theorem dX0_isViolatedBy_0 : decode cX0_isViolatedBy 0 = .ok (.aload_n 0, 1) := by decide +kernel
theorem dX0_isViolatedBy_1 : decode cX0_isViolatedBy 1 = .ok (.getfield 9, 3) := by decide +kernel
theorem dX0_isViolatedBy_4 : decode cX0_isViolatedBy 4 = .ok (.iconst 2, 1) := by decide +kernel
theorem dX0_isViolatedBy_5 : decode cX0_isViolatedBy 5 = .ok (.if_icmp .ne 31, 3) := by decide +kernel
theorem dX0_isViolatedBy_8 : decode cX0_isViolatedBy 8 = .ok (.aload_n 1, 1) := by decide +kernel
theorem dX0_isViolatedBy_9 : decode cX0_isViolatedBy 9 = .ok (.aload_n 0, 1) := by decide +kernel
theorem dX0_isViolatedBy_10 : decode cX0_isViolatedBy 10 = .ok (.getfield 15, 3) := by decide +kernel
theorem dX0_isViolatedBy_13 : decode cX0_isViolatedBy 13 = .ok (.aload_n 0, 1) := by decide +kernel
theorem dX0_isViolatedBy_14 : decode cX0_isViolatedBy 14 = .ok (.getfield 18, 3) := by decide +kernel
theorem dX0_isViolatedBy_17 : decode cX0_isViolatedBy 17 = .ok (.sipush (-999), 3) := by decide +kernel
theorem dX0_isViolatedBy_20 : decode cX0_isViolatedBy 20 = .ok (.invokestatic 24, 3) := by decide +kernel
theorem dX0_isViolatedBy_23 : decode cX0_isViolatedBy 23 = .ok (.aload_n 0, 1) := by decide +kernel
theorem dX0_isViolatedBy_24 : decode cX0_isViolatedBy 24 = .ok (.getfield 21, 3) := by decide +kernel
theorem dX0_isViolatedBy_27 : decode cX0_isViolatedBy 27 = .ok (.if_icmp .le 7, 3) := by decide +kernel
theorem dX0_isViolatedBy_30 : decode cX0_isViolatedBy 30 = .ok (.iconst 1, 1) := by decide +kernel
theorem dX0_isViolatedBy_31 : decode cX0_isViolatedBy 31 = .ok (.goto 4, 3) := by decide +kernel
theorem dX0_isViolatedBy_34 : decode cX0_isViolatedBy 34 = .ok (.iconst 0, 1) := by decide +kernel
theorem dX0_isViolatedBy_35 : decode cX0_isViolatedBy 35 = .ok (.ireturn, 1) := by decide +kernel
theorem dX0_isViolatedBy_36 : decode cX0_isViolatedBy 36 = .ok (.aload_n 1, 1) := by decide +kernel
theorem dX0_isViolatedBy_37 : decode cX0_isViolatedBy 37 = .ok (.aload_n 0, 1) := by decide +kernel
theorem dX0_isViolatedBy_38 : decode cX0_isViolatedBy 38 = .ok (.getfield 15, 3) := by decide +kernel
theorem dX0_isViolatedBy_41 : decode cX0_isViolatedBy 41 = .ok (.aload_n 0, 1) := by decide +kernel
theorem dX0_isViolatedBy_42 : decode cX0_isViolatedBy 42 = .ok (.getfield 18, 3) := by decide +kernel
theorem dX0_isViolatedBy_45 : decode cX0_isViolatedBy 45 = .ok (.invokestatic 28, 3) := by decide +kernel
theorem dX0_isViolatedBy_48 : decode cX0_isViolatedBy 48 = .ok (.istore_n 2, 1) := by decide +kernel
theorem dX0_isViolatedBy_49 : decode cX0_isViolatedBy 49 = .ok (.aload_n 0, 1) := by decide +kernel
theorem dX0_isViolatedBy_50 : decode cX0_isViolatedBy 50 = .ok (.getfield 9, 3) := by decide +kernel
theorem dX0_isViolatedBy_53 : decode cX0_isViolatedBy 53 = .ok (.iconst 1, 1) := by decide +kernel
theorem dX0_isViolatedBy_54 : decode cX0_isViolatedBy 54 = .ok (.if_icmp .ne 19, 3) := by decide +kernel
theorem dX0_isViolatedBy_57 : decode cX0_isViolatedBy 57 = .ok (.iload_n 2, 1) := by decide +kernel
theorem dX0_isViolatedBy_58 : decode cX0_isViolatedBy 58 = .ok (.aload_n 0, 1) := by decide +kernel
theorem dX0_isViolatedBy_59 : decode cX0_isViolatedBy 59 = .ok (.getfield 21, 3) := by decide +kernel
theorem dX0_isViolatedBy_62 : decode cX0_isViolatedBy 62 = .ok (.if_icmp .le 7, 3) := by decide +kernel
theorem dX0_isViolatedBy_65 : decode cX0_isViolatedBy 65 = .ok (.iconst 1, 1) := by decide +kernel
theorem dX0_isViolatedBy_66 : decode cX0_isViolatedBy 66 = .ok (.goto 20, 3) := by decide +kernel
theorem dX0_isViolatedBy_69 : decode cX0_isViolatedBy 69 = .ok (.iconst 0, 1) := by decide +kernel
theorem dX0_isViolatedBy_70 : decode cX0_isViolatedBy 70 = .ok (.goto 16, 3) := by decide +kernel
theorem dX0_isViolatedBy_73 : decode cX0_isViolatedBy 73 = .ok (.iload_n 2, 1) := by decide +kernel
theorem dX0_isViolatedBy_74 : decode cX0_isViolatedBy 74 = .ok (.aload_n 0, 1) := by decide +kernel
theorem dX0_isViolatedBy_75 : decode cX0_isViolatedBy 75 = .ok (.getfield 21, 3) := by decide +kernel
theorem dX0_isViolatedBy_78 : decode cX0_isViolatedBy 78 = .ok (.if_icmp .ge 7, 3) := by decide +kernel
theorem dX0_isViolatedBy_81 : decode cX0_isViolatedBy 81 = .ok (.iconst 1, 1) := by decide +kernel
theorem dX0_isViolatedBy_82 : decode cX0_isViolatedBy 82 = .ok (.goto 4, 3) := by decide +kernel
theorem dX0_isViolatedBy_85 : decode cX0_isViolatedBy 85 = .ok (.iconst 0, 1) := by decide +kernel
theorem dX0_isViolatedBy_86 : decode cX0_isViolatedBy 86 = .ok (.ireturn, 1) := by decide +kernel
theorem dX1_init_0 : decode cX1_init 0 = .ok (.aload_n 0, 1) := by decide +kernel
theorem dX1_init_1 : decode cX1_init 1 = .ok (.invokespecial 3, 3) := by decide +kernel
theorem dX1_init_4 : decode cX1_init 4 = .ok (.aload_n 0, 1) := by decide +kernel
theorem dX1_init_5 : decode cX1_init 5 = .ok (.bipush 61, 2) := by decide +kernel
theorem dX1_init_7 : decode cX1_init 7 = .ok (.bipush 32, 2) := by decide +kernel
theorem dX1_init_9 : decode cX1_init 9 = .ok (.multianewarray 9 2, 4) := by decide +kernel
theorem dX1_init_13 : decode cX1_init 13 = .ok (.putfield 11, 3) := by decide +kernel
theorem dX1_init_16 : decode cX1_init 16 = .ok (.aload_n 0, 1) := by decide +kernel
theorem dX1_init_17 : decode cX1_init 17 = .ok (.bipush 61, 2) := by decide +kernel
theorem dX1_init_19 : decode cX1_init 19 = .ok (.anewarray 16, 3) := by decide +kernel
theorem dX1_init_22 : decode cX1_init 22 = .ok (.putfield 18, 3) := by decide +kernel
theorem dX1_init_25 : decode cX1_init 25 = .ok (.aload_n 0, 1) := by decide +kernel
theorem dX1_init_26 : decode cX1_init 26 = .ok (.getfield 11, 3) := by decide +kernel
theorem dX1_init_29 : decode cX1_init 29 = .ok (.iconst 0, 1) := by decide +kernel
theorem dX1_init_30 : decode cX1_init 30 = .ok (.aaload, 1) := by decide +kernel
theorem dX1_init_31 : decode cX1_init 31 = .ok (.sipush (-1000), 3) := by decide +kernel
theorem dX1_init_34 : decode cX1_init 34 = .ok (.invokestatic 22, 3) := by decide +kernel
theorem dX1_init_37 : decode cX1_init 37 = .ok (.return_, 1) := by decide +kernel
theorem dX1_isFull_0 : decode cX1_isFull 0 = .ok (.aload_n 0, 1) := by decide +kernel
theorem dX1_isFull_1 : decode cX1_isFull 1 = .ok (.getfield 28, 3) := by decide +kernel
theorem dX1_isFull_4 : decode cX1_isFull 4 = .ok (.bipush 60, 2) := by decide +kernel
theorem dX1_isFull_6 : decode cX1_isFull 6 = .ok (.if_icmp .lt 7, 3) := by decide +kernel
theorem dX1_isFull_9 : decode cX1_isFull 9 = .ok (.iconst 1, 1) := by decide +kernel
theorem dX1_isFull_10 : decode cX1_isFull 10 = .ok (.goto 4, 3) := by decide +kernel
theorem dX1_isFull_13 : decode cX1_isFull 13 = .ok (.iconst 0, 1) := by decide +kernel
theorem dX1_isFull_14 : decode cX1_isFull 14 = .ok (.ireturn, 1) := by decide +kernel
theorem dX1_storeAfter_0 : decode cX1_storeAfter 0 = .ok (.aload_n 0, 1) := by decide +kernel
theorem dX1_storeAfter_1 : decode cX1_storeAfter 1 = .ok (.getfield 11, 3) := by decide +kernel
theorem dX1_storeAfter_4 : decode cX1_storeAfter 4 = .ok (.iload_n 1, 1) := by decide +kernel
theorem dX1_storeAfter_5 : decode cX1_storeAfter 5 = .ok (.aaload, 1) := by decide +kernel
theorem dX1_storeAfter_6 : decode cX1_storeAfter 6 = .ok (.areturn, 1) := by decide +kernel
theorem dX1_newest_0 : decode cX1_newest 0 = .ok (.aload_n 0, 1) := by decide +kernel
theorem dX1_newest_1 : decode cX1_newest 1 = .ok (.getfield 11, 3) := by decide +kernel
theorem dX1_newest_4 : decode cX1_newest 4 = .ok (.aload_n 0, 1) := by decide +kernel
theorem dX1_newest_5 : decode cX1_newest 5 = .ok (.getfield 28, 3) := by decide +kernel
theorem dX1_newest_8 : decode cX1_newest 8 = .ok (.aaload, 1) := by decide +kernel
theorem dX1_newest_9 : decode cX1_newest 9 = .ok (.areturn, 1) := by decide +kernel
theorem dX1_authorOf_0 : decode cX1_authorOf 0 = .ok (.aload_n 0, 1) := by decide +kernel
theorem dX1_authorOf_1 : decode cX1_authorOf 1 = .ok (.getfield 18, 3) := by decide +kernel
theorem dX1_authorOf_4 : decode cX1_authorOf 4 = .ok (.iload_n 1, 1) := by decide +kernel
theorem dX1_authorOf_5 : decode cX1_authorOf 5 = .ok (.aaload, 1) := by decide +kernel
theorem dX1_authorOf_6 : decode cX1_authorOf 6 = .ok (.areturn, 1) := by decide +kernel
theorem dX1_append_0 : decode cX1_append 0 = .ok (.aload_n 0, 1) := by decide +kernel
theorem dX1_append_1 : decode cX1_append 1 = .ok (.invokevirtual 32, 3) := by decide +kernel
theorem dX1_append_4 : decode cX1_append 4 = .ok (.ifCond .eq 4, 3) := by decide +kernel
theorem dX1_append_7 : decode cX1_append 7 = .ok (.return_, 1) := by decide +kernel
theorem dX1_append_8 : decode cX1_append 8 = .ok (.aload_n 0, 1) := by decide +kernel
theorem dX1_append_9 : decode cX1_append 9 = .ok (.getfield 11, 3) := by decide +kernel
theorem dX1_append_12 : decode cX1_append 12 = .ok (.aload_n 0, 1) := by decide +kernel
theorem dX1_append_13 : decode cX1_append 13 = .ok (.getfield 28, 3) := by decide +kernel
theorem dX1_append_16 : decode cX1_append 16 = .ok (.aaload, 1) := by decide +kernel
theorem dX1_append_17 : decode cX1_append 17 = .ok (.iconst 0, 1) := by decide +kernel
theorem dX1_append_18 : decode cX1_append 18 = .ok (.aload_n 0, 1) := by decide +kernel
theorem dX1_append_19 : decode cX1_append 19 = .ok (.getfield 11, 3) := by decide +kernel
theorem dX1_append_22 : decode cX1_append 22 = .ok (.aload_n 0, 1) := by decide +kernel
theorem dX1_append_23 : decode cX1_append 23 = .ok (.getfield 28, 3) := by decide +kernel
theorem dX1_append_26 : decode cX1_append 26 = .ok (.iconst 1, 1) := by decide +kernel
theorem dX1_append_27 : decode cX1_append 27 = .ok (.iadd, 1) := by decide +kernel
theorem dX1_append_28 : decode cX1_append 28 = .ok (.aaload, 1) := by decide +kernel
theorem dX1_append_29 : decode cX1_append 29 = .ok (.iconst 0, 1) := by decide +kernel
theorem dX1_append_30 : decode cX1_append 30 = .ok (.bipush 32, 2) := by decide +kernel
theorem dX1_append_32 : decode cX1_append 32 = .ok (.invokestatic 36, 3) := by decide +kernel
theorem dX1_append_35 : decode cX1_append 35 = .ok (.aload_n 0, 1) := by decide +kernel
theorem dX1_append_36 : decode cX1_append 36 = .ok (.dup, 1) := by decide +kernel
theorem dX1_append_37 : decode cX1_append 37 = .ok (.getfield 28, 3) := by decide +kernel
theorem dX1_append_40 : decode cX1_append 40 = .ok (.iconst 1, 1) := by decide +kernel
theorem dX1_append_41 : decode cX1_append 41 = .ok (.iadd, 1) := by decide +kernel
theorem dX1_append_42 : decode cX1_append 42 = .ok (.putfield 28, 3) := by decide +kernel
theorem dX1_append_45 : decode cX1_append 45 = .ok (.aload_n 1, 1) := by decide +kernel
theorem dX1_append_46 : decode cX1_append 46 = .ok (.aload_n 0, 1) := by decide +kernel
theorem dX1_append_47 : decode cX1_append 47 = .ok (.getfield 11, 3) := by decide +kernel
theorem dX1_append_50 : decode cX1_append 50 = .ok (.aload_n 0, 1) := by decide +kernel
theorem dX1_append_51 : decode cX1_append 51 = .ok (.getfield 28, 3) := by decide +kernel
theorem dX1_append_54 : decode cX1_append 54 = .ok (.aaload, 1) := by decide +kernel
theorem dX1_append_55 : decode cX1_append 55 = .ok (.invokevirtual 42, 3) := by decide +kernel
theorem dX1_append_58 : decode cX1_append 58 = .ok (.aload_n 0, 1) := by decide +kernel
theorem dX1_append_59 : decode cX1_append 59 = .ok (.getfield 18, 3) := by decide +kernel
theorem dX1_append_62 : decode cX1_append 62 = .ok (.aload_n 0, 1) := by decide +kernel
theorem dX1_append_63 : decode cX1_append 63 = .ok (.getfield 28, 3) := by decide +kernel
theorem dX1_append_66 : decode cX1_append 66 = .ok (.aload_n 1, 1) := by decide +kernel
theorem dX1_append_67 : decode cX1_append 67 = .ok (.aastore, 1) := by decide +kernel
theorem dX1_append_68 : decode cX1_append 68 = .ok (.aload_n 1, 1) := by decide +kernel
theorem dX1_append_69 : decode cX1_append 69 = .ok (.iconst 1, 1) := by decide +kernel
theorem dX1_append_70 : decode cX1_append 70 = .ok (.putfield 46, 3) := by decide +kernel
theorem dX1_append_73 : decode cX1_append 73 = .ok (.aload_n 1, 1) := by decide +kernel
theorem dX1_append_74 : decode cX1_append 74 = .ok (.aload_n 0, 1) := by decide +kernel
theorem dX1_append_75 : decode cX1_append 75 = .ok (.getfield 28, 3) := by decide +kernel
theorem dX1_append_78 : decode cX1_append 78 = .ok (.putfield 49, 3) := by decide +kernel
theorem dX1_append_81 : decode cX1_append 81 = .ok (.return_, 1) := by decide +kernel
theorem dX1_takeBackAfter_0 : decode cX1_takeBackAfter 0 = .ok (.aload_n 0, 1) := by decide +kernel
theorem dX1_takeBackAfter_1 : decode cX1_takeBackAfter 1 = .ok (.getfield 28, 3) := by decide +kernel
theorem dX1_takeBackAfter_4 : decode cX1_takeBackAfter 4 = .ok (.iload_n 1, 1) := by decide +kernel
theorem dX1_takeBackAfter_5 : decode cX1_takeBackAfter 5 = .ok (.isub, 1) := by decide +kernel
theorem dX1_takeBackAfter_6 : decode cX1_takeBackAfter 6 = .ok (.istore_n 2, 1) := by decide +kernel
theorem dX1_takeBackAfter_7 : decode cX1_takeBackAfter 7 = .ok (.iload_n 1, 1) := by decide +kernel
theorem dX1_takeBackAfter_8 : decode cX1_takeBackAfter 8 = .ok (.iconst 1, 1) := by decide +kernel
theorem dX1_takeBackAfter_9 : decode cX1_takeBackAfter 9 = .ok (.iadd, 1) := by decide +kernel
theorem dX1_takeBackAfter_10 : decode cX1_takeBackAfter 10 = .ok (.istore_n 3, 1) := by decide +kernel
theorem dX1_takeBackAfter_11 : decode cX1_takeBackAfter 11 = .ok (.iload_n 3, 1) := by decide +kernel
theorem dX1_takeBackAfter_12 : decode cX1_takeBackAfter 12 = .ok (.aload_n 0, 1) := by decide +kernel
theorem dX1_takeBackAfter_13 : decode cX1_takeBackAfter 13 = .ok (.getfield 28, 3) := by decide +kernel
theorem dX1_takeBackAfter_16 : decode cX1_takeBackAfter 16 = .ok (.if_icmp .gt 29, 3) := by decide +kernel
theorem dX1_takeBackAfter_19 : decode cX1_takeBackAfter 19 = .ok (.aload_n 0, 1) := by decide +kernel
theorem dX1_takeBackAfter_20 : decode cX1_takeBackAfter 20 = .ok (.getfield 18, 3) := by decide +kernel
theorem dX1_takeBackAfter_23 : decode cX1_takeBackAfter 23 = .ok (.iload_n 3, 1) := by decide +kernel
theorem dX1_takeBackAfter_24 : decode cX1_takeBackAfter 24 = .ok (.aaload, 1) := by decide +kernel
theorem dX1_takeBackAfter_25 : decode cX1_takeBackAfter 25 = .ok (.astore 4, 2) := by decide +kernel
theorem dX1_takeBackAfter_27 : decode cX1_takeBackAfter 27 = .ok (.aload 4, 2) := by decide +kernel
theorem dX1_takeBackAfter_29 : decode cX1_takeBackAfter 29 = .ok (.ifnull 10, 3) := by decide +kernel
theorem dX1_takeBackAfter_32 : decode cX1_takeBackAfter 32 = .ok (.aload 4, 2) := by decide +kernel
theorem dX1_takeBackAfter_34 : decode cX1_takeBackAfter 34 = .ok (.bipush 6, 2) := by decide +kernel
theorem dX1_takeBackAfter_36 : decode cX1_takeBackAfter 36 = .ok (.invokevirtual 52, 3) := by decide +kernel
theorem dX1_takeBackAfter_39 : decode cX1_takeBackAfter 39 = .ok (.iinc 3 1, 3) := by decide +kernel
theorem dX1_takeBackAfter_42 : decode cX1_takeBackAfter 42 = .ok (.goto (-31), 3) := by decide +kernel
theorem dX1_takeBackAfter_45 : decode cX1_takeBackAfter 45 = .ok (.aload_n 0, 1) := by decide +kernel
theorem dX1_takeBackAfter_46 : decode cX1_takeBackAfter 46 = .ok (.iload_n 1, 1) := by decide +kernel
theorem dX1_takeBackAfter_47 : decode cX1_takeBackAfter 47 = .ok (.putfield 28, 3) := by decide +kernel
theorem dX1_takeBackAfter_50 : decode cX1_takeBackAfter 50 = .ok (.iload_n 2, 1) := by decide +kernel
theorem dX1_takeBackAfter_51 : decode cX1_takeBackAfter 51 = .ok (.ireturn, 1) := by decide +kernel
theorem dX1_latestWriter_0 : decode cX1_latestWriter 0 = .ok (.aload_n 0, 1) := by decide +kernel
theorem dX1_latestWriter_1 : decode cX1_latestWriter 1 = .ok (.getfield 28, 3) := by decide +kernel
theorem dX1_latestWriter_4 : decode cX1_latestWriter 4 = .ok (.istore_n 2, 1) := by decide +kernel
theorem dX1_latestWriter_5 : decode cX1_latestWriter 5 = .ok (.iload_n 2, 1) := by decide +kernel
theorem dX1_latestWriter_6 : decode cX1_latestWriter 6 = .ok (.ifCond .le 23, 3) := by decide +kernel
theorem dX1_latestWriter_9 : decode cX1_latestWriter 9 = .ok (.aload_n 0, 1) := by decide +kernel
theorem dX1_latestWriter_10 : decode cX1_latestWriter 10 = .ok (.iload_n 2, 1) := by decide +kernel
theorem dX1_latestWriter_11 : decode cX1_latestWriter 11 = .ok (.invokevirtual 56, 3) := by decide +kernel
theorem dX1_latestWriter_14 : decode cX1_latestWriter 14 = .ok (.iconst 1, 1) := by decide +kernel
theorem dX1_latestWriter_15 : decode cX1_latestWriter 15 = .ok (.iload_n 1, 1) := by decide +kernel
theorem dX1_latestWriter_16 : decode cX1_latestWriter 16 = .ok (.ishl, 1) := by decide +kernel
theorem dX1_latestWriter_17 : decode cX1_latestWriter 17 = .ok (.iand, 1) := by decide +kernel
theorem dX1_latestWriter_18 : decode cX1_latestWriter 18 = .ok (.ifCond .eq 5, 3) := by decide +kernel
theorem dX1_latestWriter_21 : decode cX1_latestWriter 21 = .ok (.iload_n 2, 1) := by decide +kernel
theorem dX1_latestWriter_22 : decode cX1_latestWriter 22 = .ok (.ireturn, 1) := by decide +kernel
theorem dX1_latestWriter_23 : decode cX1_latestWriter 23 = .ok (.iinc 2 (-1), 3) := by decide +kernel
theorem dX1_latestWriter_26 : decode cX1_latestWriter 26 = .ok (.goto (-21), 3) := by decide +kernel
theorem dX1_latestWriter_29 : decode cX1_latestWriter 29 = .ok (.iconst 0, 1) := by decide +kernel
theorem dX1_latestWriter_30 : decode cX1_latestWriter 30 = .ok (.ireturn, 1) := by decide +kernel
theorem dX1_stalenessOf_0 : decode cX1_stalenessOf 0 = .ok (.iconst 0, 1) := by decide +kernel
theorem dX1_stalenessOf_1 : decode cX1_stalenessOf 1 = .ok (.istore_n 2, 1) := by decide +kernel
theorem dX1_stalenessOf_2 : decode cX1_stalenessOf 2 = .ok (.iload_n 2, 1) := by decide +kernel
theorem dX1_stalenessOf_3 : decode cX1_stalenessOf 3 = .ok (.bipush 32, 2) := by decide +kernel
theorem dX1_stalenessOf_5 : decode cX1_stalenessOf 5 = .ok (.if_icmp .ge 33, 3) := by decide +kernel
theorem dX1_stalenessOf_8 : decode cX1_stalenessOf 8 = .ok (.aload_n 1, 1) := by decide +kernel
theorem dX1_stalenessOf_9 : decode cX1_stalenessOf 9 = .ok (.iload_n 2, 1) := by decide +kernel
theorem dX1_stalenessOf_10 : decode cX1_stalenessOf 10 = .ok (.invokevirtual 60, 3) := by decide +kernel
theorem dX1_stalenessOf_13 : decode cX1_stalenessOf 13 = .ok (.ifCond .eq 19, 3) := by decide +kernel
theorem dX1_stalenessOf_16 : decode cX1_stalenessOf 16 = .ok (.aload_n 0, 1) := by decide +kernel
theorem dX1_stalenessOf_17 : decode cX1_stalenessOf 17 = .ok (.iload_n 2, 1) := by decide +kernel
theorem dX1_stalenessOf_18 : decode cX1_stalenessOf 18 = .ok (.invokevirtual 64, 3) := by decide +kernel
theorem dX1_stalenessOf_21 : decode cX1_stalenessOf 21 = .ok (.aload_n 1, 1) := by decide +kernel
theorem dX1_stalenessOf_22 : decode cX1_stalenessOf 22 = .ok (.getfield 67, 3) := by decide +kernel
theorem dX1_stalenessOf_25 : decode cX1_stalenessOf 25 = .ok (.iload_n 2, 1) := by decide +kernel
theorem dX1_stalenessOf_26 : decode cX1_stalenessOf 26 = .ok (.iaload, 1) := by decide +kernel
theorem dX1_stalenessOf_27 : decode cX1_stalenessOf 27 = .ok (.if_icmp .le 5, 3) := by decide +kernel
theorem dX1_stalenessOf_30 : decode cX1_stalenessOf 30 = .ok (.iconst 1, 1) := by decide +kernel
theorem dX1_stalenessOf_31 : decode cX1_stalenessOf 31 = .ok (.ireturn, 1) := by decide +kernel
theorem dX1_stalenessOf_32 : decode cX1_stalenessOf 32 = .ok (.iinc 2 1, 3) := by decide +kernel
theorem dX1_stalenessOf_35 : decode cX1_stalenessOf 35 = .ok (.goto (-33), 3) := by decide +kernel
theorem dX1_stalenessOf_38 : decode cX1_stalenessOf 38 = .ok (.iconst 0, 1) := by decide +kernel
theorem dX1_stalenessOf_39 : decode cX1_stalenessOf 39 = .ok (.istore_n 2, 1) := by decide +kernel
theorem dX1_stalenessOf_40 : decode cX1_stalenessOf 40 = .ok (.iload_n 2, 1) := by decide +kernel
theorem dX1_stalenessOf_41 : decode cX1_stalenessOf 41 = .ok (.aload_n 1, 1) := by decide +kernel
theorem dX1_stalenessOf_42 : decode cX1_stalenessOf 42 = .ok (.getfield 71, 3) := by decide +kernel
theorem dX1_stalenessOf_45 : decode cX1_stalenessOf 45 = .ok (.if_icmp .ge 24, 3) := by decide +kernel
theorem dX1_stalenessOf_48 : decode cX1_stalenessOf 48 = .ok (.aload_n 0, 1) := by decide +kernel
theorem dX1_stalenessOf_49 : decode cX1_stalenessOf 49 = .ok (.aload_n 1, 1) := by decide +kernel
theorem dX1_stalenessOf_50 : decode cX1_stalenessOf 50 = .ok (.getfield 74, 3) := by decide +kernel
theorem dX1_stalenessOf_53 : decode cX1_stalenessOf 53 = .ok (.iload_n 2, 1) := by decide +kernel
theorem dX1_stalenessOf_54 : decode cX1_stalenessOf 54 = .ok (.aaload, 1) := by decide +kernel
theorem dX1_stalenessOf_55 : decode cX1_stalenessOf 55 = .ok (.invokevirtual 78, 3) := by decide +kernel
theorem dX1_stalenessOf_58 : decode cX1_stalenessOf 58 = .ok (.ifCond .eq 5, 3) := by decide +kernel
theorem dX1_stalenessOf_61 : decode cX1_stalenessOf 61 = .ok (.iconst 2, 1) := by decide +kernel
theorem dX1_stalenessOf_62 : decode cX1_stalenessOf 62 = .ok (.ireturn, 1) := by decide +kernel
theorem dX1_stalenessOf_63 : decode cX1_stalenessOf 63 = .ok (.iinc 2 1, 3) := by decide +kernel
theorem dX1_stalenessOf_66 : decode cX1_stalenessOf 66 = .ok (.goto (-26), 3) := by decide +kernel
theorem dX1_stalenessOf_69 : decode cX1_stalenessOf 69 = .ok (.iconst 0, 1) := by decide +kernel
theorem dX1_stalenessOf_70 : decode cX1_stalenessOf 70 = .ok (.ireturn, 1) := by decide +kernel
theorem dX1_link_0 : decode cX1_link 0 = .ok (.aload_n 0, 1) := by decide +kernel
theorem dX1_link_1 : decode cX1_link 1 = .ok (.getfield 18, 3) := by decide +kernel
theorem dX1_link_4 : decode cX1_link 4 = .ok (.iload_n 1, 1) := by decide +kernel
theorem dX1_link_5 : decode cX1_link 5 = .ok (.aaload, 1) := by decide +kernel
theorem dX1_link_6 : decode cX1_link 6 = .ok (.astore_n 3, 1) := by decide +kernel
theorem dX1_link_7 : decode cX1_link 7 = .ok (.aload_n 0, 1) := by decide +kernel
theorem dX1_link_8 : decode cX1_link 8 = .ok (.getfield 18, 3) := by decide +kernel
theorem dX1_link_11 : decode cX1_link 11 = .ok (.iload_n 2, 1) := by decide +kernel
theorem dX1_link_12 : decode cX1_link 12 = .ok (.aaload, 1) := by decide +kernel
theorem dX1_link_13 : decode cX1_link 13 = .ok (.astore 4, 2) := by decide +kernel
theorem dX1_link_15 : decode cX1_link 15 = .ok (.aload_n 3, 1) := by decide +kernel
theorem dX1_link_16 : decode cX1_link 16 = .ok (.ifnull 8, 3) := by decide +kernel
theorem dX1_link_19 : decode cX1_link 19 = .ok (.aload 4, 2) := by decide +kernel
theorem dX1_link_21 : decode cX1_link 21 = .ok (.ifnonnull 5, 3) := by decide +kernel
theorem dX1_link_24 : decode cX1_link 24 = .ok (.iconst 0, 1) := by decide +kernel
theorem dX1_link_25 : decode cX1_link 25 = .ok (.ireturn, 1) := by decide +kernel
theorem dX1_link_26 : decode cX1_link 26 = .ok (.iconst 0, 1) := by decide +kernel
theorem dX1_link_27 : decode cX1_link 27 = .ok (.istore 5, 2) := by decide +kernel
theorem dX1_link_29 : decode cX1_link 29 = .ok (.aload_n 0, 1) := by decide +kernel
theorem dX1_link_30 : decode cX1_link 30 = .ok (.iload_n 1, 1) := by decide +kernel
theorem dX1_link_31 : decode cX1_link 31 = .ok (.iload_n 2, 1) := by decide +kernel
theorem dX1_link_32 : decode cX1_link 32 = .ok (.aload 4, 2) := by decide +kernel
theorem dX1_link_34 : decode cX1_link 34 = .ok (.getfield 82, 3) := by decide +kernel
theorem dX1_link_37 : decode cX1_link 37 = .ok (.invokevirtual 85, 3) := by decide +kernel
theorem dX1_link_40 : decode cX1_link 40 = .ok (.ifCond .eq 6, 3) := by decide +kernel
theorem dX1_link_43 : decode cX1_link 43 = .ok (.iinc 5 1, 3) := by decide +kernel
theorem dX1_link_46 : decode cX1_link 46 = .ok (.aload_n 3, 1) := by decide +kernel
theorem dX1_link_47 : decode cX1_link 47 = .ok (.getfield 89, 3) := by decide +kernel
theorem dX1_link_50 : decode cX1_link 50 = .ok (.aload 4, 2) := by decide +kernel
theorem dX1_link_52 : decode cX1_link 52 = .ok (.getfield 89, 3) := by decide +kernel
theorem dX1_link_55 : decode cX1_link 55 = .ok (.iand, 1) := by decide +kernel
theorem dX1_link_56 : decode cX1_link 56 = .ok (.ifCond .eq 6, 3) := by decide +kernel
theorem dX1_link_59 : decode cX1_link 59 = .ok (.iinc 5 2, 3) := by decide +kernel
theorem dX1_link_62 : decode cX1_link 62 = .ok (.aload_n 3, 1) := by decide +kernel
theorem dX1_link_63 : decode cX1_link 63 = .ok (.aload 4, 2) := by decide +kernel
theorem dX1_link_65 : decode cX1_link 65 = .ok (.aload_n 0, 1) := by decide +kernel
theorem dX1_link_66 : decode cX1_link 66 = .ok (.getfield 11, 3) := by decide +kernel
theorem dX1_link_69 : decode cX1_link 69 = .ok (.iload_n 2, 1) := by decide +kernel
theorem dX1_link_70 : decode cX1_link 70 = .ok (.iconst 1, 1) := by decide +kernel
theorem dX1_link_71 : decode cX1_link 71 = .ok (.isub, 1) := by decide +kernel
theorem dX1_link_72 : decode cX1_link 72 = .ok (.aaload, 1) := by decide +kernel
theorem dX1_link_73 : decode cX1_link 73 = .ok (.invokevirtual 92, 3) := by decide +kernel
theorem dX1_link_76 : decode cX1_link 76 = .ok (.ifCond .eq 6, 3) := by decide +kernel
theorem dX1_link_79 : decode cX1_link 79 = .ok (.iinc 5 4, 3) := by decide +kernel
theorem dX1_link_82 : decode cX1_link 82 = .ok (.iload 5, 2) := by decide +kernel
theorem dX1_link_84 : decode cX1_link 84 = .ok (.ireturn, 1) := by decide +kernel
theorem dX1_writtenBy_0 : decode cX1_writtenBy 0 = .ok (.aload_n 0, 1) := by decide +kernel
theorem dX1_writtenBy_1 : decode cX1_writtenBy 1 = .ok (.getfield 18, 3) := by decide +kernel
theorem dX1_writtenBy_4 : decode cX1_writtenBy 4 = .ok (.iload_n 1, 1) := by decide +kernel
theorem dX1_writtenBy_5 : decode cX1_writtenBy 5 = .ok (.aaload, 1) := by decide +kernel
theorem dX1_writtenBy_6 : decode cX1_writtenBy 6 = .ok (.astore_n 2, 1) := by decide +kernel
theorem dX1_writtenBy_7 : decode cX1_writtenBy 7 = .ok (.aload_n 2, 1) := by decide +kernel
theorem dX1_writtenBy_8 : decode cX1_writtenBy 8 = .ok (.ifnonnull 7, 3) := by decide +kernel
theorem dX1_writtenBy_11 : decode cX1_writtenBy 11 = .ok (.iconst 0, 1) := by decide +kernel
theorem dX1_writtenBy_12 : decode cX1_writtenBy 12 = .ok (.goto 7, 3) := by decide +kernel
theorem dX1_writtenBy_15 : decode cX1_writtenBy 15 = .ok (.aload_n 2, 1) := by decide +kernel
theorem dX1_writtenBy_16 : decode cX1_writtenBy 16 = .ok (.getfield 89, 3) := by decide +kernel
theorem dX1_writtenBy_19 : decode cX1_writtenBy 19 = .ok (.ireturn, 1) := by decide +kernel
theorem dX1_isTouchedSince_0 : decode cX1_isTouchedSince 0 = .ok (.aload_n 1, 1) := by decide +kernel
theorem dX1_isTouchedSince_1 : decode cX1_isTouchedSince 1 = .ok (.ifnonnull 5, 3) := by decide +kernel
theorem dX1_isTouchedSince_4 : decode cX1_isTouchedSince 4 = .ok (.iconst 0, 1) := by decide +kernel
theorem dX1_isTouchedSince_5 : decode cX1_isTouchedSince 5 = .ok (.ireturn, 1) := by decide +kernel
theorem dX1_isTouchedSince_6 : decode cX1_isTouchedSince 6 = .ok (.aload_n 1, 1) := by decide +kernel
theorem dX1_isTouchedSince_7 : decode cX1_isTouchedSince 7 = .ok (.getfield 96, 3) := by decide +kernel
theorem dX1_isTouchedSince_10 : decode cX1_isTouchedSince 10 = .ok (.iconst 1, 1) := by decide +kernel
theorem dX1_isTouchedSince_11 : decode cX1_isTouchedSince 11 = .ok (.iadd, 1) := by decide +kernel
theorem dX1_isTouchedSince_12 : decode cX1_isTouchedSince 12 = .ok (.istore_n 2, 1) := by decide +kernel
theorem dX1_isTouchedSince_13 : decode cX1_isTouchedSince 13 = .ok (.iload_n 2, 1) := by decide +kernel
theorem dX1_isTouchedSince_14 : decode cX1_isTouchedSince 14 = .ok (.aload_n 0, 1) := by decide +kernel
theorem dX1_isTouchedSince_15 : decode cX1_isTouchedSince 15 = .ok (.getfield 28, 3) := by decide +kernel
theorem dX1_isTouchedSince_18 : decode cX1_isTouchedSince 18 = .ok (.if_icmp .gt 38, 3) := by decide +kernel
theorem dX1_isTouchedSince_21 : decode cX1_isTouchedSince 21 = .ok (.aload_n 0, 1) := by decide +kernel
theorem dX1_isTouchedSince_22 : decode cX1_isTouchedSince 22 = .ok (.getfield 18, 3) := by decide +kernel
theorem dX1_isTouchedSince_25 : decode cX1_isTouchedSince 25 = .ok (.iload_n 2, 1) := by decide +kernel
theorem dX1_isTouchedSince_26 : decode cX1_isTouchedSince 26 = .ok (.aaload, 1) := by decide +kernel
theorem dX1_isTouchedSince_27 : decode cX1_isTouchedSince 27 = .ok (.astore_n 3, 1) := by decide +kernel
theorem dX1_isTouchedSince_28 : decode cX1_isTouchedSince 28 = .ok (.aload_n 3, 1) := by decide +kernel
theorem dX1_isTouchedSince_29 : decode cX1_isTouchedSince 29 = .ok (.ifnull 21, 3) := by decide +kernel
theorem dX1_isTouchedSince_32 : decode cX1_isTouchedSince 32 = .ok (.aload_n 1, 1) := by decide +kernel
theorem dX1_isTouchedSince_33 : decode cX1_isTouchedSince 33 = .ok (.aload_n 3, 1) := by decide +kernel
theorem dX1_isTouchedSince_34 : decode cX1_isTouchedSince 34 = .ok (.aload_n 0, 1) := by decide +kernel
theorem dX1_isTouchedSince_35 : decode cX1_isTouchedSince 35 = .ok (.getfield 11, 3) := by decide +kernel
theorem dX1_isTouchedSince_38 : decode cX1_isTouchedSince 38 = .ok (.iload_n 2, 1) := by decide +kernel
theorem dX1_isTouchedSince_39 : decode cX1_isTouchedSince 39 = .ok (.iconst 1, 1) := by decide +kernel
theorem dX1_isTouchedSince_40 : decode cX1_isTouchedSince 40 = .ok (.isub, 1) := by decide +kernel
theorem dX1_isTouchedSince_41 : decode cX1_isTouchedSince 41 = .ok (.aaload, 1) := by decide +kernel
theorem dX1_isTouchedSince_42 : decode cX1_isTouchedSince 42 = .ok (.invokevirtual 101, 3) := by decide +kernel
theorem dX1_isTouchedSince_45 : decode cX1_isTouchedSince 45 = .ok (.ifCond .eq 5, 3) := by decide +kernel
theorem dX1_isTouchedSince_48 : decode cX1_isTouchedSince 48 = .ok (.iconst 1, 1) := by decide +kernel
theorem dX1_isTouchedSince_49 : decode cX1_isTouchedSince 49 = .ok (.ireturn, 1) := by decide +kernel
theorem dX1_isTouchedSince_50 : decode cX1_isTouchedSince 50 = .ok (.iinc 2 1, 3) := by decide +kernel
theorem dX1_isTouchedSince_53 : decode cX1_isTouchedSince 53 = .ok (.goto (-40), 3) := by decide +kernel
theorem dX1_isTouchedSince_56 : decode cX1_isTouchedSince 56 = .ok (.iconst 0, 1) := by decide +kernel
theorem dX1_isTouchedSince_57 : decode cX1_isTouchedSince 57 = .ok (.ireturn, 1) := by decide +kernel
theorem dX1_readsFrom_0 : decode cX1_readsFrom 0 = .ok (.iload_n 3, 1) := by decide +kernel
theorem dX1_readsFrom_1 : decode cX1_readsFrom 1 = .ok (.aload_n 0, 1) := by decide +kernel
theorem dX1_readsFrom_2 : decode cX1_readsFrom 2 = .ok (.iload_n 1, 1) := by decide +kernel
theorem dX1_readsFrom_3 : decode cX1_readsFrom 3 = .ok (.invokevirtual 56, 3) := by decide +kernel
theorem dX1_readsFrom_6 : decode cX1_readsFrom 6 = .ok (.iand, 1) := by decide +kernel
theorem dX1_readsFrom_7 : decode cX1_readsFrom 7 = .ok (.istore 4, 2) := by decide +kernel
theorem dX1_readsFrom_9 : decode cX1_readsFrom 9 = .ok (.iload_n 1, 1) := by decide +kernel
theorem dX1_readsFrom_10 : decode cX1_readsFrom 10 = .ok (.iconst 1, 1) := by decide +kernel
theorem dX1_readsFrom_11 : decode cX1_readsFrom 11 = .ok (.iadd, 1) := by decide +kernel
theorem dX1_readsFrom_12 : decode cX1_readsFrom 12 = .ok (.istore 5, 2) := by decide +kernel
theorem dX1_readsFrom_14 : decode cX1_readsFrom 14 = .ok (.iload 5, 2) := by decide +kernel
theorem dX1_readsFrom_16 : decode cX1_readsFrom 16 = .ok (.iload_n 2, 1) := by decide +kernel
theorem dX1_readsFrom_17 : decode cX1_readsFrom 17 = .ok (.if_icmp .ge 22, 3) := by decide +kernel
theorem dX1_readsFrom_20 : decode cX1_readsFrom 20 = .ok (.iload 4, 2) := by decide +kernel
theorem dX1_readsFrom_22 : decode cX1_readsFrom 22 = .ok (.aload_n 0, 1) := by decide +kernel
theorem dX1_readsFrom_23 : decode cX1_readsFrom 23 = .ok (.iload 5, 2) := by decide +kernel
theorem dX1_readsFrom_25 : decode cX1_readsFrom 25 = .ok (.invokevirtual 56, 3) := by decide +kernel
theorem dX1_readsFrom_28 : decode cX1_readsFrom 28 = .ok (.iconst (-1), 1) := by decide +kernel
theorem dX1_readsFrom_29 : decode cX1_readsFrom 29 = .ok (.ixor, 1) := by decide +kernel
theorem dX1_readsFrom_30 : decode cX1_readsFrom 30 = .ok (.iand, 1) := by decide +kernel
theorem dX1_readsFrom_31 : decode cX1_readsFrom 31 = .ok (.istore 4, 2) := by decide +kernel
theorem dX1_readsFrom_33 : decode cX1_readsFrom 33 = .ok (.iinc 5 1, 3) := by decide +kernel
theorem dX1_readsFrom_36 : decode cX1_readsFrom 36 = .ok (.goto (-22), 3) := by decide +kernel
theorem dX1_readsFrom_39 : decode cX1_readsFrom 39 = .ok (.iload 4, 2) := by decide +kernel
theorem dX1_readsFrom_41 : decode cX1_readsFrom 41 = .ok (.ifCond .eq 7, 3) := by decide +kernel
theorem dX1_readsFrom_44 : decode cX1_readsFrom 44 = .ok (.iconst 1, 1) := by decide +kernel
theorem dX1_readsFrom_45 : decode cX1_readsFrom 45 = .ok (.goto 4, 3) := by decide +kernel
theorem dX1_readsFrom_48 : decode cX1_readsFrom 48 = .ok (.iconst 0, 1) := by decide +kernel
theorem dX1_readsFrom_49 : decode cX1_readsFrom 49 = .ok (.ireturn, 1) := by decide +kernel
theorem dX2_init_0 : decode cX2_init 0 = .ok (.aload_n 0, 1) := by decide +kernel
theorem dX2_init_1 : decode cX2_init 1 = .ok (.invokespecial 3, 3) := by decide +kernel
theorem dX2_init_4 : decode cX2_init 4 = .ok (.aload_n 0, 1) := by decide +kernel
theorem dX2_init_5 : decode cX2_init 5 = .ok (.iload_n 1, 1) := by decide +kernel
theorem dX2_init_6 : decode cX2_init 6 = .ok (.putfield 9, 3) := by decide +kernel
theorem dX2_init_9 : decode cX2_init 9 = .ok (.aload_n 0, 1) := by decide +kernel
theorem dX2_init_10 : decode cX2_init 10 = .ok (.iload_n 2, 1) := by decide +kernel
theorem dX2_init_11 : decode cX2_init 11 = .ok (.putfield 15, 3) := by decide +kernel
theorem dX2_init_14 : decode cX2_init 14 = .ok (.aload_n 0, 1) := by decide +kernel
theorem dX2_init_15 : decode cX2_init 15 = .ok (.iload_n 3, 1) := by decide +kernel
theorem dX2_init_16 : decode cX2_init 16 = .ok (.putfield 18, 3) := by decide +kernel
theorem dX2_init_19 : decode cX2_init 19 = .ok (.aload_n 0, 1) := by decide +kernel
theorem dX2_init_20 : decode cX2_init 20 = .ok (.iload 4, 2) := by decide +kernel
theorem dX2_init_22 : decode cX2_init 22 = .ok (.putfield 21, 3) := by decide +kernel
theorem dX2_init_25 : decode cX2_init 25 = .ok (.return_, 1) := by decide +kernel
theorem dX2_isWellFormed_0 : decode cX2_isWellFormed 0 = .ok (.aload_n 0, 1) := by decide +kernel
theorem dX2_isWellFormed_1 : decode cX2_isWellFormed 1 = .ok (.getfield 15, 3) := by decide +kernel
theorem dX2_isWellFormed_4 : decode cX2_isWellFormed 4 = .ok (.aload_n 0, 1) := by decide +kernel
theorem dX2_isWellFormed_5 : decode cX2_isWellFormed 5 = .ok (.getfield 18, 3) := by decide +kernel
theorem dX2_isWellFormed_8 : decode cX2_isWellFormed 8 = .ok (.invokestatic 24, 3) := by decide +kernel
theorem dX2_isWellFormed_11 : decode cX2_isWellFormed 11 = .ok (.ifCond .eq 23, 3) := by decide +kernel
theorem dX2_isWellFormed_14 : decode cX2_isWellFormed 14 = .ok (.aload_n 0, 1) := by decide +kernel
theorem dX2_isWellFormed_15 : decode cX2_isWellFormed 15 = .ok (.getfield 21, 3) := by decide +kernel
theorem dX2_isWellFormed_18 : decode cX2_isWellFormed 18 = .ok (.sipush (-999), 3) := by decide +kernel
theorem dX2_isWellFormed_21 : decode cX2_isWellFormed 21 = .ok (.sipush 999, 3) := by decide +kernel
theorem dX2_isWellFormed_24 : decode cX2_isWellFormed 24 = .ok (.invokestatic 28, 3) := by decide +kernel
theorem dX2_isWellFormed_27 : decode cX2_isWellFormed 27 = .ok (.ifCond .eq 7, 3) := by decide +kernel
theorem dX2_isWellFormed_30 : decode cX2_isWellFormed 30 = .ok (.iconst 1, 1) := by decide +kernel
theorem dX2_isWellFormed_31 : decode cX2_isWellFormed 31 = .ok (.goto 4, 3) := by decide +kernel
theorem dX2_isWellFormed_34 : decode cX2_isWellFormed 34 = .ok (.iconst 0, 1) := by decide +kernel
theorem dX2_isWellFormed_35 : decode cX2_isWellFormed 35 = .ok (.ireturn, 1) := by decide +kernel
theorem dX2_isPredicate_0 : decode cX2_isPredicate 0 = .ok (.aload_n 0, 1) := by decide +kernel
theorem dX2_isPredicate_1 : decode cX2_isPredicate 1 = .ok (.getfield 9, 3) := by decide +kernel
theorem dX2_isPredicate_4 : decode cX2_isPredicate 4 = .ok (.iconst 1, 1) := by decide +kernel
theorem dX2_isPredicate_5 : decode cX2_isPredicate 5 = .ok (.if_icmp .eq 11, 3) := by decide +kernel
theorem dX2_isPredicate_8 : decode cX2_isPredicate 8 = .ok (.aload_n 0, 1) := by decide +kernel
theorem dX2_isPredicate_9 : decode cX2_isPredicate 9 = .ok (.getfield 9, 3) := by decide +kernel
theorem dX2_isPredicate_12 : decode cX2_isPredicate 12 = .ok (.iconst 2, 1) := by decide +kernel
theorem dX2_isPredicate_13 : decode cX2_isPredicate 13 = .ok (.if_icmp .ne 7, 3) := by decide +kernel
theorem dX2_isPredicate_16 : decode cX2_isPredicate 16 = .ok (.iconst 1, 1) := by decide +kernel
theorem dX2_isPredicate_17 : decode cX2_isPredicate 17 = .ok (.goto 4, 3) := by decide +kernel
theorem dX2_isPredicate_20 : decode cX2_isPredicate 20 = .ok (.iconst 0, 1) := by decide +kernel
theorem dX2_isPredicate_21 : decode cX2_isPredicate 21 = .ok (.ireturn, 1) := by decide +kernel
theorem dX2_makesRead_0 : decode cX2_makesRead 0 = .ok (.aload_n 0, 1) := by decide +kernel
theorem dX2_makesRead_1 : decode cX2_makesRead 1 = .ok (.getfield 9, 3) := by decide +kernel
theorem dX2_makesRead_4 : decode cX2_makesRead 4 = .ok (.ifCond .eq 11, 3) := by decide +kernel
theorem dX2_makesRead_7 : decode cX2_makesRead 7 = .ok (.aload_n 0, 1) := by decide +kernel
theorem dX2_makesRead_8 : decode cX2_makesRead 8 = .ok (.getfield 9, 3) := by decide +kernel
theorem dX2_makesRead_11 : decode cX2_makesRead 11 = .ok (.iconst 5, 1) := by decide +kernel
theorem dX2_makesRead_12 : decode cX2_makesRead 12 = .ok (.if_icmp .ne 7, 3) := by decide +kernel
theorem dX2_makesRead_15 : decode cX2_makesRead 15 = .ok (.iconst 1, 1) := by decide +kernel
theorem dX2_makesRead_16 : decode cX2_makesRead 16 = .ok (.goto 4, 3) := by decide +kernel
theorem dX2_makesRead_19 : decode cX2_makesRead 19 = .ok (.iconst 0, 1) := by decide +kernel
theorem dX2_makesRead_20 : decode cX2_makesRead 20 = .ok (.ireturn, 1) := by decide +kernel
theorem dX2_makesWrite_0 : decode cX2_makesWrite 0 = .ok (.aload_n 0, 1) := by decide +kernel
theorem dX2_makesWrite_1 : decode cX2_makesWrite 1 = .ok (.getfield 9, 3) := by decide +kernel
theorem dX2_makesWrite_4 : decode cX2_makesWrite 4 = .ok (.iconst 3, 1) := by decide +kernel
theorem dX2_makesWrite_5 : decode cX2_makesWrite 5 = .ok (.if_icmp .eq 19, 3) := by decide +kernel
theorem dX2_makesWrite_8 : decode cX2_makesWrite 8 = .ok (.aload_n 0, 1) := by decide +kernel
theorem dX2_makesWrite_9 : decode cX2_makesWrite 9 = .ok (.getfield 9, 3) := by decide +kernel
theorem dX2_makesWrite_12 : decode cX2_makesWrite 12 = .ok (.iconst 4, 1) := by decide +kernel
theorem dX2_makesWrite_13 : decode cX2_makesWrite 13 = .ok (.if_icmp .eq 11, 3) := by decide +kernel
theorem dX2_makesWrite_16 : decode cX2_makesWrite 16 = .ok (.aload_n 0, 1) := by decide +kernel
theorem dX2_makesWrite_17 : decode cX2_makesWrite 17 = .ok (.getfield 9, 3) := by decide +kernel
theorem dX2_makesWrite_20 : decode cX2_makesWrite 20 = .ok (.iconst 5, 1) := by decide +kernel
theorem dX2_makesWrite_21 : decode cX2_makesWrite 21 = .ok (.if_icmp .ne 7, 3) := by decide +kernel
theorem dX2_makesWrite_24 : decode cX2_makesWrite 24 = .ok (.iconst 1, 1) := by decide +kernel
theorem dX2_makesWrite_25 : decode cX2_makesWrite 25 = .ok (.goto 4, 3) := by decide +kernel
theorem dX2_makesWrite_28 : decode cX2_makesWrite 28 = .ok (.iconst 0, 1) := by decide +kernel
theorem dX2_makesWrite_29 : decode cX2_makesWrite 29 = .ok (.ireturn, 1) := by decide +kernel
theorem dX2_staysInRange_0 : decode cX2_staysInRange 0 = .ok (.aload_n 0, 1) := by decide +kernel
theorem dX2_staysInRange_1 : decode cX2_staysInRange 1 = .ok (.getfield 9, 3) := by decide +kernel
theorem dX2_staysInRange_4 : decode cX2_staysInRange 4 = .ok (.iconst 5, 1) := by decide +kernel
theorem dX2_staysInRange_5 : decode cX2_staysInRange 5 = .ok (.if_icmp .ne 25, 3) := by decide +kernel
theorem dX2_staysInRange_8 : decode cX2_staysInRange 8 = .ok (.aload_n 0, 1) := by decide +kernel
theorem dX2_staysInRange_9 : decode cX2_staysInRange 9 = .ok (.aload_n 1, 1) := by decide +kernel
theorem dX2_staysInRange_10 : decode cX2_staysInRange 10 = .ok (.aload_n 0, 1) := by decide +kernel
theorem dX2_staysInRange_11 : decode cX2_staysInRange 11 = .ok (.getfield 15, 3) := by decide +kernel
theorem dX2_staysInRange_14 : decode cX2_staysInRange 14 = .ok (.iaload, 1) := by decide +kernel
theorem dX2_staysInRange_15 : decode cX2_staysInRange 15 = .ok (.invokevirtual 32, 3) := by decide +kernel
theorem dX2_staysInRange_18 : decode cX2_staysInRange 18 = .ok (.sipush (-999), 3) := by decide +kernel
theorem dX2_staysInRange_21 : decode cX2_staysInRange 21 = .ok (.sipush 999, 3) := by decide +kernel
theorem dX2_staysInRange_24 : decode cX2_staysInRange 24 = .ok (.invokestatic 28, 3) := by decide +kernel
theorem dX2_staysInRange_27 : decode cX2_staysInRange 27 = .ok (.ifCond .eq 7, 3) := by decide +kernel
theorem dX2_staysInRange_30 : decode cX2_staysInRange 30 = .ok (.iconst 1, 1) := by decide +kernel
theorem dX2_staysInRange_31 : decode cX2_staysInRange 31 = .ok (.goto 4, 3) := by decide +kernel
theorem dX2_staysInRange_34 : decode cX2_staysInRange 34 = .ok (.iconst 0, 1) := by decide +kernel
theorem dX2_staysInRange_35 : decode cX2_staysInRange 35 = .ok (.ireturn, 1) := by decide +kernel
theorem dX2_carryOut_0 : decode cX2_carryOut 0 = .ok (.aload_n 0, 1) := by decide +kernel
theorem dX2_carryOut_1 : decode cX2_carryOut 1 = .ok (.getfield 9, 3) := by decide +kernel
theorem dX2_carryOut_4 : decode cX2_carryOut 4 = .ok (.tableswitch 113 0 5 #[40, 47, 64, 113, 77, 90], 40) := by decide +kernel
theorem dX2_carryOut_44 : decode cX2_carryOut 44 = .ok (.aload_n 1, 1) := by decide +kernel
theorem dX2_carryOut_45 : decode cX2_carryOut 45 = .ok (.aload_n 0, 1) := by decide +kernel
theorem dX2_carryOut_46 : decode cX2_carryOut 46 = .ok (.getfield 15, 3) := by decide +kernel
theorem dX2_carryOut_49 : decode cX2_carryOut 49 = .ok (.iaload, 1) := by decide +kernel
theorem dX2_carryOut_50 : decode cX2_carryOut 50 = .ok (.ireturn, 1) := by decide +kernel
theorem dX2_carryOut_51 : decode cX2_carryOut 51 = .ok (.aload_n 1, 1) := by decide +kernel
theorem dX2_carryOut_52 : decode cX2_carryOut 52 = .ok (.aload_n 0, 1) := by decide +kernel
theorem dX2_carryOut_53 : decode cX2_carryOut 53 = .ok (.getfield 15, 3) := by decide +kernel
theorem dX2_carryOut_56 : decode cX2_carryOut 56 = .ok (.aload_n 0, 1) := by decide +kernel
theorem dX2_carryOut_57 : decode cX2_carryOut 57 = .ok (.getfield 18, 3) := by decide +kernel
theorem dX2_carryOut_60 : decode cX2_carryOut 60 = .ok (.aload_n 0, 1) := by decide +kernel
theorem dX2_carryOut_61 : decode cX2_carryOut 61 = .ok (.getfield 21, 3) := by decide +kernel
theorem dX2_carryOut_64 : decode cX2_carryOut 64 = .ok (.invokestatic 36, 3) := by decide +kernel
theorem dX2_carryOut_67 : decode cX2_carryOut 67 = .ok (.ireturn, 1) := by decide +kernel
theorem dX2_carryOut_68 : decode cX2_carryOut 68 = .ok (.aload_n 1, 1) := by decide +kernel
theorem dX2_carryOut_69 : decode cX2_carryOut 69 = .ok (.aload_n 0, 1) := by decide +kernel
theorem dX2_carryOut_70 : decode cX2_carryOut 70 = .ok (.getfield 15, 3) := by decide +kernel
theorem dX2_carryOut_73 : decode cX2_carryOut 73 = .ok (.aload_n 0, 1) := by decide +kernel
theorem dX2_carryOut_74 : decode cX2_carryOut 74 = .ok (.getfield 18, 3) := by decide +kernel
theorem dX2_carryOut_77 : decode cX2_carryOut 77 = .ok (.invokestatic 40, 3) := by decide +kernel
theorem dX2_carryOut_80 : decode cX2_carryOut 80 = .ok (.ireturn, 1) := by decide +kernel
theorem dX2_carryOut_81 : decode cX2_carryOut 81 = .ok (.aload_n 1, 1) := by decide +kernel
theorem dX2_carryOut_82 : decode cX2_carryOut 82 = .ok (.aload_n 0, 1) := by decide +kernel
theorem dX2_carryOut_83 : decode cX2_carryOut 83 = .ok (.getfield 15, 3) := by decide +kernel
theorem dX2_carryOut_86 : decode cX2_carryOut 86 = .ok (.sipush (-1000), 3) := by decide +kernel
theorem dX2_carryOut_89 : decode cX2_carryOut 89 = .ok (.iastore, 1) := by decide +kernel
theorem dX2_carryOut_90 : decode cX2_carryOut 90 = .ok (.sipush (-1000), 3) := by decide +kernel
theorem dX2_carryOut_93 : decode cX2_carryOut 93 = .ok (.ireturn, 1) := by decide +kernel
theorem dX2_carryOut_94 : decode cX2_carryOut 94 = .ok (.aload_n 1, 1) := by decide +kernel
theorem dX2_carryOut_95 : decode cX2_carryOut 95 = .ok (.aload_n 0, 1) := by decide +kernel
theorem dX2_carryOut_96 : decode cX2_carryOut 96 = .ok (.getfield 15, 3) := by decide +kernel
theorem dX2_carryOut_99 : decode cX2_carryOut 99 = .ok (.aload_n 0, 1) := by decide +kernel
theorem dX2_carryOut_100 : decode cX2_carryOut 100 = .ok (.aload_n 1, 1) := by decide +kernel
theorem dX2_carryOut_101 : decode cX2_carryOut 101 = .ok (.aload_n 0, 1) := by decide +kernel
theorem dX2_carryOut_102 : decode cX2_carryOut 102 = .ok (.getfield 15, 3) := by decide +kernel
theorem dX2_carryOut_105 : decode cX2_carryOut 105 = .ok (.iaload, 1) := by decide +kernel
theorem dX2_carryOut_106 : decode cX2_carryOut 106 = .ok (.invokevirtual 32, 3) := by decide +kernel
theorem dX2_carryOut_109 : decode cX2_carryOut 109 = .ok (.iastore, 1) := by decide +kernel
theorem dX2_carryOut_110 : decode cX2_carryOut 110 = .ok (.aload_n 1, 1) := by decide +kernel
theorem dX2_carryOut_111 : decode cX2_carryOut 111 = .ok (.aload_n 0, 1) := by decide +kernel
theorem dX2_carryOut_112 : decode cX2_carryOut 112 = .ok (.getfield 15, 3) := by decide +kernel
theorem dX2_carryOut_115 : decode cX2_carryOut 115 = .ok (.iaload, 1) := by decide +kernel
theorem dX2_carryOut_116 : decode cX2_carryOut 116 = .ok (.ireturn, 1) := by decide +kernel
theorem dX2_carryOut_117 : decode cX2_carryOut 117 = .ok (.aload_n 1, 1) := by decide +kernel
theorem dX2_carryOut_118 : decode cX2_carryOut 118 = .ok (.aload_n 0, 1) := by decide +kernel
theorem dX2_carryOut_119 : decode cX2_carryOut 119 = .ok (.getfield 15, 3) := by decide +kernel
theorem dX2_carryOut_122 : decode cX2_carryOut 122 = .ok (.aload_n 0, 1) := by decide +kernel
theorem dX2_carryOut_123 : decode cX2_carryOut 123 = .ok (.getfield 21, 3) := by decide +kernel
theorem dX2_carryOut_126 : decode cX2_carryOut 126 = .ok (.iastore, 1) := by decide +kernel
theorem dX2_carryOut_127 : decode cX2_carryOut 127 = .ok (.aload_n 0, 1) := by decide +kernel
theorem dX2_carryOut_128 : decode cX2_carryOut 128 = .ok (.getfield 21, 3) := by decide +kernel
theorem dX2_carryOut_131 : decode cX2_carryOut 131 = .ok (.ireturn, 1) := by decide +kernel
theorem dX2_isTouchedBy_0 : decode cX2_isTouchedBy 0 = .ok (.aload_n 0, 1) := by decide +kernel
theorem dX2_isTouchedBy_1 : decode cX2_isTouchedBy 1 = .ok (.invokevirtual 44, 3) := by decide +kernel
theorem dX2_isTouchedBy_4 : decode cX2_isTouchedBy 4 = .ok (.ifCond .ne 5, 3) := by decide +kernel
theorem dX2_isTouchedBy_7 : decode cX2_isTouchedBy 7 = .ok (.iconst 0, 1) := by decide +kernel
theorem dX2_isTouchedBy_8 : decode cX2_isTouchedBy 8 = .ok (.ireturn, 1) := by decide +kernel
theorem dX2_isTouchedBy_9 : decode cX2_isTouchedBy 9 = .ok (.aload_n 0, 1) := by decide +kernel
theorem dX2_isTouchedBy_10 : decode cX2_isTouchedBy 10 = .ok (.getfield 15, 3) := by decide +kernel
theorem dX2_isTouchedBy_13 : decode cX2_isTouchedBy 13 = .ok (.istore_n 3, 1) := by decide +kernel
theorem dX2_isTouchedBy_14 : decode cX2_isTouchedBy 14 = .ok (.iload_n 3, 1) := by decide +kernel
theorem dX2_isTouchedBy_15 : decode cX2_isTouchedBy 15 = .ok (.aload_n 0, 1) := by decide +kernel
theorem dX2_isTouchedBy_16 : decode cX2_isTouchedBy 16 = .ok (.getfield 18, 3) := by decide +kernel
theorem dX2_isTouchedBy_19 : decode cX2_isTouchedBy 19 = .ok (.if_icmp .gt 42, 3) := by decide +kernel
theorem dX2_isTouchedBy_22 : decode cX2_isTouchedBy 22 = .ok (.aload_n 1, 1) := by decide +kernel
theorem dX2_isTouchedBy_23 : decode cX2_isTouchedBy 23 = .ok (.iload_n 3, 1) := by decide +kernel
theorem dX2_isTouchedBy_24 : decode cX2_isTouchedBy 24 = .ok (.invokevirtual 48, 3) := by decide +kernel
theorem dX2_isTouchedBy_27 : decode cX2_isTouchedBy 27 = .ok (.ifCond .eq 28, 3) := by decide +kernel
theorem dX2_isTouchedBy_30 : decode cX2_isTouchedBy 30 = .ok (.aload_n 0, 1) := by decide +kernel
theorem dX2_isTouchedBy_31 : decode cX2_isTouchedBy 31 = .ok (.aload_n 2, 1) := by decide +kernel
theorem dX2_isTouchedBy_32 : decode cX2_isTouchedBy 32 = .ok (.iload_n 3, 1) := by decide +kernel
theorem dX2_isTouchedBy_33 : decode cX2_isTouchedBy 33 = .ok (.iaload, 1) := by decide +kernel
theorem dX2_isTouchedBy_34 : decode cX2_isTouchedBy 34 = .ok (.invokevirtual 54, 3) := by decide +kernel
theorem dX2_isTouchedBy_37 : decode cX2_isTouchedBy 37 = .ok (.ifCond .ne 16, 3) := by decide +kernel
theorem dX2_isTouchedBy_40 : decode cX2_isTouchedBy 40 = .ok (.aload_n 0, 1) := by decide +kernel
theorem dX2_isTouchedBy_41 : decode cX2_isTouchedBy 41 = .ok (.aload_n 1, 1) := by decide +kernel
theorem dX2_isTouchedBy_42 : decode cX2_isTouchedBy 42 = .ok (.getfield 57, 3) := by decide +kernel
theorem dX2_isTouchedBy_45 : decode cX2_isTouchedBy 45 = .ok (.iload_n 3, 1) := by decide +kernel
theorem dX2_isTouchedBy_46 : decode cX2_isTouchedBy 46 = .ok (.iaload, 1) := by decide +kernel
theorem dX2_isTouchedBy_47 : decode cX2_isTouchedBy 47 = .ok (.invokevirtual 54, 3) := by decide +kernel
theorem dX2_isTouchedBy_50 : decode cX2_isTouchedBy 50 = .ok (.ifCond .eq 5, 3) := by decide +kernel
theorem dX2_isTouchedBy_53 : decode cX2_isTouchedBy 53 = .ok (.iconst 1, 1) := by decide +kernel
theorem dX2_isTouchedBy_54 : decode cX2_isTouchedBy 54 = .ok (.ireturn, 1) := by decide +kernel
theorem dX2_isTouchedBy_55 : decode cX2_isTouchedBy 55 = .ok (.iinc 3 1, 3) := by decide +kernel
theorem dX2_isTouchedBy_58 : decode cX2_isTouchedBy 58 = .ok (.goto (-44), 3) := by decide +kernel
theorem dX2_isTouchedBy_61 : decode cX2_isTouchedBy 61 = .ok (.iconst 0, 1) := by decide +kernel
theorem dX2_isTouchedBy_62 : decode cX2_isTouchedBy 62 = .ok (.ireturn, 1) := by decide +kernel
theorem dX2_sumWith_0 : decode cX2_sumWith 0 = .ok (.iload_n 1, 1) := by decide +kernel
theorem dX2_sumWith_1 : decode cX2_sumWith 1 = .ok (.sipush (-1000), 3) := by decide +kernel
theorem dX2_sumWith_4 : decode cX2_sumWith 4 = .ok (.if_icmp .ne 7, 3) := by decide +kernel
theorem dX2_sumWith_7 : decode cX2_sumWith 7 = .ok (.iconst 0, 1) := by decide +kernel
theorem dX2_sumWith_8 : decode cX2_sumWith 8 = .ok (.goto 4, 3) := by decide +kernel
theorem dX2_sumWith_11 : decode cX2_sumWith 11 = .ok (.iload_n 1, 1) := by decide +kernel
theorem dX2_sumWith_12 : decode cX2_sumWith 12 = .ok (.aload_n 0, 1) := by decide +kernel
theorem dX2_sumWith_13 : decode cX2_sumWith 13 = .ok (.getfield 21, 3) := by decide +kernel
theorem dX2_sumWith_16 : decode cX2_sumWith 16 = .ok (.iadd, 1) := by decide +kernel
theorem dX2_sumWith_17 : decode cX2_sumWith 17 = .ok (.ireturn, 1) := by decide +kernel
theorem dX2_admits_0 : decode cX2_admits 0 = .ok (.iload_n 1, 1) := by decide +kernel
theorem dX2_admits_1 : decode cX2_admits 1 = .ok (.sipush (-1000), 3) := by decide +kernel
theorem dX2_admits_4 : decode cX2_admits 4 = .ok (.if_icmp .eq 15, 3) := by decide +kernel
theorem dX2_admits_7 : decode cX2_admits 7 = .ok (.iload_n 1, 1) := by decide +kernel
theorem dX2_admits_8 : decode cX2_admits 8 = .ok (.aload_n 0, 1) := by decide +kernel
theorem dX2_admits_9 : decode cX2_admits 9 = .ok (.getfield 21, 3) := by decide +kernel
theorem dX2_admits_12 : decode cX2_admits 12 = .ok (.if_icmp .lt 7, 3) := by decide +kernel
theorem dX2_admits_15 : decode cX2_admits 15 = .ok (.iconst 1, 1) := by decide +kernel
theorem dX2_admits_16 : decode cX2_admits 16 = .ok (.goto 4, 3) := by decide +kernel
theorem dX2_admits_19 : decode cX2_admits 19 = .ok (.iconst 0, 1) := by decide +kernel
theorem dX2_admits_20 : decode cX2_admits 20 = .ok (.ireturn, 1) := by decide +kernel
theorem dX3_init_0 : decode cX3_init 0 = .ok (.aload_n 0, 1) := by decide +kernel
theorem dX3_init_1 : decode cX3_init 1 = .ok (.invokespecial 3, 3) := by decide +kernel
theorem dX3_init_4 : decode cX3_init 4 = .ok (.aload_n 0, 1) := by decide +kernel
theorem dX3_init_5 : decode cX3_init 5 = .ok (.bipush 60, 2) := by decide +kernel
theorem dX3_init_7 : decode cX3_init 7 = .ok (.newarray .char, 2) := by decide +kernel
theorem dX3_init_9 : decode cX3_init 9 = .ok (.putfield 9, 3) := by decide +kernel
theorem dX3_init_12 : decode cX3_init 12 = .ok (.aload_n 0, 1) := by decide +kernel
theorem dX3_init_13 : decode cX3_init 13 = .ok (.bipush 30, 2) := by decide +kernel
theorem dX3_init_15 : decode cX3_init 15 = .ok (.anewarray 15, 3) := by decide +kernel
theorem dX3_init_18 : decode cX3_init 18 = .ok (.putfield 17, 3) := by decide +kernel
theorem dX3_init_21 : decode cX3_init 21 = .ok (.aload_n 0, 1) := by decide +kernel
theorem dX3_init_22 : decode cX3_init 22 = .ok (.iconst (-1), 1) := by decide +kernel
theorem dX3_init_23 : decode cX3_init 23 = .ok (.putfield 21, 3) := by decide +kernel
theorem dX3_init_26 : decode cX3_init 26 = .ok (.return_, 1) := by decide +kernel
theorem dX3_extend_0 : decode cX3_extend 0 = .ok (.aload_n 0, 1) := by decide +kernel
theorem dX3_extend_1 : decode cX3_extend 1 = .ok (.getfield 25, 3) := by decide +kernel
theorem dX3_extend_4 : decode cX3_extend 4 = .ok (.bipush 60, 2) := by decide +kernel
theorem dX3_extend_6 : decode cX3_extend 6 = .ok (.if_icmp .ge 23, 3) := by decide +kernel
theorem dX3_extend_9 : decode cX3_extend 9 = .ok (.aload_n 0, 1) := by decide +kernel
theorem dX3_extend_10 : decode cX3_extend 10 = .ok (.getfield 9, 3) := by decide +kernel
theorem dX3_extend_13 : decode cX3_extend 13 = .ok (.aload_n 0, 1) := by decide +kernel
theorem dX3_extend_14 : decode cX3_extend 14 = .ok (.getfield 25, 3) := by decide +kernel
theorem dX3_extend_17 : decode cX3_extend 17 = .ok (.iload_n 1, 1) := by decide +kernel
theorem dX3_extend_18 : decode cX3_extend 18 = .ok (.castore, 1) := by decide +kernel
theorem dX3_extend_19 : decode cX3_extend 19 = .ok (.aload_n 0, 1) := by decide +kernel
theorem dX3_extend_20 : decode cX3_extend 20 = .ok (.dup, 1) := by decide +kernel
theorem dX3_extend_21 : decode cX3_extend 21 = .ok (.getfield 25, 3) := by decide +kernel
theorem dX3_extend_24 : decode cX3_extend 24 = .ok (.iconst 1, 1) := by decide +kernel
theorem dX3_extend_25 : decode cX3_extend 25 = .ok (.iadd, 1) := by decide +kernel
theorem dX3_extend_26 : decode cX3_extend 26 = .ok (.putfield 25, 3) := by decide +kernel
theorem dX3_extend_29 : decode cX3_extend 29 = .ok (.aload_n 0, 1) := by decide +kernel
theorem dX3_extend_30 : decode cX3_extend 30 = .ok (.getfield 25, 3) := by decide +kernel
theorem dX3_extend_33 : decode cX3_extend 33 = .ok (.ireturn, 1) := by decide +kernel
theorem dX3_stepAt_0 : decode cX3_stepAt 0 = .ok (.iload_n 1, 1) := by decide +kernel
theorem dX3_stepAt_1 : decode cX3_stepAt 1 = .ok (.ifCond .lt 20, 3) := by decide +kernel
theorem dX3_stepAt_4 : decode cX3_stepAt 4 = .ok (.iload_n 1, 1) := by decide +kernel
theorem dX3_stepAt_5 : decode cX3_stepAt 5 = .ok (.aload_n 0, 1) := by decide +kernel
theorem dX3_stepAt_6 : decode cX3_stepAt 6 = .ok (.getfield 28, 3) := by decide +kernel
theorem dX3_stepAt_9 : decode cX3_stepAt 9 = .ok (.if_icmp .ge 12, 3) := by decide +kernel
theorem dX3_stepAt_12 : decode cX3_stepAt 12 = .ok (.aload_n 0, 1) := by decide +kernel
theorem dX3_stepAt_13 : decode cX3_stepAt 13 = .ok (.getfield 17, 3) := by decide +kernel
theorem dX3_stepAt_16 : decode cX3_stepAt 16 = .ok (.iload_n 1, 1) := by decide +kernel
theorem dX3_stepAt_17 : decode cX3_stepAt 17 = .ok (.aaload, 1) := by decide +kernel
theorem dX3_stepAt_18 : decode cX3_stepAt 18 = .ok (.goto 4, 3) := by decide +kernel
theorem dX3_stepAt_21 : decode cX3_stepAt 21 = .ok (.aconst_null, 1) := by decide +kernel
theorem dX3_stepAt_22 : decode cX3_stepAt 22 = .ok (.areturn, 1) := by decide +kernel
theorem dX3_parseAndEmpty_0 : decode cX3_parseAndEmpty 0 = .ok (.aload_n 0, 1) := by decide +kernel
theorem dX3_parseAndEmpty_1 : decode cX3_parseAndEmpty 1 = .ok (.iconst 0, 1) := by decide +kernel
theorem dX3_parseAndEmpty_2 : decode cX3_parseAndEmpty 2 = .ok (.putfield 31, 3) := by decide +kernel
theorem dX3_parseAndEmpty_5 : decode cX3_parseAndEmpty 5 = .ok (.aload_n 0, 1) := by decide +kernel
theorem dX3_parseAndEmpty_6 : decode cX3_parseAndEmpty 6 = .ok (.iconst 0, 1) := by decide +kernel
theorem dX3_parseAndEmpty_7 : decode cX3_parseAndEmpty 7 = .ok (.putfield 28, 3) := by decide +kernel
theorem dX3_parseAndEmpty_10 : decode cX3_parseAndEmpty 10 = .ok (.aload_n 0, 1) := by decide +kernel
theorem dX3_parseAndEmpty_11 : decode cX3_parseAndEmpty 11 = .ok (.invokevirtual 34, 3) := by decide +kernel
theorem dX3_parseAndEmpty_14 : decode cX3_parseAndEmpty 14 = .ok (.istore_n 1, 1) := by decide +kernel
theorem dX3_parseAndEmpty_15 : decode cX3_parseAndEmpty 15 = .ok (.aload_n 0, 1) := by decide +kernel
theorem dX3_parseAndEmpty_16 : decode cX3_parseAndEmpty 16 = .ok (.iload_n 1, 1) := by decide +kernel
theorem dX3_parseAndEmpty_17 : decode cX3_parseAndEmpty 17 = .ok (.ifCond .eq 7, 3) := by decide +kernel
theorem dX3_parseAndEmpty_20 : decode cX3_parseAndEmpty 20 = .ok (.iconst (-1), 1) := by decide +kernel
theorem dX3_parseAndEmpty_21 : decode cX3_parseAndEmpty 21 = .ok (.goto 7, 3) := by decide +kernel
theorem dX3_parseAndEmpty_24 : decode cX3_parseAndEmpty 24 = .ok (.aload_n 0, 1) := by decide +kernel
theorem dX3_parseAndEmpty_25 : decode cX3_parseAndEmpty 25 = .ok (.getfield 31, 3) := by decide +kernel
theorem dX3_parseAndEmpty_28 : decode cX3_parseAndEmpty 28 = .ok (.putfield 21, 3) := by decide +kernel
theorem dX3_parseAndEmpty_31 : decode cX3_parseAndEmpty 31 = .ok (.aload_n 0, 1) := by decide +kernel
theorem dX3_parseAndEmpty_32 : decode cX3_parseAndEmpty 32 = .ok (.iconst 0, 1) := by decide +kernel
theorem dX3_parseAndEmpty_33 : decode cX3_parseAndEmpty 33 = .ok (.putfield 25, 3) := by decide +kernel
theorem dX3_parseAndEmpty_36 : decode cX3_parseAndEmpty 36 = .ok (.iload_n 1, 1) := by decide +kernel
theorem dX3_parseAndEmpty_37 : decode cX3_parseAndEmpty 37 = .ok (.ireturn, 1) := by decide +kernel
theorem dX3_parseSteps_0 : decode cX3_parseSteps 0 = .ok (.iconst 0, 1) := by decide +kernel
theorem dX3_parseSteps_1 : decode cX3_parseSteps 1 = .ok (.istore_n 1, 1) := by decide +kernel
theorem dX3_parseSteps_2 : decode cX3_parseSteps 2 = .ok (.iload_n 1, 1) := by decide +kernel
theorem dX3_parseSteps_3 : decode cX3_parseSteps 3 = .ok (.bipush 30, 2) := by decide +kernel
theorem dX3_parseSteps_5 : decode cX3_parseSteps 5 = .ok (.if_icmp .ge 58, 3) := by decide +kernel
theorem dX3_parseSteps_8 : decode cX3_parseSteps 8 = .ok (.aload_n 0, 1) := by decide +kernel
theorem dX3_parseSteps_9 : decode cX3_parseSteps 9 = .ok (.invokevirtual 38, 3) := by decide +kernel
theorem dX3_parseSteps_12 : decode cX3_parseSteps 12 = .ok (.astore_n 2, 1) := by decide +kernel
theorem dX3_parseSteps_13 : decode cX3_parseSteps 13 = .ok (.aload_n 2, 1) := by decide +kernel
theorem dX3_parseSteps_14 : decode cX3_parseSteps 14 = .ok (.ifnonnull 5, 3) := by decide +kernel
theorem dX3_parseSteps_17 : decode cX3_parseSteps 17 = .ok (.iconst 0, 1) := by decide +kernel
theorem dX3_parseSteps_18 : decode cX3_parseSteps 18 = .ok (.ireturn, 1) := by decide +kernel
theorem dX3_parseSteps_19 : decode cX3_parseSteps 19 = .ok (.aload_n 0, 1) := by decide +kernel
theorem dX3_parseSteps_20 : decode cX3_parseSteps 20 = .ok (.getfield 17, 3) := by decide +kernel
theorem dX3_parseSteps_23 : decode cX3_parseSteps 23 = .ok (.iload_n 1, 1) := by decide +kernel
theorem dX3_parseSteps_24 : decode cX3_parseSteps 24 = .ok (.aload_n 2, 1) := by decide +kernel
theorem dX3_parseSteps_25 : decode cX3_parseSteps 25 = .ok (.aastore, 1) := by decide +kernel
theorem dX3_parseSteps_26 : decode cX3_parseSteps 26 = .ok (.aload_n 0, 1) := by decide +kernel
theorem dX3_parseSteps_27 : decode cX3_parseSteps 27 = .ok (.iload_n 1, 1) := by decide +kernel
theorem dX3_parseSteps_28 : decode cX3_parseSteps 28 = .ok (.iconst 1, 1) := by decide +kernel
theorem dX3_parseSteps_29 : decode cX3_parseSteps 29 = .ok (.iadd, 1) := by decide +kernel
theorem dX3_parseSteps_30 : decode cX3_parseSteps 30 = .ok (.putfield 28, 3) := by decide +kernel
theorem dX3_parseSteps_33 : decode cX3_parseSteps 33 = .ok (.aload_n 0, 1) := by decide +kernel
theorem dX3_parseSteps_34 : decode cX3_parseSteps 34 = .ok (.getfield 31, 3) := by decide +kernel
theorem dX3_parseSteps_37 : decode cX3_parseSteps 37 = .ok (.aload_n 0, 1) := by decide +kernel
theorem dX3_parseSteps_38 : decode cX3_parseSteps 38 = .ok (.getfield 25, 3) := by decide +kernel
theorem dX3_parseSteps_41 : decode cX3_parseSteps 41 = .ok (.if_icmp .ne 5, 3) := by decide +kernel
theorem dX3_parseSteps_44 : decode cX3_parseSteps 44 = .ok (.iconst 1, 1) := by decide +kernel
theorem dX3_parseSteps_45 : decode cX3_parseSteps 45 = .ok (.ireturn, 1) := by decide +kernel
theorem dX3_parseSteps_46 : decode cX3_parseSteps 46 = .ok (.aload_n 0, 1) := by decide +kernel
theorem dX3_parseSteps_47 : decode cX3_parseSteps 47 = .ok (.bipush 59, 2) := by decide +kernel
theorem dX3_parseSteps_49 : decode cX3_parseSteps 49 = .ok (.invokevirtual 42, 3) := by decide +kernel
theorem dX3_parseSteps_52 : decode cX3_parseSteps 52 = .ok (.ifCond .ne 5, 3) := by decide +kernel
theorem dX3_parseSteps_55 : decode cX3_parseSteps 55 = .ok (.iconst 0, 1) := by decide +kernel
theorem dX3_parseSteps_56 : decode cX3_parseSteps 56 = .ok (.ireturn, 1) := by decide +kernel
theorem dX3_parseSteps_57 : decode cX3_parseSteps 57 = .ok (.iinc 1 1, 3) := by decide +kernel
theorem dX3_parseSteps_60 : decode cX3_parseSteps 60 = .ok (.goto (-58), 3) := by decide +kernel
theorem dX3_parseSteps_63 : decode cX3_parseSteps 63 = .ok (.iconst 0, 1) := by decide +kernel
theorem dX3_parseSteps_64 : decode cX3_parseSteps 64 = .ok (.ireturn, 1) := by decide +kernel
theorem dX3_parseStep_0 : decode cX3_parseStep 0 = .ok (.aload_n 0, 1) := by decide +kernel
theorem dX3_parseStep_1 : decode cX3_parseStep 1 = .ok (.invokevirtual 46, 3) := by decide +kernel
theorem dX3_parseStep_4 : decode cX3_parseStep 4 = .ok (.invokestatic 50, 3) := by decide +kernel
theorem dX3_parseStep_7 : decode cX3_parseStep 7 = .ok (.istore_n 1, 1) := by decide +kernel
theorem dX3_parseStep_8 : decode cX3_parseStep 8 = .ok (.iload_n 1, 1) := by decide +kernel
theorem dX3_parseStep_9 : decode cX3_parseStep 9 = .ok (.iconst (-1), 1) := by decide +kernel
theorem dX3_parseStep_10 : decode cX3_parseStep 10 = .ok (.if_icmp .ne 5, 3) := by decide +kernel
theorem dX3_parseStep_13 : decode cX3_parseStep 13 = .ok (.aconst_null, 1) := by decide +kernel
theorem dX3_parseStep_14 : decode cX3_parseStep 14 = .ok (.areturn, 1) := by decide +kernel
theorem dX3_parseStep_15 : decode cX3_parseStep 15 = .ok (.aload_n 0, 1) := by decide +kernel
theorem dX3_parseStep_16 : decode cX3_parseStep 16 = .ok (.dup, 1) := by decide +kernel
theorem dX3_parseStep_17 : decode cX3_parseStep 17 = .ok (.getfield 31, 3) := by decide +kernel
theorem dX3_parseStep_20 : decode cX3_parseStep 20 = .ok (.iconst 1, 1) := by decide +kernel
theorem dX3_parseStep_21 : decode cX3_parseStep 21 = .ok (.iadd, 1) := by decide +kernel
theorem dX3_parseStep_22 : decode cX3_parseStep 22 = .ok (.putfield 31, 3) := by decide +kernel
theorem dX3_parseStep_25 : decode cX3_parseStep 25 = .ok (.aload_n 0, 1) := by decide +kernel
theorem dX3_parseStep_26 : decode cX3_parseStep 26 = .ok (.invokevirtual 54, 3) := by decide +kernel
theorem dX3_parseStep_29 : decode cX3_parseStep 29 = .ok (.istore_n 2, 1) := by decide +kernel
theorem dX3_parseStep_30 : decode cX3_parseStep 30 = .ok (.iload_n 2, 1) := by decide +kernel
theorem dX3_parseStep_31 : decode cX3_parseStep 31 = .ok (.iconst (-1), 1) := by decide +kernel
theorem dX3_parseStep_32 : decode cX3_parseStep 32 = .ok (.if_icmp .ne 5, 3) := by decide +kernel
theorem dX3_parseStep_35 : decode cX3_parseStep 35 = .ok (.aconst_null, 1) := by decide +kernel
theorem dX3_parseStep_36 : decode cX3_parseStep 36 = .ok (.areturn, 1) := by decide +kernel
theorem dX3_parseStep_37 : decode cX3_parseStep 37 = .ok (.iload_n 1, 1) := by decide +kernel
theorem dX3_parseStep_38 : decode cX3_parseStep 38 = .ok (.tableswitch 48 2 5 #[42, 30, 48, 36], 30) := by decide +kernel
theorem dX3_parseStep_68 : decode cX3_parseStep 68 = .ok (.aload_n 0, 1) := by decide +kernel
theorem dX3_parseStep_69 : decode cX3_parseStep 69 = .ok (.iload_n 2, 1) := by decide +kernel
theorem dX3_parseStep_70 : decode cX3_parseStep 70 = .ok (.invokevirtual 58, 3) := by decide +kernel
theorem dX3_parseStep_73 : decode cX3_parseStep 73 = .ok (.areturn, 1) := by decide +kernel
theorem dX3_parseStep_74 : decode cX3_parseStep 74 = .ok (.aload_n 0, 1) := by decide +kernel
theorem dX3_parseStep_75 : decode cX3_parseStep 75 = .ok (.iload_n 2, 1) := by decide +kernel
theorem dX3_parseStep_76 : decode cX3_parseStep 76 = .ok (.invokevirtual 62, 3) := by decide +kernel
theorem dX3_parseStep_79 : decode cX3_parseStep 79 = .ok (.areturn, 1) := by decide +kernel
theorem dX3_parseStep_80 : decode cX3_parseStep 80 = .ok (.aload_n 0, 1) := by decide +kernel
theorem dX3_parseStep_81 : decode cX3_parseStep 81 = .ok (.iload_n 2, 1) := by decide +kernel
theorem dX3_parseStep_82 : decode cX3_parseStep 82 = .ok (.invokevirtual 65, 3) := by decide +kernel
theorem dX3_parseStep_85 : decode cX3_parseStep 85 = .ok (.areturn, 1) := by decide +kernel
theorem dX3_parseStep_86 : decode cX3_parseStep 86 = .ok (.new 15, 3) := by decide +kernel
theorem dX3_parseStep_89 : decode cX3_parseStep 89 = .ok (.dup, 1) := by decide +kernel
theorem dX3_parseStep_90 : decode cX3_parseStep 90 = .ok (.iload_n 1, 1) := by decide +kernel
theorem dX3_parseStep_91 : decode cX3_parseStep 91 = .ok (.iload_n 2, 1) := by decide +kernel
theorem dX3_parseStep_92 : decode cX3_parseStep 92 = .ok (.iload_n 2, 1) := by decide +kernel
theorem dX3_parseStep_93 : decode cX3_parseStep 93 = .ok (.iconst 0, 1) := by decide +kernel
theorem dX3_parseStep_94 : decode cX3_parseStep 94 = .ok (.invokespecial 68, 3) := by decide +kernel
theorem dX3_parseStep_97 : decode cX3_parseStep 97 = .ok (.areturn, 1) := by decide +kernel
theorem dX3_kindOf_0 : decode cX3_kindOf 0 = .ok (.iload_n 0, 1) := by decide +kernel
theorem dX3_kindOf_1 : decode cX3_kindOf 1 = .ok (.bipush 114, 2) := by decide +kernel
theorem dX3_kindOf_3 : decode cX3_kindOf 3 = .ok (.if_icmp .ne 5, 3) := by decide +kernel
theorem dX3_kindOf_6 : decode cX3_kindOf 6 = .ok (.iconst 0, 1) := by decide +kernel
theorem dX3_kindOf_7 : decode cX3_kindOf 7 = .ok (.ireturn, 1) := by decide +kernel
theorem dX3_kindOf_8 : decode cX3_kindOf 8 = .ok (.iload_n 0, 1) := by decide +kernel
theorem dX3_kindOf_9 : decode cX3_kindOf 9 = .ok (.bipush 119, 2) := by decide +kernel
theorem dX3_kindOf_11 : decode cX3_kindOf 11 = .ok (.if_icmp .ne 5, 3) := by decide +kernel
theorem dX3_kindOf_14 : decode cX3_kindOf 14 = .ok (.iconst 3, 1) := by decide +kernel
theorem dX3_kindOf_15 : decode cX3_kindOf 15 = .ok (.ireturn, 1) := by decide +kernel
theorem dX3_kindOf_16 : decode cX3_kindOf 16 = .ok (.iload_n 0, 1) := by decide +kernel
theorem dX3_kindOf_17 : decode cX3_kindOf 17 = .ok (.bipush 100, 2) := by decide +kernel
theorem dX3_kindOf_19 : decode cX3_kindOf 19 = .ok (.if_icmp .ne 5, 3) := by decide +kernel
theorem dX3_kindOf_22 : decode cX3_kindOf 22 = .ok (.iconst 4, 1) := by decide +kernel
theorem dX3_kindOf_23 : decode cX3_kindOf 23 = .ok (.ireturn, 1) := by decide +kernel
theorem dX3_kindOf_24 : decode cX3_kindOf 24 = .ok (.iload_n 0, 1) := by decide +kernel
theorem dX3_kindOf_25 : decode cX3_kindOf 25 = .ok (.bipush 97, 2) := by decide +kernel
theorem dX3_kindOf_27 : decode cX3_kindOf 27 = .ok (.if_icmp .ne 5, 3) := by decide +kernel
theorem dX3_kindOf_30 : decode cX3_kindOf 30 = .ok (.iconst 5, 1) := by decide +kernel
theorem dX3_kindOf_31 : decode cX3_kindOf 31 = .ok (.ireturn, 1) := by decide +kernel
theorem dX3_kindOf_32 : decode cX3_kindOf 32 = .ok (.iload_n 0, 1) := by decide +kernel
theorem dX3_kindOf_33 : decode cX3_kindOf 33 = .ok (.bipush 115, 2) := by decide +kernel
theorem dX3_kindOf_35 : decode cX3_kindOf 35 = .ok (.if_icmp .ne 7, 3) := by decide +kernel
theorem dX3_kindOf_38 : decode cX3_kindOf 38 = .ok (.iconst 2, 1) := by decide +kernel
theorem dX3_kindOf_39 : decode cX3_kindOf 39 = .ok (.goto 4, 3) := by decide +kernel
theorem dX3_kindOf_42 : decode cX3_kindOf 42 = .ok (.iconst (-1), 1) := by decide +kernel
theorem dX3_kindOf_43 : decode cX3_kindOf 43 = .ok (.ireturn, 1) := by decide +kernel
theorem dX3_parseWrite_0 : decode cX3_parseWrite 0 = .ok (.aload_n 0, 1) := by decide +kernel
theorem dX3_parseWrite_1 : decode cX3_parseWrite 1 = .ok (.bipush 61, 2) := by decide +kernel
theorem dX3_parseWrite_3 : decode cX3_parseWrite 3 = .ok (.invokevirtual 42, 3) := by decide +kernel
theorem dX3_parseWrite_6 : decode cX3_parseWrite 6 = .ok (.ifCond .ne 5, 3) := by decide +kernel
theorem dX3_parseWrite_9 : decode cX3_parseWrite 9 = .ok (.aconst_null, 1) := by decide +kernel
theorem dX3_parseWrite_10 : decode cX3_parseWrite 10 = .ok (.areturn, 1) := by decide +kernel
theorem dX3_parseWrite_11 : decode cX3_parseWrite 11 = .ok (.aload_n 0, 1) := by decide +kernel
theorem dX3_parseWrite_12 : decode cX3_parseWrite 12 = .ok (.bipush 45, 2) := by decide +kernel
theorem dX3_parseWrite_14 : decode cX3_parseWrite 14 = .ok (.invokevirtual 42, 3) := by decide +kernel
theorem dX3_parseWrite_17 : decode cX3_parseWrite 17 = .ok (.istore_n 2, 1) := by decide +kernel
theorem dX3_parseWrite_18 : decode cX3_parseWrite 18 = .ok (.aload_n 0, 1) := by decide +kernel
theorem dX3_parseWrite_19 : decode cX3_parseWrite 19 = .ok (.iconst 3, 1) := by decide +kernel
theorem dX3_parseWrite_20 : decode cX3_parseWrite 20 = .ok (.iload_n 1, 1) := by decide +kernel
theorem dX3_parseWrite_21 : decode cX3_parseWrite 21 = .ok (.iload_n 2, 1) := by decide +kernel
theorem dX3_parseWrite_22 : decode cX3_parseWrite 22 = .ok (.invokevirtual 71, 3) := by decide +kernel
theorem dX3_parseWrite_25 : decode cX3_parseWrite 25 = .ok (.areturn, 1) := by decide +kernel
theorem dX3_parseAdd_0 : decode cX3_parseAdd 0 = .ok (.aload_n 0, 1) := by decide +kernel
theorem dX3_parseAdd_1 : decode cX3_parseAdd 1 = .ok (.bipush 45, 2) := by decide +kernel
theorem dX3_parseAdd_3 : decode cX3_parseAdd 3 = .ok (.invokevirtual 42, 3) := by decide +kernel
theorem dX3_parseAdd_6 : decode cX3_parseAdd 6 = .ok (.istore_n 2, 1) := by decide +kernel
theorem dX3_parseAdd_7 : decode cX3_parseAdd 7 = .ok (.iload_n 2, 1) := by decide +kernel
theorem dX3_parseAdd_8 : decode cX3_parseAdd 8 = .ok (.ifCond .ne 14, 3) := by decide +kernel
theorem dX3_parseAdd_11 : decode cX3_parseAdd 11 = .ok (.aload_n 0, 1) := by decide +kernel
theorem dX3_parseAdd_12 : decode cX3_parseAdd 12 = .ok (.bipush 43, 2) := by decide +kernel
theorem dX3_parseAdd_14 : decode cX3_parseAdd 14 = .ok (.invokevirtual 42, 3) := by decide +kernel
theorem dX3_parseAdd_17 : decode cX3_parseAdd 17 = .ok (.ifCond .ne 5, 3) := by decide +kernel
theorem dX3_parseAdd_20 : decode cX3_parseAdd 20 = .ok (.aconst_null, 1) := by decide +kernel
theorem dX3_parseAdd_21 : decode cX3_parseAdd 21 = .ok (.areturn, 1) := by decide +kernel
theorem dX3_parseAdd_22 : decode cX3_parseAdd 22 = .ok (.aload_n 0, 1) := by decide +kernel
theorem dX3_parseAdd_23 : decode cX3_parseAdd 23 = .ok (.iconst 5, 1) := by decide +kernel
theorem dX3_parseAdd_24 : decode cX3_parseAdd 24 = .ok (.iload_n 1, 1) := by decide +kernel
theorem dX3_parseAdd_25 : decode cX3_parseAdd 25 = .ok (.iload_n 2, 1) := by decide +kernel
theorem dX3_parseAdd_26 : decode cX3_parseAdd 26 = .ok (.invokevirtual 71, 3) := by decide +kernel
theorem dX3_parseAdd_29 : decode cX3_parseAdd 29 = .ok (.areturn, 1) := by decide +kernel
theorem dX3_parseSum_0 : decode cX3_parseSum 0 = .ok (.aload_n 0, 1) := by decide +kernel
theorem dX3_parseSum_1 : decode cX3_parseSum 1 = .ok (.bipush 45, 2) := by decide +kernel
theorem dX3_parseSum_3 : decode cX3_parseSum 3 = .ok (.invokevirtual 42, 3) := by decide +kernel
theorem dX3_parseSum_6 : decode cX3_parseSum 6 = .ok (.ifCond .ne 5, 3) := by decide +kernel
theorem dX3_parseSum_9 : decode cX3_parseSum 9 = .ok (.aconst_null, 1) := by decide +kernel
theorem dX3_parseSum_10 : decode cX3_parseSum 10 = .ok (.areturn, 1) := by decide +kernel
theorem dX3_parseSum_11 : decode cX3_parseSum 11 = .ok (.aload_n 0, 1) := by decide +kernel
theorem dX3_parseSum_12 : decode cX3_parseSum 12 = .ok (.invokevirtual 54, 3) := by decide +kernel
theorem dX3_parseSum_15 : decode cX3_parseSum 15 = .ok (.istore_n 2, 1) := by decide +kernel
theorem dX3_parseSum_16 : decode cX3_parseSum 16 = .ok (.iload_n 2, 1) := by decide +kernel
theorem dX3_parseSum_17 : decode cX3_parseSum 17 = .ok (.iconst (-1), 1) := by decide +kernel
theorem dX3_parseSum_18 : decode cX3_parseSum 18 = .ok (.if_icmp .ne 7, 3) := by decide +kernel
theorem dX3_parseSum_21 : decode cX3_parseSum 21 = .ok (.aconst_null, 1) := by decide +kernel
theorem dX3_parseSum_22 : decode cX3_parseSum 22 = .ok (.goto 16, 3) := by decide +kernel
theorem dX3_parseSum_25 : decode cX3_parseSum 25 = .ok (.new 15, 3) := by decide +kernel
theorem dX3_parseSum_28 : decode cX3_parseSum 28 = .ok (.dup, 1) := by decide +kernel
theorem dX3_parseSum_29 : decode cX3_parseSum 29 = .ok (.iconst 2, 1) := by decide +kernel
theorem dX3_parseSum_30 : decode cX3_parseSum 30 = .ok (.iload_n 1, 1) := by decide +kernel
theorem dX3_parseSum_31 : decode cX3_parseSum 31 = .ok (.iload_n 2, 1) := by decide +kernel
theorem dX3_parseSum_32 : decode cX3_parseSum 32 = .ok (.sipush (-999), 3) := by decide +kernel
theorem dX3_parseSum_35 : decode cX3_parseSum 35 = .ok (.invokespecial 68, 3) := by decide +kernel
theorem dX3_parseSum_38 : decode cX3_parseSum 38 = .ok (.areturn, 1) := by decide +kernel
theorem dX3_parseDigits_0 : decode cX3_parseDigits 0 = .ok (.iconst 0, 1) := by decide +kernel
theorem dX3_parseDigits_1 : decode cX3_parseDigits 1 = .ok (.istore 4, 2) := by decide +kernel
theorem dX3_parseDigits_3 : decode cX3_parseDigits 3 = .ok (.iconst 0, 1) := by decide +kernel
theorem dX3_parseDigits_4 : decode cX3_parseDigits 4 = .ok (.istore 5, 2) := by decide +kernel
theorem dX3_parseDigits_6 : decode cX3_parseDigits 6 = .ok (.iload 5, 2) := by decide +kernel
theorem dX3_parseDigits_8 : decode cX3_parseDigits 8 = .ok (.iconst 3, 1) := by decide +kernel
theorem dX3_parseDigits_9 : decode cX3_parseDigits 9 = .ok (.if_icmp .ge 44, 3) := by decide +kernel
theorem dX3_parseDigits_12 : decode cX3_parseDigits 12 = .ok (.aload_n 0, 1) := by decide +kernel
theorem dX3_parseDigits_13 : decode cX3_parseDigits 13 = .ok (.invokevirtual 46, 3) := by decide +kernel
theorem dX3_parseDigits_16 : decode cX3_parseDigits 16 = .ok (.invokestatic 75, 3) := by decide +kernel
theorem dX3_parseDigits_19 : decode cX3_parseDigits 19 = .ok (.ifCond .eq 34, 3) := by decide +kernel
theorem dX3_parseDigits_22 : decode cX3_parseDigits 22 = .ok (.iload 4, 2) := by decide +kernel
theorem dX3_parseDigits_24 : decode cX3_parseDigits 24 = .ok (.bipush 10, 2) := by decide +kernel
theorem dX3_parseDigits_26 : decode cX3_parseDigits 26 = .ok (.imul, 1) := by decide +kernel
theorem dX3_parseDigits_27 : decode cX3_parseDigits 27 = .ok (.aload_n 0, 1) := by decide +kernel
theorem dX3_parseDigits_28 : decode cX3_parseDigits 28 = .ok (.invokevirtual 46, 3) := by decide +kernel
theorem dX3_parseDigits_31 : decode cX3_parseDigits 31 = .ok (.bipush 48, 2) := by decide +kernel
theorem dX3_parseDigits_33 : decode cX3_parseDigits 33 = .ok (.isub, 1) := by decide +kernel
theorem dX3_parseDigits_34 : decode cX3_parseDigits 34 = .ok (.iadd, 1) := by decide +kernel
theorem dX3_parseDigits_35 : decode cX3_parseDigits 35 = .ok (.istore 4, 2) := by decide +kernel
theorem dX3_parseDigits_37 : decode cX3_parseDigits 37 = .ok (.aload_n 0, 1) := by decide +kernel
theorem dX3_parseDigits_38 : decode cX3_parseDigits 38 = .ok (.dup, 1) := by decide +kernel
theorem dX3_parseDigits_39 : decode cX3_parseDigits 39 = .ok (.getfield 31, 3) := by decide +kernel
theorem dX3_parseDigits_42 : decode cX3_parseDigits 42 = .ok (.iconst 1, 1) := by decide +kernel
theorem dX3_parseDigits_43 : decode cX3_parseDigits 43 = .ok (.iadd, 1) := by decide +kernel
theorem dX3_parseDigits_44 : decode cX3_parseDigits 44 = .ok (.putfield 31, 3) := by decide +kernel
theorem dX3_parseDigits_47 : decode cX3_parseDigits 47 = .ok (.iinc 5 1, 3) := by decide +kernel
theorem dX3_parseDigits_50 : decode cX3_parseDigits 50 = .ok (.goto (-44), 3) := by decide +kernel
theorem dX3_parseDigits_53 : decode cX3_parseDigits 53 = .ok (.iload 5, 2) := by decide +kernel
theorem dX3_parseDigits_55 : decode cX3_parseDigits 55 = .ok (.ifCond .ne 7, 3) := by decide +kernel
theorem dX3_parseDigits_58 : decode cX3_parseDigits 58 = .ok (.aconst_null, 1) := by decide +kernel
theorem dX3_parseDigits_59 : decode cX3_parseDigits 59 = .ok (.goto 25, 3) := by decide +kernel
theorem dX3_parseDigits_62 : decode cX3_parseDigits 62 = .ok (.new 15, 3) := by decide +kernel
theorem dX3_parseDigits_65 : decode cX3_parseDigits 65 = .ok (.dup, 1) := by decide +kernel
theorem dX3_parseDigits_66 : decode cX3_parseDigits 66 = .ok (.iload_n 1, 1) := by decide +kernel
theorem dX3_parseDigits_67 : decode cX3_parseDigits 67 = .ok (.iload_n 2, 1) := by decide +kernel
theorem dX3_parseDigits_68 : decode cX3_parseDigits 68 = .ok (.iload_n 2, 1) := by decide +kernel
theorem dX3_parseDigits_69 : decode cX3_parseDigits 69 = .ok (.iload_n 3, 1) := by decide +kernel
theorem dX3_parseDigits_70 : decode cX3_parseDigits 70 = .ok (.ifCond .eq 9, 3) := by decide +kernel
theorem dX3_parseDigits_73 : decode cX3_parseDigits 73 = .ok (.iload 4, 2) := by decide +kernel
theorem dX3_parseDigits_75 : decode cX3_parseDigits 75 = .ok (.ineg, 1) := by decide +kernel
theorem dX3_parseDigits_76 : decode cX3_parseDigits 76 = .ok (.goto 5, 3) := by decide +kernel
theorem dX3_parseDigits_79 : decode cX3_parseDigits 79 = .ok (.iload 4, 2) := by decide +kernel
theorem dX3_parseDigits_81 : decode cX3_parseDigits 81 = .ok (.invokespecial 68, 3) := by decide +kernel
theorem dX3_parseDigits_84 : decode cX3_parseDigits 84 = .ok (.areturn, 1) := by decide +kernel
theorem dX3_parseKey_0 : decode cX3_parseKey 0 = .ok (.aload_n 0, 1) := by decide +kernel
theorem dX3_parseKey_1 : decode cX3_parseKey 1 = .ok (.invokevirtual 46, 3) := by decide +kernel
theorem dX3_parseKey_4 : decode cX3_parseKey 4 = .ok (.invokestatic 75, 3) := by decide +kernel
theorem dX3_parseKey_7 : decode cX3_parseKey 7 = .ok (.ifCond .ne 5, 3) := by decide +kernel
theorem dX3_parseKey_10 : decode cX3_parseKey 10 = .ok (.iconst (-1), 1) := by decide +kernel
theorem dX3_parseKey_11 : decode cX3_parseKey 11 = .ok (.ireturn, 1) := by decide +kernel
theorem dX3_parseKey_12 : decode cX3_parseKey 12 = .ok (.aload_n 0, 1) := by decide +kernel
theorem dX3_parseKey_13 : decode cX3_parseKey 13 = .ok (.invokevirtual 46, 3) := by decide +kernel
theorem dX3_parseKey_16 : decode cX3_parseKey 16 = .ok (.bipush 48, 2) := by decide +kernel
theorem dX3_parseKey_18 : decode cX3_parseKey 18 = .ok (.isub, 1) := by decide +kernel
theorem dX3_parseKey_19 : decode cX3_parseKey 19 = .ok (.istore_n 1, 1) := by decide +kernel
theorem dX3_parseKey_20 : decode cX3_parseKey 20 = .ok (.aload_n 0, 1) := by decide +kernel
theorem dX3_parseKey_21 : decode cX3_parseKey 21 = .ok (.dup, 1) := by decide +kernel
theorem dX3_parseKey_22 : decode cX3_parseKey 22 = .ok (.getfield 31, 3) := by decide +kernel
theorem dX3_parseKey_25 : decode cX3_parseKey 25 = .ok (.iconst 1, 1) := by decide +kernel
theorem dX3_parseKey_26 : decode cX3_parseKey 26 = .ok (.iadd, 1) := by decide +kernel
theorem dX3_parseKey_27 : decode cX3_parseKey 27 = .ok (.putfield 31, 3) := by decide +kernel
theorem dX3_parseKey_30 : decode cX3_parseKey 30 = .ok (.aload_n 0, 1) := by decide +kernel
theorem dX3_parseKey_31 : decode cX3_parseKey 31 = .ok (.invokevirtual 46, 3) := by decide +kernel
theorem dX3_parseKey_34 : decode cX3_parseKey 34 = .ok (.invokestatic 75, 3) := by decide +kernel
theorem dX3_parseKey_37 : decode cX3_parseKey 37 = .ok (.ifCond .ne 5, 3) := by decide +kernel
theorem dX3_parseKey_40 : decode cX3_parseKey 40 = .ok (.iload_n 1, 1) := by decide +kernel
theorem dX3_parseKey_41 : decode cX3_parseKey 41 = .ok (.ireturn, 1) := by decide +kernel
theorem dX3_parseKey_42 : decode cX3_parseKey 42 = .ok (.iload_n 1, 1) := by decide +kernel
theorem dX3_parseKey_43 : decode cX3_parseKey 43 = .ok (.bipush 10, 2) := by decide +kernel
theorem dX3_parseKey_45 : decode cX3_parseKey 45 = .ok (.imul, 1) := by decide +kernel
theorem dX3_parseKey_46 : decode cX3_parseKey 46 = .ok (.aload_n 0, 1) := by decide +kernel
theorem dX3_parseKey_47 : decode cX3_parseKey 47 = .ok (.invokevirtual 46, 3) := by decide +kernel
theorem dX3_parseKey_50 : decode cX3_parseKey 50 = .ok (.bipush 48, 2) := by decide +kernel
theorem dX3_parseKey_52 : decode cX3_parseKey 52 = .ok (.isub, 1) := by decide +kernel
theorem dX3_parseKey_53 : decode cX3_parseKey 53 = .ok (.iadd, 1) := by decide +kernel
theorem dX3_parseKey_54 : decode cX3_parseKey 54 = .ok (.istore_n 1, 1) := by decide +kernel
theorem dX3_parseKey_55 : decode cX3_parseKey 55 = .ok (.iload_n 1, 1) := by decide +kernel
theorem dX3_parseKey_56 : decode cX3_parseKey 56 = .ok (.bipush 32, 2) := by decide +kernel
theorem dX3_parseKey_58 : decode cX3_parseKey 58 = .ok (.if_icmp .lt 5, 3) := by decide +kernel
theorem dX3_parseKey_61 : decode cX3_parseKey 61 = .ok (.iconst (-1), 1) := by decide +kernel
theorem dX3_parseKey_62 : decode cX3_parseKey 62 = .ok (.ireturn, 1) := by decide +kernel
theorem dX3_parseKey_63 : decode cX3_parseKey 63 = .ok (.aload_n 0, 1) := by decide +kernel
theorem dX3_parseKey_64 : decode cX3_parseKey 64 = .ok (.dup, 1) := by decide +kernel
theorem dX3_parseKey_65 : decode cX3_parseKey 65 = .ok (.getfield 31, 3) := by decide +kernel
theorem dX3_parseKey_68 : decode cX3_parseKey 68 = .ok (.iconst 1, 1) := by decide +kernel
theorem dX3_parseKey_69 : decode cX3_parseKey 69 = .ok (.iadd, 1) := by decide +kernel
theorem dX3_parseKey_70 : decode cX3_parseKey 70 = .ok (.putfield 31, 3) := by decide +kernel
theorem dX3_parseKey_73 : decode cX3_parseKey 73 = .ok (.iload_n 1, 1) := by decide +kernel
theorem dX3_parseKey_74 : decode cX3_parseKey 74 = .ok (.ireturn, 1) := by decide +kernel
theorem dX3_pass_0 : decode cX3_pass 0 = .ok (.aload_n 0, 1) := by decide +kernel
theorem dX3_pass_1 : decode cX3_pass 1 = .ok (.invokevirtual 46, 3) := by decide +kernel
theorem dX3_pass_4 : decode cX3_pass 4 = .ok (.iload_n 1, 1) := by decide +kernel
theorem dX3_pass_5 : decode cX3_pass 5 = .ok (.if_icmp .eq 5, 3) := by decide +kernel
theorem dX3_pass_8 : decode cX3_pass 8 = .ok (.iconst 0, 1) := by decide +kernel
theorem dX3_pass_9 : decode cX3_pass 9 = .ok (.ireturn, 1) := by decide +kernel
theorem dX3_pass_10 : decode cX3_pass 10 = .ok (.aload_n 0, 1) := by decide +kernel
theorem dX3_pass_11 : decode cX3_pass 11 = .ok (.dup, 1) := by decide +kernel
theorem dX3_pass_12 : decode cX3_pass 12 = .ok (.getfield 31, 3) := by decide +kernel
theorem dX3_pass_15 : decode cX3_pass 15 = .ok (.iconst 1, 1) := by decide +kernel
theorem dX3_pass_16 : decode cX3_pass 16 = .ok (.iadd, 1) := by decide +kernel
theorem dX3_pass_17 : decode cX3_pass 17 = .ok (.putfield 31, 3) := by decide +kernel
theorem dX3_pass_20 : decode cX3_pass 20 = .ok (.iconst 1, 1) := by decide +kernel
theorem dX3_pass_21 : decode cX3_pass 21 = .ok (.ireturn, 1) := by decide +kernel
theorem dX3_current_0 : decode cX3_current 0 = .ok (.aload_n 0, 1) := by decide +kernel
theorem dX3_current_1 : decode cX3_current 1 = .ok (.getfield 31, 3) := by decide +kernel
theorem dX3_current_4 : decode cX3_current 4 = .ok (.aload_n 0, 1) := by decide +kernel
theorem dX3_current_5 : decode cX3_current 5 = .ok (.getfield 25, 3) := by decide +kernel
theorem dX3_current_8 : decode cX3_current 8 = .ok (.if_icmp .ge 15, 3) := by decide +kernel
theorem dX3_current_11 : decode cX3_current 11 = .ok (.aload_n 0, 1) := by decide +kernel
theorem dX3_current_12 : decode cX3_current 12 = .ok (.getfield 9, 3) := by decide +kernel
theorem dX3_current_15 : decode cX3_current 15 = .ok (.aload_n 0, 1) := by decide +kernel
theorem dX3_current_16 : decode cX3_current 16 = .ok (.getfield 31, 3) := by decide +kernel
theorem dX3_current_19 : decode cX3_current 19 = .ok (.caload, 1) := by decide +kernel
theorem dX3_current_20 : decode cX3_current 20 = .ok (.goto 4, 3) := by decide +kernel
theorem dX3_current_23 : decode cX3_current 23 = .ok (.iconst 0, 1) := by decide +kernel
theorem dX3_current_24 : decode cX3_current 24 = .ok (.ireturn, 1) := by decide +kernel
theorem dX3_isDigit_0 : decode cX3_isDigit 0 = .ok (.iload_n 0, 1) := by decide +kernel
theorem dX3_isDigit_1 : decode cX3_isDigit 1 = .ok (.bipush 48, 2) := by decide +kernel
theorem dX3_isDigit_3 : decode cX3_isDigit 3 = .ok (.if_icmp .lt 13, 3) := by decide +kernel
theorem dX3_isDigit_6 : decode cX3_isDigit 6 = .ok (.iload_n 0, 1) := by decide +kernel
theorem dX3_isDigit_7 : decode cX3_isDigit 7 = .ok (.bipush 57, 2) := by decide +kernel
theorem dX3_isDigit_9 : decode cX3_isDigit 9 = .ok (.if_icmp .gt 7, 3) := by decide +kernel
theorem dX3_isDigit_12 : decode cX3_isDigit 12 = .ok (.iconst 1, 1) := by decide +kernel
theorem dX3_isDigit_13 : decode cX3_isDigit 13 = .ok (.goto 4, 3) := by decide +kernel
theorem dX3_isDigit_16 : decode cX3_isDigit 16 = .ok (.iconst 0, 1) := by decide +kernel
theorem dX3_isDigit_17 : decode cX3_isDigit 17 = .ok (.ireturn, 1) := by decide +kernel
theorem dX4_init_0 : decode cX4_init 0 = .ok (.aload_n 0, 1) := by decide +kernel
theorem dX4_init_1 : decode cX4_init 1 = .ok (.invokespecial 3, 3) := by decide +kernel
theorem dX4_init_4 : decode cX4_init 4 = .ok (.aload_n 0, 1) := by decide +kernel
theorem dX4_init_5 : decode cX4_init 5 = .ok (.iload_n 1, 1) := by decide +kernel
theorem dX4_init_6 : decode cX4_init 6 = .ok (.putfield 9, 3) := by decide +kernel
theorem dX4_init_9 : decode cX4_init 9 = .ok (.aload_n 0, 1) := by decide +kernel
theorem dX4_init_10 : decode cX4_init 10 = .ok (.iload_n 2, 1) := by decide +kernel
theorem dX4_init_11 : decode cX4_init 11 = .ok (.putfield 15, 3) := by decide +kernel
theorem dX4_init_14 : decode cX4_init 14 = .ok (.aload_n 0, 1) := by decide +kernel
theorem dX4_init_15 : decode cX4_init 15 = .ok (.bipush 24, 2) := by decide +kernel
theorem dX4_init_17 : decode cX4_init 17 = .ok (.anewarray 18, 3) := by decide +kernel
theorem dX4_init_20 : decode cX4_init 20 = .ok (.putfield 20, 3) := by decide +kernel
theorem dX4_init_23 : decode cX4_init 23 = .ok (.aload_n 0, 1) := by decide +kernel
theorem dX4_init_24 : decode cX4_init 24 = .ok (.bipush 32, 2) := by decide +kernel
theorem dX4_init_26 : decode cX4_init 26 = .ok (.newarray .int, 2) := by decide +kernel
theorem dX4_init_28 : decode cX4_init 28 = .ok (.putfield 24, 3) := by decide +kernel
theorem dX4_init_31 : decode cX4_init 31 = .ok (.aload_n 0, 1) := by decide +kernel
theorem dX4_init_32 : decode cX4_init 32 = .ok (.bipush 32, 2) := by decide +kernel
theorem dX4_init_34 : decode cX4_init 34 = .ok (.newarray .int, 2) := by decide +kernel
theorem dX4_init_36 : decode cX4_init 36 = .ok (.putfield 28, 3) := by decide +kernel
theorem dX4_init_39 : decode cX4_init 39 = .ok (.aload_n 0, 1) := by decide +kernel
theorem dX4_init_40 : decode cX4_init 40 = .ok (.iconst 0, 1) := by decide +kernel
theorem dX4_init_41 : decode cX4_init 41 = .ok (.putfield 31, 3) := by decide +kernel
theorem dX4_init_44 : decode cX4_init 44 = .ok (.return_, 1) := by decide +kernel
theorem dX4_canOperate_0 : decode cX4_canOperate 0 = .ok (.aload_n 0, 1) := by decide +kernel
theorem dX4_canOperate_1 : decode cX4_canOperate 1 = .ok (.getfield 31, 3) := by decide +kernel
theorem dX4_canOperate_4 : decode cX4_canOperate 4 = .ok (.ifCond .ne 16, 3) := by decide +kernel
theorem dX4_canOperate_7 : decode cX4_canOperate 7 = .ok (.aload_n 0, 1) := by decide +kernel
theorem dX4_canOperate_8 : decode cX4_canOperate 8 = .ok (.getfield 34, 3) := by decide +kernel
theorem dX4_canOperate_11 : decode cX4_canOperate 11 = .ok (.bipush 24, 2) := by decide +kernel
theorem dX4_canOperate_13 : decode cX4_canOperate 13 = .ok (.if_icmp .ge 7, 3) := by decide +kernel
theorem dX4_canOperate_16 : decode cX4_canOperate 16 = .ok (.iconst 1, 1) := by decide +kernel
theorem dX4_canOperate_17 : decode cX4_canOperate 17 = .ok (.goto 4, 3) := by decide +kernel
theorem dX4_canOperate_20 : decode cX4_canOperate 20 = .ok (.iconst 0, 1) := by decide +kernel
theorem dX4_canOperate_21 : decode cX4_canOperate 21 = .ok (.ireturn, 1) := by decide +kernel
theorem dX4_hasRecorded_0 : decode cX4_hasRecorded 0 = .ok (.aload_n 0, 1) := by decide +kernel
theorem dX4_hasRecorded_1 : decode cX4_hasRecorded 1 = .ok (.getfield 37, 3) := by decide +kernel
theorem dX4_hasRecorded_4 : decode cX4_hasRecorded 4 = .ok (.iconst 1, 1) := by decide +kernel
theorem dX4_hasRecorded_5 : decode cX4_hasRecorded 5 = .ok (.iload_n 1, 1) := by decide +kernel
theorem dX4_hasRecorded_6 : decode cX4_hasRecorded 6 = .ok (.ishl, 1) := by decide +kernel
theorem dX4_hasRecorded_7 : decode cX4_hasRecorded 7 = .ok (.iand, 1) := by decide +kernel
theorem dX4_hasRecorded_8 : decode cX4_hasRecorded 8 = .ok (.ifCond .eq 7, 3) := by decide +kernel
theorem dX4_hasRecorded_11 : decode cX4_hasRecorded 11 = .ok (.iconst 1, 1) := by decide +kernel
theorem dX4_hasRecorded_12 : decode cX4_hasRecorded 12 = .ok (.goto 4, 3) := by decide +kernel
theorem dX4_hasRecorded_15 : decode cX4_hasRecorded 15 = .ok (.iconst 0, 1) := by decide +kernel
theorem dX4_hasRecorded_16 : decode cX4_hasRecorded 16 = .ok (.ireturn, 1) := by decide +kernel
theorem dX4_hasWritten_0 : decode cX4_hasWritten 0 = .ok (.aload_n 0, 1) := by decide +kernel
theorem dX4_hasWritten_1 : decode cX4_hasWritten 1 = .ok (.getfield 40, 3) := by decide +kernel
theorem dX4_hasWritten_4 : decode cX4_hasWritten 4 = .ok (.iconst 1, 1) := by decide +kernel
theorem dX4_hasWritten_5 : decode cX4_hasWritten 5 = .ok (.iload_n 1, 1) := by decide +kernel
theorem dX4_hasWritten_6 : decode cX4_hasWritten 6 = .ok (.ishl, 1) := by decide +kernel
theorem dX4_hasWritten_7 : decode cX4_hasWritten 7 = .ok (.iand, 1) := by decide +kernel
theorem dX4_hasWritten_8 : decode cX4_hasWritten 8 = .ok (.ifCond .eq 7, 3) := by decide +kernel
theorem dX4_hasWritten_11 : decode cX4_hasWritten 11 = .ok (.iconst 1, 1) := by decide +kernel
theorem dX4_hasWritten_12 : decode cX4_hasWritten 12 = .ok (.goto 4, 3) := by decide +kernel
theorem dX4_hasWritten_15 : decode cX4_hasWritten 15 = .ok (.iconst 0, 1) := by decide +kernel
theorem dX4_hasWritten_16 : decode cX4_hasWritten 16 = .ok (.ireturn, 1) := by decide +kernel
theorem dX4_keep_0 : decode cX4_keep 0 = .ok (.aload_n 1, 1) := by decide +kernel
theorem dX4_keep_1 : decode cX4_keep 1 = .ok (.iload_n 2, 1) := by decide +kernel
theorem dX4_keep_2 : decode cX4_keep 2 = .ok (.putfield 43, 3) := by decide +kernel
theorem dX4_keep_5 : decode cX4_keep 5 = .ok (.aload_n 1, 1) := by decide +kernel
theorem dX4_keep_6 : decode cX4_keep 6 = .ok (.iload_n 3, 1) := by decide +kernel
theorem dX4_keep_7 : decode cX4_keep 7 = .ok (.putfield 46, 3) := by decide +kernel
theorem dX4_keep_10 : decode cX4_keep 10 = .ok (.aload_n 0, 1) := by decide +kernel
theorem dX4_keep_11 : decode cX4_keep 11 = .ok (.getfield 34, 3) := by decide +kernel
theorem dX4_keep_14 : decode cX4_keep 14 = .ok (.bipush 24, 2) := by decide +kernel
theorem dX4_keep_16 : decode cX4_keep 16 = .ok (.if_icmp .ge 23, 3) := by decide +kernel
theorem dX4_keep_19 : decode cX4_keep 19 = .ok (.aload_n 0, 1) := by decide +kernel
theorem dX4_keep_20 : decode cX4_keep 20 = .ok (.getfield 20, 3) := by decide +kernel
theorem dX4_keep_23 : decode cX4_keep 23 = .ok (.aload_n 0, 1) := by decide +kernel
theorem dX4_keep_24 : decode cX4_keep 24 = .ok (.getfield 34, 3) := by decide +kernel
theorem dX4_keep_27 : decode cX4_keep 27 = .ok (.aload_n 1, 1) := by decide +kernel
theorem dX4_keep_28 : decode cX4_keep 28 = .ok (.aastore, 1) := by decide +kernel
theorem dX4_keep_29 : decode cX4_keep 29 = .ok (.aload_n 0, 1) := by decide +kernel
theorem dX4_keep_30 : decode cX4_keep 30 = .ok (.dup, 1) := by decide +kernel
theorem dX4_keep_31 : decode cX4_keep 31 = .ok (.getfield 34, 3) := by decide +kernel
theorem dX4_keep_34 : decode cX4_keep 34 = .ok (.iconst 1, 1) := by decide +kernel
theorem dX4_keep_35 : decode cX4_keep 35 = .ok (.iadd, 1) := by decide +kernel
theorem dX4_keep_36 : decode cX4_keep 36 = .ok (.putfield 34, 3) := by decide +kernel
theorem dX4_keep_39 : decode cX4_keep 39 = .ok (.aload_n 1, 1) := by decide +kernel
theorem dX4_keep_40 : decode cX4_keep 40 = .ok (.getfield 49, 3) := by decide +kernel
theorem dX4_keep_43 : decode cX4_keep 43 = .ok (.istore 4, 2) := by decide +kernel
theorem dX4_keep_45 : decode cX4_keep 45 = .ok (.aload_n 1, 1) := by decide +kernel
theorem dX4_keep_46 : decode cX4_keep 46 = .ok (.invokevirtual 52, 3) := by decide +kernel
theorem dX4_keep_49 : decode cX4_keep 49 = .ok (.ifCond .eq 42, 3) := by decide +kernel
theorem dX4_keep_52 : decode cX4_keep 52 = .ok (.aload_n 0, 1) := by decide +kernel
theorem dX4_keep_53 : decode cX4_keep 53 = .ok (.iload 4, 2) := by decide +kernel
theorem dX4_keep_55 : decode cX4_keep 55 = .ok (.invokevirtual 56, 3) := by decide +kernel
theorem dX4_keep_58 : decode cX4_keep 58 = .ok (.ifCond .ne 33, 3) := by decide +kernel
theorem dX4_keep_61 : decode cX4_keep 61 = .ok (.aload_n 0, 1) := by decide +kernel
theorem dX4_keep_62 : decode cX4_keep 62 = .ok (.iload 4, 2) := by decide +kernel
theorem dX4_keep_64 : decode cX4_keep 64 = .ok (.invokevirtual 60, 3) := by decide +kernel
theorem dX4_keep_67 : decode cX4_keep 67 = .ok (.ifCond .ne 24, 3) := by decide +kernel
theorem dX4_keep_70 : decode cX4_keep 70 = .ok (.aload_n 0, 1) := by decide +kernel
theorem dX4_keep_71 : decode cX4_keep 71 = .ok (.dup, 1) := by decide +kernel
theorem dX4_keep_72 : decode cX4_keep 72 = .ok (.getfield 37, 3) := by decide +kernel
theorem dX4_keep_75 : decode cX4_keep 75 = .ok (.iconst 1, 1) := by decide +kernel
theorem dX4_keep_76 : decode cX4_keep 76 = .ok (.iload 4, 2) := by decide +kernel
theorem dX4_keep_78 : decode cX4_keep 78 = .ok (.ishl, 1) := by decide +kernel
theorem dX4_keep_79 : decode cX4_keep 79 = .ok (.ior, 1) := by decide +kernel
theorem dX4_keep_80 : decode cX4_keep 80 = .ok (.putfield 37, 3) := by decide +kernel
theorem dX4_keep_83 : decode cX4_keep 83 = .ok (.aload_n 0, 1) := by decide +kernel
theorem dX4_keep_84 : decode cX4_keep 84 = .ok (.getfield 24, 3) := by decide +kernel
theorem dX4_keep_87 : decode cX4_keep 87 = .ok (.iload 4, 2) := by decide +kernel
theorem dX4_keep_89 : decode cX4_keep 89 = .ok (.iload_n 2, 1) := by decide +kernel
theorem dX4_keep_90 : decode cX4_keep 90 = .ok (.iastore, 1) := by decide +kernel
theorem dX4_keep_91 : decode cX4_keep 91 = .ok (.aload_n 1, 1) := by decide +kernel
theorem dX4_keep_92 : decode cX4_keep 92 = .ok (.invokevirtual 63, 3) := by decide +kernel
theorem dX4_keep_95 : decode cX4_keep 95 = .ok (.ifCond .eq 24, 3) := by decide +kernel
theorem dX4_keep_98 : decode cX4_keep 98 = .ok (.aload_n 0, 1) := by decide +kernel
theorem dX4_keep_99 : decode cX4_keep 99 = .ok (.dup, 1) := by decide +kernel
theorem dX4_keep_100 : decode cX4_keep 100 = .ok (.getfield 40, 3) := by decide +kernel
theorem dX4_keep_103 : decode cX4_keep 103 = .ok (.iconst 1, 1) := by decide +kernel
theorem dX4_keep_104 : decode cX4_keep 104 = .ok (.iload 4, 2) := by decide +kernel
theorem dX4_keep_106 : decode cX4_keep 106 = .ok (.ishl, 1) := by decide +kernel
theorem dX4_keep_107 : decode cX4_keep 107 = .ok (.ior, 1) := by decide +kernel
theorem dX4_keep_108 : decode cX4_keep 108 = .ok (.putfield 40, 3) := by decide +kernel
theorem dX4_keep_111 : decode cX4_keep 111 = .ok (.aload_n 0, 1) := by decide +kernel
theorem dX4_keep_112 : decode cX4_keep 112 = .ok (.getfield 28, 3) := by decide +kernel
theorem dX4_keep_115 : decode cX4_keep 115 = .ok (.iload 4, 2) := by decide +kernel
theorem dX4_keep_117 : decode cX4_keep 117 = .ok (.iload_n 3, 1) := by decide +kernel
theorem dX4_keep_118 : decode cX4_keep 118 = .ok (.iastore, 1) := by decide +kernel
theorem dX4_keep_119 : decode cX4_keep 119 = .ok (.return_, 1) := by decide +kernel
theorem dX4_countPredicates_0 : decode cX4_countPredicates 0 = .ok (.iconst 0, 1) := by decide +kernel
theorem dX4_countPredicates_1 : decode cX4_countPredicates 1 = .ok (.istore_n 1, 1) := by decide +kernel
theorem dX4_countPredicates_2 : decode cX4_countPredicates 2 = .ok (.iconst 0, 1) := by decide +kernel
theorem dX4_countPredicates_3 : decode cX4_countPredicates 3 = .ok (.istore_n 2, 1) := by decide +kernel
theorem dX4_countPredicates_4 : decode cX4_countPredicates 4 = .ok (.iload_n 2, 1) := by decide +kernel
theorem dX4_countPredicates_5 : decode cX4_countPredicates 5 = .ok (.aload_n 0, 1) := by decide +kernel
theorem dX4_countPredicates_6 : decode cX4_countPredicates 6 = .ok (.getfield 34, 3) := by decide +kernel
theorem dX4_countPredicates_9 : decode cX4_countPredicates 9 = .ok (.if_icmp .ge 30, 3) := by decide +kernel
theorem dX4_countPredicates_12 : decode cX4_countPredicates 12 = .ok (.aload_n 0, 1) := by decide +kernel
theorem dX4_countPredicates_13 : decode cX4_countPredicates 13 = .ok (.getfield 20, 3) := by decide +kernel
theorem dX4_countPredicates_16 : decode cX4_countPredicates 16 = .ok (.iload_n 2, 1) := by decide +kernel
theorem dX4_countPredicates_17 : decode cX4_countPredicates 17 = .ok (.aaload, 1) := by decide +kernel
theorem dX4_countPredicates_18 : decode cX4_countPredicates 18 = .ok (.astore_n 3, 1) := by decide +kernel
theorem dX4_countPredicates_19 : decode cX4_countPredicates 19 = .ok (.aload_n 3, 1) := by decide +kernel
theorem dX4_countPredicates_20 : decode cX4_countPredicates 20 = .ok (.ifnull 13, 3) := by decide +kernel
theorem dX4_countPredicates_23 : decode cX4_countPredicates 23 = .ok (.aload_n 3, 1) := by decide +kernel
theorem dX4_countPredicates_24 : decode cX4_countPredicates 24 = .ok (.invokevirtual 66, 3) := by decide +kernel
theorem dX4_countPredicates_27 : decode cX4_countPredicates 27 = .ok (.ifCond .eq 6, 3) := by decide +kernel
theorem dX4_countPredicates_30 : decode cX4_countPredicates 30 = .ok (.iinc 1 1, 3) := by decide +kernel
theorem dX4_countPredicates_33 : decode cX4_countPredicates 33 = .ok (.iinc 2 1, 3) := by decide +kernel
theorem dX4_countPredicates_36 : decode cX4_countPredicates 36 = .ok (.goto (-32), 3) := by decide +kernel
theorem dX4_countPredicates_39 : decode cX4_countPredicates 39 = .ok (.iload_n 1, 1) := by decide +kernel
theorem dX4_countPredicates_40 : decode cX4_countPredicates 40 = .ok (.ireturn, 1) := by decide +kernel
theorem dX4_applyWrites_0 : decode cX4_applyWrites 0 = .ok (.iconst 0, 1) := by decide +kernel
theorem dX4_applyWrites_1 : decode cX4_applyWrites 1 = .ok (.istore_n 2, 1) := by decide +kernel
theorem dX4_applyWrites_2 : decode cX4_applyWrites 2 = .ok (.iload_n 2, 1) := by decide +kernel
theorem dX4_applyWrites_3 : decode cX4_applyWrites 3 = .ok (.bipush 32, 2) := by decide +kernel
theorem dX4_applyWrites_5 : decode cX4_applyWrites 5 = .ok (.if_icmp .ge 26, 3) := by decide +kernel
theorem dX4_applyWrites_8 : decode cX4_applyWrites 8 = .ok (.aload_n 0, 1) := by decide +kernel
theorem dX4_applyWrites_9 : decode cX4_applyWrites 9 = .ok (.iload_n 2, 1) := by decide +kernel
theorem dX4_applyWrites_10 : decode cX4_applyWrites 10 = .ok (.invokevirtual 60, 3) := by decide +kernel
theorem dX4_applyWrites_13 : decode cX4_applyWrites 13 = .ok (.ifCond .eq 12, 3) := by decide +kernel
theorem dX4_applyWrites_16 : decode cX4_applyWrites 16 = .ok (.aload_n 1, 1) := by decide +kernel
theorem dX4_applyWrites_17 : decode cX4_applyWrites 17 = .ok (.iload_n 2, 1) := by decide +kernel
theorem dX4_applyWrites_18 : decode cX4_applyWrites 18 = .ok (.aload_n 0, 1) := by decide +kernel
theorem dX4_applyWrites_19 : decode cX4_applyWrites 19 = .ok (.getfield 28, 3) := by decide +kernel
theorem dX4_applyWrites_22 : decode cX4_applyWrites 22 = .ok (.iload_n 2, 1) := by decide +kernel
theorem dX4_applyWrites_23 : decode cX4_applyWrites 23 = .ok (.iaload, 1) := by decide +kernel
theorem dX4_applyWrites_24 : decode cX4_applyWrites 24 = .ok (.iastore, 1) := by decide +kernel
theorem dX4_applyWrites_25 : decode cX4_applyWrites 25 = .ok (.iinc 2 1, 3) := by decide +kernel
theorem dX4_applyWrites_28 : decode cX4_applyWrites 28 = .ok (.goto (-26), 3) := by decide +kernel
theorem dX4_applyWrites_31 : decode cX4_applyWrites 31 = .ok (.return_, 1) := by decide +kernel
theorem dX4_isHitBy_0 : decode cX4_isHitBy 0 = .ok (.aload_n 0, 1) := by decide +kernel
theorem dX4_isHitBy_1 : decode cX4_isHitBy 1 = .ok (.getfield 37, 3) := by decide +kernel
theorem dX4_isHitBy_4 : decode cX4_isHitBy 4 = .ok (.aload_n 1, 1) := by decide +kernel
theorem dX4_isHitBy_5 : decode cX4_isHitBy 5 = .ok (.getfield 40, 3) := by decide +kernel
theorem dX4_isHitBy_8 : decode cX4_isHitBy 8 = .ok (.iand, 1) := by decide +kernel
theorem dX4_isHitBy_9 : decode cX4_isHitBy 9 = .ok (.ifCond .eq 5, 3) := by decide +kernel
theorem dX4_isHitBy_12 : decode cX4_isHitBy 12 = .ok (.iconst 1, 1) := by decide +kernel
theorem dX4_isHitBy_13 : decode cX4_isHitBy 13 = .ok (.ireturn, 1) := by decide +kernel
theorem dX4_isHitBy_14 : decode cX4_isHitBy 14 = .ok (.iconst 0, 1) := by decide +kernel
theorem dX4_isHitBy_15 : decode cX4_isHitBy 15 = .ok (.istore_n 3, 1) := by decide +kernel
theorem dX4_isHitBy_16 : decode cX4_isHitBy 16 = .ok (.iload_n 3, 1) := by decide +kernel
theorem dX4_isHitBy_17 : decode cX4_isHitBy 17 = .ok (.aload_n 0, 1) := by decide +kernel
theorem dX4_isHitBy_18 : decode cX4_isHitBy 18 = .ok (.getfield 34, 3) := by decide +kernel
theorem dX4_isHitBy_21 : decode cX4_isHitBy 21 = .ok (.if_icmp .ge 34, 3) := by decide +kernel
theorem dX4_isHitBy_24 : decode cX4_isHitBy 24 = .ok (.aload_n 0, 1) := by decide +kernel
theorem dX4_isHitBy_25 : decode cX4_isHitBy 25 = .ok (.getfield 20, 3) := by decide +kernel
theorem dX4_isHitBy_28 : decode cX4_isHitBy 28 = .ok (.iload_n 3, 1) := by decide +kernel
theorem dX4_isHitBy_29 : decode cX4_isHitBy 29 = .ok (.aaload, 1) := by decide +kernel
theorem dX4_isHitBy_30 : decode cX4_isHitBy 30 = .ok (.astore 4, 2) := by decide +kernel
theorem dX4_isHitBy_32 : decode cX4_isHitBy 32 = .ok (.aload 4, 2) := by decide +kernel
theorem dX4_isHitBy_34 : decode cX4_isHitBy 34 = .ok (.ifnull 15, 3) := by decide +kernel
theorem dX4_isHitBy_37 : decode cX4_isHitBy 37 = .ok (.aload 4, 2) := by decide +kernel
theorem dX4_isHitBy_39 : decode cX4_isHitBy 39 = .ok (.aload_n 1, 1) := by decide +kernel
theorem dX4_isHitBy_40 : decode cX4_isHitBy 40 = .ok (.aload_n 2, 1) := by decide +kernel
theorem dX4_isHitBy_41 : decode cX4_isHitBy 41 = .ok (.invokevirtual 69, 3) := by decide +kernel
theorem dX4_isHitBy_44 : decode cX4_isHitBy 44 = .ok (.ifCond .eq 5, 3) := by decide +kernel
theorem dX4_isHitBy_47 : decode cX4_isHitBy 47 = .ok (.iconst 1, 1) := by decide +kernel
theorem dX4_isHitBy_48 : decode cX4_isHitBy 48 = .ok (.ireturn, 1) := by decide +kernel
theorem dX4_isHitBy_49 : decode cX4_isHitBy 49 = .ok (.iinc 3 1, 3) := by decide +kernel
theorem dX4_isHitBy_52 : decode cX4_isHitBy 52 = .ok (.goto (-36), 3) := by decide +kernel
theorem dX4_isHitBy_55 : decode cX4_isHitBy 55 = .ok (.iconst 0, 1) := by decide +kernel
theorem dX4_isHitBy_56 : decode cX4_isHitBy 56 = .ok (.ireturn, 1) := by decide +kernel
theorem dX4_repeatsAlikeOn_0 : decode cX4_repeatsAlikeOn 0 = .ok (.iconst 0, 1) := by decide +kernel
theorem dX4_repeatsAlikeOn_1 : decode cX4_repeatsAlikeOn 1 = .ok (.istore_n 2, 1) := by decide +kernel
theorem dX4_repeatsAlikeOn_2 : decode cX4_repeatsAlikeOn 2 = .ok (.iload_n 2, 1) := by decide +kernel
theorem dX4_repeatsAlikeOn_3 : decode cX4_repeatsAlikeOn 3 = .ok (.aload_n 0, 1) := by decide +kernel
theorem dX4_repeatsAlikeOn_4 : decode cX4_repeatsAlikeOn 4 = .ok (.getfield 34, 3) := by decide +kernel
theorem dX4_repeatsAlikeOn_7 : decode cX4_repeatsAlikeOn 7 = .ok (.if_icmp .ge 34, 3) := by decide +kernel
theorem dX4_repeatsAlikeOn_10 : decode cX4_repeatsAlikeOn 10 = .ok (.aload_n 0, 1) := by decide +kernel
theorem dX4_repeatsAlikeOn_11 : decode cX4_repeatsAlikeOn 11 = .ok (.getfield 20, 3) := by decide +kernel
theorem dX4_repeatsAlikeOn_14 : decode cX4_repeatsAlikeOn 14 = .ok (.iload_n 2, 1) := by decide +kernel
theorem dX4_repeatsAlikeOn_15 : decode cX4_repeatsAlikeOn 15 = .ok (.aaload, 1) := by decide +kernel
theorem dX4_repeatsAlikeOn_16 : decode cX4_repeatsAlikeOn 16 = .ok (.astore_n 3, 1) := by decide +kernel
theorem dX4_repeatsAlikeOn_17 : decode cX4_repeatsAlikeOn 17 = .ok (.aload_n 3, 1) := by decide +kernel
theorem dX4_repeatsAlikeOn_18 : decode cX4_repeatsAlikeOn 18 = .ok (.ifnull 17, 3) := by decide +kernel
theorem dX4_repeatsAlikeOn_21 : decode cX4_repeatsAlikeOn 21 = .ok (.aload_n 3, 1) := by decide +kernel
theorem dX4_repeatsAlikeOn_22 : decode cX4_repeatsAlikeOn 22 = .ok (.aload_n 1, 1) := by decide +kernel
theorem dX4_repeatsAlikeOn_23 : decode cX4_repeatsAlikeOn 23 = .ok (.invokevirtual 73, 3) := by decide +kernel
theorem dX4_repeatsAlikeOn_26 : decode cX4_repeatsAlikeOn 26 = .ok (.aload_n 3, 1) := by decide +kernel
theorem dX4_repeatsAlikeOn_27 : decode cX4_repeatsAlikeOn 27 = .ok (.getfield 46, 3) := by decide +kernel
theorem dX4_repeatsAlikeOn_30 : decode cX4_repeatsAlikeOn 30 = .ok (.if_icmp .eq 5, 3) := by decide +kernel
theorem dX4_repeatsAlikeOn_33 : decode cX4_repeatsAlikeOn 33 = .ok (.iconst 0, 1) := by decide +kernel
theorem dX4_repeatsAlikeOn_34 : decode cX4_repeatsAlikeOn 34 = .ok (.ireturn, 1) := by decide +kernel
theorem dX4_repeatsAlikeOn_35 : decode cX4_repeatsAlikeOn 35 = .ok (.iinc 2 1, 3) := by decide +kernel
theorem dX4_repeatsAlikeOn_38 : decode cX4_repeatsAlikeOn 38 = .ok (.goto (-36), 3) := by decide +kernel
theorem dX4_repeatsAlikeOn_41 : decode cX4_repeatsAlikeOn 41 = .ok (.iconst 1, 1) := by decide +kernel
theorem dX4_repeatsAlikeOn_42 : decode cX4_repeatsAlikeOn 42 = .ok (.ireturn, 1) := by decide +kernel
theorem dX4_becomeAborted_0 : decode cX4_becomeAborted 0 = .ok (.aload_n 0, 1) := by decide +kernel
theorem dX4_becomeAborted_1 : decode cX4_becomeAborted 1 = .ok (.iconst 2, 1) := by decide +kernel
theorem dX4_becomeAborted_2 : decode cX4_becomeAborted 2 = .ok (.putfield 31, 3) := by decide +kernel
theorem dX4_becomeAborted_5 : decode cX4_becomeAborted 5 = .ok (.aload_n 0, 1) := by decide +kernel
theorem dX4_becomeAborted_6 : decode cX4_becomeAborted 6 = .ok (.iload_n 1, 1) := by decide +kernel
theorem dX4_becomeAborted_7 : decode cX4_becomeAborted 7 = .ok (.putfield 77, 3) := by decide +kernel
theorem dX4_becomeAborted_10 : decode cX4_becomeAborted 10 = .ok (.return_, 1) := by decide +kernel
theorem dX5_init_0 : decode cX5_init 0 = .ok (.aload_n 0, 1) := by decide +kernel
theorem dX5_init_1 : decode cX5_init 1 = .ok (.invokespecial 1, 3) := by decide +kernel
theorem dX5_init_4 : decode cX5_init 4 = .ok (.aload_n 0, 1) := by decide +kernel
theorem dX5_init_5 : decode cX5_init 5 = .ok (.new 7, 3) := by decide +kernel
theorem dX5_init_8 : decode cX5_init 8 = .ok (.dup, 1) := by decide +kernel
theorem dX5_init_9 : decode cX5_init 9 = .ok (.invokespecial 9, 3) := by decide +kernel
theorem dX5_init_12 : decode cX5_init 12 = .ok (.putfield 10, 3) := by decide +kernel
theorem dX5_init_15 : decode cX5_init 15 = .ok (.aload_n 0, 1) := by decide +kernel
theorem dX5_init_16 : decode cX5_init 16 = .ok (.bipush 80, 2) := by decide +kernel
theorem dX5_init_18 : decode cX5_init 18 = .ok (.anewarray 16, 3) := by decide +kernel
theorem dX5_init_21 : decode cX5_init 21 = .ok (.putfield 18, 3) := by decide +kernel
theorem dX5_init_24 : decode cX5_init 24 = .ok (.aload_n 0, 1) := by decide +kernel
theorem dX5_init_25 : decode cX5_init 25 = .ok (.iconst 3, 1) := by decide +kernel
theorem dX5_init_26 : decode cX5_init 26 = .ok (.anewarray 22, 3) := by decide +kernel
theorem dX5_init_29 : decode cX5_init 29 = .ok (.putfield 24, 3) := by decide +kernel
theorem dX5_init_32 : decode cX5_init 32 = .ok (.aload_n 0, 1) := by decide +kernel
theorem dX5_init_33 : decode cX5_init 33 = .ok (.new 28, 3) := by decide +kernel
theorem dX5_init_36 : decode cX5_init 36 = .ok (.dup, 1) := by decide +kernel
theorem dX5_init_37 : decode cX5_init 37 = .ok (.invokespecial 30, 3) := by decide +kernel
theorem dX5_init_40 : decode cX5_init 40 = .ok (.putfield 31, 3) := by decide +kernel
theorem dX5_init_43 : decode cX5_init 43 = .ok (.aload_n 0, 1) := by decide +kernel
theorem dX5_init_44 : decode cX5_init 44 = .ok (.bipush 32, 2) := by decide +kernel
theorem dX5_init_46 : decode cX5_init 46 = .ok (.newarray .int, 2) := by decide +kernel
theorem dX5_init_48 : decode cX5_init 48 = .ok (.putfield 35, 3) := by decide +kernel
theorem dX5_init_51 : decode cX5_init 51 = .ok (.aload_n 0, 1) := by decide +kernel
theorem dX5_init_52 : decode cX5_init 52 = .ok (.bipush 61, 2) := by decide +kernel
theorem dX5_init_54 : decode cX5_init 54 = .ok (.newarray .int, 2) := by decide +kernel
theorem dX5_init_56 : decode cX5_init 56 = .ok (.putfield 39, 3) := by decide +kernel
theorem dX5_init_59 : decode cX5_init 59 = .ok (.aload_n 0, 1) := by decide +kernel
theorem dX5_init_60 : decode cX5_init 60 = .ok (.iconst 0, 1) := by decide +kernel
theorem dX5_init_61 : decode cX5_init 61 = .ok (.putfield 42, 3) := by decide +kernel
theorem dX5_init_64 : decode cX5_init 64 = .ok (.aload_n 0, 1) := by decide +kernel
theorem dX5_init_65 : decode cX5_init 65 = .ok (.iconst 0, 1) := by decide +kernel
theorem dX5_init_66 : decode cX5_init 66 = .ok (.putfield 46, 3) := by decide +kernel
theorem dX5_init_69 : decode cX5_init 69 = .ok (.aload_n 0, 1) := by decide +kernel
theorem dX5_init_70 : decode cX5_init 70 = .ok (.iconst 3, 1) := by decide +kernel
theorem dX5_init_71 : decode cX5_init 71 = .ok (.putfield 49, 3) := by decide +kernel
theorem dX5_init_74 : decode cX5_init 74 = .ok (.aload_n 0, 1) := by decide +kernel
theorem dX5_init_75 : decode cX5_init 75 = .ok (.iconst (-1), 1) := by decide +kernel
theorem dX5_init_76 : decode cX5_init 76 = .ok (.putfield 52, 3) := by decide +kernel
theorem dX5_init_79 : decode cX5_init 79 = .ok (.return_, 1) := by decide +kernel
theorem dX5_configure_0 : decode cX5_configure 0 = .ok (.iload_n 1, 1) := by decide +kernel
theorem dX5_configure_1 : decode cX5_configure 1 = .ok (.iconst 0, 1) := by decide +kernel
theorem dX5_configure_2 : decode cX5_configure 2 = .ok (.iconst 1, 1) := by decide +kernel
theorem dX5_configure_3 : decode cX5_configure 3 = .ok (.invokestatic 55, 3) := by decide +kernel
theorem dX5_configure_6 : decode cX5_configure 6 = .ok (.ifCond .eq 21, 3) := by decide +kernel
theorem dX5_configure_9 : decode cX5_configure 9 = .ok (.iload_n 2, 1) := by decide +kernel
theorem dX5_configure_10 : decode cX5_configure 10 = .ok (.iconst 0, 1) := by decide +kernel
theorem dX5_configure_11 : decode cX5_configure 11 = .ok (.iconst 2, 1) := by decide +kernel
theorem dX5_configure_12 : decode cX5_configure 12 = .ok (.invokestatic 55, 3) := by decide +kernel
theorem dX5_configure_15 : decode cX5_configure 15 = .ok (.ifCond .eq 12, 3) := by decide +kernel
theorem dX5_configure_18 : decode cX5_configure 18 = .ok (.iload_n 3, 1) := by decide +kernel
theorem dX5_configure_19 : decode cX5_configure 19 = .ok (.iconst 1, 1) := by decide +kernel
theorem dX5_configure_20 : decode cX5_configure 20 = .ok (.iconst 5, 1) := by decide +kernel
theorem dX5_configure_21 : decode cX5_configure 21 = .ok (.invokestatic 55, 3) := by decide +kernel
theorem dX5_configure_24 : decode cX5_configure 24 = .ok (.ifCond .ne 13, 3) := by decide +kernel
theorem dX5_configure_27 : decode cX5_configure 27 = .ok (.new 59, 3) := by decide +kernel
theorem dX5_configure_30 : decode cX5_configure 30 = .ok (.dup, 1) := by decide +kernel
theorem dX5_configure_31 : decode cX5_configure 31 = .ok (.ldc 61, 2) := by decide +kernel
theorem dX5_configure_33 : decode cX5_configure 33 = .ok (.invokespecial 63, 3) := by decide +kernel
theorem dX5_configure_36 : decode cX5_configure 36 = .ok (.athrow, 1) := by decide +kernel
theorem dX5_configure_37 : decode cX5_configure 37 = .ok (.aload_n 0, 1) := by decide +kernel
theorem dX5_configure_38 : decode cX5_configure 38 = .ok (.iconst 0, 1) := by decide +kernel
theorem dX5_configure_39 : decode cX5_configure 39 = .ok (.invokevirtual 66, 3) := by decide +kernel
theorem dX5_configure_42 : decode cX5_configure 42 = .ok (.ifCond .le 13, 3) := by decide +kernel
theorem dX5_configure_45 : decode cX5_configure 45 = .ok (.new 70, 3) := by decide +kernel
theorem dX5_configure_48 : decode cX5_configure 48 = .ok (.dup, 1) := by decide +kernel
theorem dX5_configure_49 : decode cX5_configure 49 = .ok (.ldc 72, 2) := by decide +kernel
theorem dX5_configure_51 : decode cX5_configure 51 = .ok (.invokespecial 74, 3) := by decide +kernel
theorem dX5_configure_54 : decode cX5_configure 54 = .ok (.athrow, 1) := by decide +kernel
theorem dX5_configure_55 : decode cX5_configure 55 = .ok (.aload_n 0, 1) := by decide +kernel
theorem dX5_configure_56 : decode cX5_configure 56 = .ok (.iload_n 1, 1) := by decide +kernel
theorem dX5_configure_57 : decode cX5_configure 57 = .ok (.putfield 42, 3) := by decide +kernel
theorem dX5_configure_60 : decode cX5_configure 60 = .ok (.aload_n 0, 1) := by decide +kernel
theorem dX5_configure_61 : decode cX5_configure 61 = .ok (.iload_n 2, 1) := by decide +kernel
theorem dX5_configure_62 : decode cX5_configure 62 = .ok (.putfield 46, 3) := by decide +kernel
theorem dX5_configure_65 : decode cX5_configure 65 = .ok (.aload_n 0, 1) := by decide +kernel
theorem dX5_configure_66 : decode cX5_configure 66 = .ok (.iload_n 3, 1) := by decide +kernel
theorem dX5_configure_67 : decode cX5_configure 67 = .ok (.putfield 49, 3) := by decide +kernel
theorem dX5_configure_70 : decode cX5_configure 70 = .ok (.return_, 1) := by decide +kernel
theorem dX5_begin_0 : decode cX5_begin 0 = .ok (.aload_n 0, 1) := by decide +kernel
theorem dX5_begin_1 : decode cX5_begin 1 = .ok (.invokevirtual 75, 3) := by decide +kernel
theorem dX5_begin_4 : decode cX5_begin 4 = .ok (.ifCond .ne 13, 3) := by decide +kernel
theorem dX5_begin_7 : decode cX5_begin 7 = .ok (.new 70, 3) := by decide +kernel
theorem dX5_begin_10 : decode cX5_begin 10 = .ok (.dup, 1) := by decide +kernel
theorem dX5_begin_11 : decode cX5_begin 11 = .ok (.ldc 79, 2) := by decide +kernel
theorem dX5_begin_13 : decode cX5_begin 13 = .ok (.invokespecial 74, 3) := by decide +kernel
theorem dX5_begin_16 : decode cX5_begin 16 = .ok (.athrow, 1) := by decide +kernel
theorem dX5_begin_17 : decode cX5_begin 17 = .ok (.aload_n 0, 1) := by decide +kernel
theorem dX5_begin_18 : decode cX5_begin 18 = .ok (.iconst 1, 1) := by decide +kernel
theorem dX5_begin_19 : decode cX5_begin 19 = .ok (.invokevirtual 81, 3) := by decide +kernel
theorem dX5_begin_22 : decode cX5_begin 22 = .ok (.getfield 85, 3) := by decide +kernel
theorem dX5_begin_25 : decode cX5_begin 25 = .ok (.ireturn, 1) := by decide +kernel
theorem dX5_retry_0 : decode cX5_retry 0 = .ok (.aload_n 0, 1) := by decide +kernel
theorem dX5_retry_1 : decode cX5_retry 1 = .ok (.iload_n 1, 1) := by decide +kernel
theorem dX5_retry_2 : decode cX5_retry 2 = .ok (.invokevirtual 88, 3) := by decide +kernel
theorem dX5_retry_5 : decode cX5_retry 5 = .ok (.astore_n 2, 1) := by decide +kernel
theorem dX5_retry_6 : decode cX5_retry 6 = .ok (.aload_n 2, 1) := by decide +kernel
theorem dX5_retry_7 : decode cX5_retry 7 = .ok (.getfield 91, 3) := by decide +kernel
theorem dX5_retry_10 : decode cX5_retry 10 = .ok (.iconst 2, 1) := by decide +kernel
theorem dX5_retry_11 : decode cX5_retry 11 = .ok (.if_icmp .ne 17, 3) := by decide +kernel
theorem dX5_retry_14 : decode cX5_retry 14 = .ok (.aload_n 2, 1) := by decide +kernel
theorem dX5_retry_15 : decode cX5_retry 15 = .ok (.getfield 94, 3) := by decide +kernel
theorem dX5_retry_18 : decode cX5_retry 18 = .ok (.ifCond .ne 10, 3) := by decide +kernel
theorem dX5_retry_21 : decode cX5_retry 21 = .ok (.aload_n 0, 1) := by decide +kernel
theorem dX5_retry_22 : decode cX5_retry 22 = .ok (.invokevirtual 75, 3) := by decide +kernel
theorem dX5_retry_25 : decode cX5_retry 25 = .ok (.ifCond .ne 13, 3) := by decide +kernel
theorem dX5_retry_28 : decode cX5_retry 28 = .ok (.new 70, 3) := by decide +kernel
theorem dX5_retry_31 : decode cX5_retry 31 = .ok (.dup, 1) := by decide +kernel
theorem dX5_retry_32 : decode cX5_retry 32 = .ok (.ldc 98, 2) := by decide +kernel
theorem dX5_retry_34 : decode cX5_retry 34 = .ok (.invokespecial 74, 3) := by decide +kernel
theorem dX5_retry_37 : decode cX5_retry 37 = .ok (.athrow, 1) := by decide +kernel
theorem dX5_retry_38 : decode cX5_retry 38 = .ok (.aload_n 2, 1) := by decide +kernel
theorem dX5_retry_39 : decode cX5_retry 39 = .ok (.iconst 1, 1) := by decide +kernel
theorem dX5_retry_40 : decode cX5_retry 40 = .ok (.putfield 94, 3) := by decide +kernel
theorem dX5_retry_43 : decode cX5_retry 43 = .ok (.aload_n 0, 1) := by decide +kernel
theorem dX5_retry_44 : decode cX5_retry 44 = .ok (.aload_n 2, 1) := by decide +kernel
theorem dX5_retry_45 : decode cX5_retry 45 = .ok (.getfield 100, 3) := by decide +kernel
theorem dX5_retry_48 : decode cX5_retry 48 = .ok (.iconst 1, 1) := by decide +kernel
theorem dX5_retry_49 : decode cX5_retry 49 = .ok (.iadd, 1) := by decide +kernel
theorem dX5_retry_50 : decode cX5_retry 50 = .ok (.invokevirtual 81, 3) := by decide +kernel
theorem dX5_retry_53 : decode cX5_retry 53 = .ok (.getfield 85, 3) := by decide +kernel
theorem dX5_retry_56 : decode cX5_retry 56 = .ok (.ireturn, 1) := by decide +kernel
theorem dX5_read_0 : decode cX5_read 0 = .ok (.aload_n 0, 1) := by decide +kernel
theorem dX5_read_1 : decode cX5_read 1 = .ok (.iload_n 1, 1) := by decide +kernel
theorem dX5_read_2 : decode cX5_read 2 = .ok (.new 103, 3) := by decide +kernel
theorem dX5_read_5 : decode cX5_read 5 = .ok (.dup, 1) := by decide +kernel
theorem dX5_read_6 : decode cX5_read 6 = .ok (.iconst 0, 1) := by decide +kernel
theorem dX5_read_7 : decode cX5_read 7 = .ok (.iload_n 2, 1) := by decide +kernel
theorem dX5_read_8 : decode cX5_read 8 = .ok (.iload_n 2, 1) := by decide +kernel
theorem dX5_read_9 : decode cX5_read 9 = .ok (.iconst 0, 1) := by decide +kernel
theorem dX5_read_10 : decode cX5_read 10 = .ok (.invokespecial 105, 3) := by decide +kernel
theorem dX5_read_13 : decode cX5_read 13 = .ok (.invokevirtual 108, 3) := by decide +kernel
theorem dX5_read_16 : decode cX5_read 16 = .ok (.ireturn, 1) := by decide +kernel
theorem dX5_scan_0 : decode cX5_scan 0 = .ok (.aload_n 0, 1) := by decide +kernel
theorem dX5_scan_1 : decode cX5_scan 1 = .ok (.iload_n 1, 1) := by decide +kernel
theorem dX5_scan_2 : decode cX5_scan 2 = .ok (.new 103, 3) := by decide +kernel
theorem dX5_scan_5 : decode cX5_scan 5 = .ok (.dup, 1) := by decide +kernel
theorem dX5_scan_6 : decode cX5_scan 6 = .ok (.iconst 1, 1) := by decide +kernel
theorem dX5_scan_7 : decode cX5_scan 7 = .ok (.iload_n 2, 1) := by decide +kernel
theorem dX5_scan_8 : decode cX5_scan 8 = .ok (.iload_n 3, 1) := by decide +kernel
theorem dX5_scan_9 : decode cX5_scan 9 = .ok (.iload 4, 2) := by decide +kernel
theorem dX5_scan_11 : decode cX5_scan 11 = .ok (.invokespecial 105, 3) := by decide +kernel
theorem dX5_scan_14 : decode cX5_scan 14 = .ok (.invokevirtual 108, 3) := by decide +kernel
theorem dX5_scan_17 : decode cX5_scan 17 = .ok (.ireturn, 1) := by decide +kernel
theorem dX5_sum_0 : decode cX5_sum 0 = .ok (.aload_n 0, 1) := by decide +kernel
theorem dX5_sum_1 : decode cX5_sum 1 = .ok (.iload_n 1, 1) := by decide +kernel
theorem dX5_sum_2 : decode cX5_sum 2 = .ok (.new 103, 3) := by decide +kernel
theorem dX5_sum_5 : decode cX5_sum 5 = .ok (.dup, 1) := by decide +kernel
theorem dX5_sum_6 : decode cX5_sum 6 = .ok (.iconst 2, 1) := by decide +kernel
theorem dX5_sum_7 : decode cX5_sum 7 = .ok (.iload_n 2, 1) := by decide +kernel
theorem dX5_sum_8 : decode cX5_sum 8 = .ok (.iload_n 3, 1) := by decide +kernel
theorem dX5_sum_9 : decode cX5_sum 9 = .ok (.sipush (-999), 3) := by decide +kernel
theorem dX5_sum_12 : decode cX5_sum 12 = .ok (.invokespecial 105, 3) := by decide +kernel
theorem dX5_sum_15 : decode cX5_sum 15 = .ok (.invokevirtual 108, 3) := by decide +kernel
theorem dX5_sum_18 : decode cX5_sum 18 = .ok (.ireturn, 1) := by decide +kernel
theorem dX5_write_0 : decode cX5_write 0 = .ok (.aload_n 0, 1) := by decide +kernel
theorem dX5_write_1 : decode cX5_write 1 = .ok (.iload_n 1, 1) := by decide +kernel
theorem dX5_write_2 : decode cX5_write 2 = .ok (.new 103, 3) := by decide +kernel
theorem dX5_write_5 : decode cX5_write 5 = .ok (.dup, 1) := by decide +kernel
theorem dX5_write_6 : decode cX5_write 6 = .ok (.iconst 3, 1) := by decide +kernel
theorem dX5_write_7 : decode cX5_write 7 = .ok (.iload_n 2, 1) := by decide +kernel
theorem dX5_write_8 : decode cX5_write 8 = .ok (.iload_n 2, 1) := by decide +kernel
theorem dX5_write_9 : decode cX5_write 9 = .ok (.iload_n 3, 1) := by decide +kernel
theorem dX5_write_10 : decode cX5_write 10 = .ok (.invokespecial 105, 3) := by decide +kernel
theorem dX5_write_13 : decode cX5_write 13 = .ok (.invokevirtual 108, 3) := by decide +kernel
theorem dX5_write_16 : decode cX5_write 16 = .ok (.pop, 1) := by decide +kernel
theorem dX5_write_17 : decode cX5_write 17 = .ok (.return_, 1) := by decide +kernel
theorem dX5_remove_0 : decode cX5_remove 0 = .ok (.aload_n 0, 1) := by decide +kernel
theorem dX5_remove_1 : decode cX5_remove 1 = .ok (.iload_n 1, 1) := by decide +kernel
theorem dX5_remove_2 : decode cX5_remove 2 = .ok (.new 103, 3) := by decide +kernel
theorem dX5_remove_5 : decode cX5_remove 5 = .ok (.dup, 1) := by decide +kernel
theorem dX5_remove_6 : decode cX5_remove 6 = .ok (.iconst 4, 1) := by decide +kernel
theorem dX5_remove_7 : decode cX5_remove 7 = .ok (.iload_n 2, 1) := by decide +kernel
theorem dX5_remove_8 : decode cX5_remove 8 = .ok (.iload_n 2, 1) := by decide +kernel
theorem dX5_remove_9 : decode cX5_remove 9 = .ok (.iconst 0, 1) := by decide +kernel
theorem dX5_remove_10 : decode cX5_remove 10 = .ok (.invokespecial 105, 3) := by decide +kernel
theorem dX5_remove_13 : decode cX5_remove 13 = .ok (.invokevirtual 108, 3) := by decide +kernel
theorem dX5_remove_16 : decode cX5_remove 16 = .ok (.pop, 1) := by decide +kernel
theorem dX5_remove_17 : decode cX5_remove 17 = .ok (.return_, 1) := by decide +kernel
theorem dX5_add_0 : decode cX5_add 0 = .ok (.aload_n 0, 1) := by decide +kernel
theorem dX5_add_1 : decode cX5_add 1 = .ok (.iload_n 1, 1) := by decide +kernel
theorem dX5_add_2 : decode cX5_add 2 = .ok (.new 103, 3) := by decide +kernel
theorem dX5_add_5 : decode cX5_add 5 = .ok (.dup, 1) := by decide +kernel
theorem dX5_add_6 : decode cX5_add 6 = .ok (.iconst 5, 1) := by decide +kernel
theorem dX5_add_7 : decode cX5_add 7 = .ok (.iload_n 2, 1) := by decide +kernel
theorem dX5_add_8 : decode cX5_add 8 = .ok (.iload_n 2, 1) := by decide +kernel
theorem dX5_add_9 : decode cX5_add 9 = .ok (.iload_n 3, 1) := by decide +kernel
theorem dX5_add_10 : decode cX5_add 10 = .ok (.invokespecial 105, 3) := by decide +kernel
theorem dX5_add_13 : decode cX5_add 13 = .ok (.invokevirtual 108, 3) := by decide +kernel
theorem dX5_add_16 : decode cX5_add 16 = .ok (.ireturn, 1) := by decide +kernel
theorem dX5_commit_0 : decode cX5_commit 0 = .ok (.aload_n 0, 1) := by decide +kernel
theorem dX5_commit_1 : decode cX5_commit 1 = .ok (.iload_n 1, 1) := by decide +kernel
theorem dX5_commit_2 : decode cX5_commit 2 = .ok (.invokevirtual 88, 3) := by decide +kernel
theorem dX5_commit_5 : decode cX5_commit 5 = .ok (.astore_n 2, 1) := by decide +kernel
theorem dX5_commit_6 : decode cX5_commit 6 = .ok (.aload_n 2, 1) := by decide +kernel
theorem dX5_commit_7 : decode cX5_commit 7 = .ok (.getfield 91, 3) := by decide +kernel
theorem dX5_commit_10 : decode cX5_commit 10 = .ok (.ifCond .ne 13, 3) := by decide +kernel
theorem dX5_commit_13 : decode cX5_commit 13 = .ok (.aload_n 0, 1) := by decide +kernel
theorem dX5_commit_14 : decode cX5_commit 14 = .ok (.getfield 10, 3) := by decide +kernel
theorem dX5_commit_17 : decode cX5_commit 17 = .ok (.invokevirtual 112, 3) := by decide +kernel
theorem dX5_commit_20 : decode cX5_commit 20 = .ok (.ifCond .eq 13, 3) := by decide +kernel
theorem dX5_commit_23 : decode cX5_commit 23 = .ok (.new 70, 3) := by decide +kernel
theorem dX5_commit_26 : decode cX5_commit 26 = .ok (.dup, 1) := by decide +kernel
theorem dX5_commit_27 : decode cX5_commit 27 = .ok (.ldc 115, 2) := by decide +kernel
theorem dX5_commit_29 : decode cX5_commit 29 = .ok (.invokespecial 74, 3) := by decide +kernel
theorem dX5_commit_32 : decode cX5_commit 32 = .ok (.athrow, 1) := by decide +kernel
theorem dX5_commit_33 : decode cX5_commit 33 = .ok (.aload_n 0, 1) := by decide +kernel
theorem dX5_commit_34 : decode cX5_commit 34 = .ok (.aload_n 2, 1) := by decide +kernel
theorem dX5_commit_35 : decode cX5_commit 35 = .ok (.invokevirtual 117, 3) := by decide +kernel
theorem dX5_commit_38 : decode cX5_commit 38 = .ok (.ireturn, 1) := by decide +kernel
theorem dX5_abort_0 : decode cX5_abort 0 = .ok (.aload_n 0, 1) := by decide +kernel
theorem dX5_abort_1 : decode cX5_abort 1 = .ok (.aload_n 0, 1) := by decide +kernel
theorem dX5_abort_2 : decode cX5_abort 2 = .ok (.iload_n 1, 1) := by decide +kernel
theorem dX5_abort_3 : decode cX5_abort 3 = .ok (.invokevirtual 121, 3) := by decide +kernel
theorem dX5_abort_6 : decode cX5_abort 6 = .ok (.iconst 5, 1) := by decide +kernel
theorem dX5_abort_7 : decode cX5_abort 7 = .ok (.invokevirtual 124, 3) := by decide +kernel
theorem dX5_abort_10 : decode cX5_abort 10 = .ok (.return_, 1) := by decide +kernel
theorem dX5_clock_0 : decode cX5_clock 0 = .ok (.aload_n 0, 1) := by decide +kernel
theorem dX5_clock_1 : decode cX5_clock 1 = .ok (.getfield 10, 3) := by decide +kernel
theorem dX5_clock_4 : decode cX5_clock 4 = .ok (.getfield 128, 3) := by decide +kernel
theorem dX5_clock_7 : decode cX5_clock 7 = .ok (.ireturn, 1) := by decide +kernel
theorem dX5_transactionCount_0 : decode cX5_transactionCount 0 = .ok (.aload_n 0, 1) := by decide +kernel
theorem dX5_transactionCount_1 : decode cX5_transactionCount 1 = .ok (.getfield 131, 3) := by decide +kernel
theorem dX5_transactionCount_4 : decode cX5_transactionCount 4 = .ok (.ireturn, 1) := by decide +kernel
theorem dX5_activeCount_0 : decode cX5_activeCount 0 = .ok (.aload_n 0, 1) := by decide +kernel
theorem dX5_activeCount_1 : decode cX5_activeCount 1 = .ok (.iconst 0, 1) := by decide +kernel
theorem dX5_activeCount_2 : decode cX5_activeCount 2 = .ok (.invokevirtual 66, 3) := by decide +kernel
theorem dX5_activeCount_5 : decode cX5_activeCount 5 = .ok (.ireturn, 1) := by decide +kernel
theorem dX5_ticketHolder_0 : decode cX5_ticketHolder 0 = .ok (.aload_n 0, 1) := by decide +kernel
theorem dX5_ticketHolder_1 : decode cX5_ticketHolder 1 = .ok (.getfield 52, 3) := by decide +kernel
theorem dX5_ticketHolder_4 : decode cX5_ticketHolder 4 = .ok (.iconst (-1), 1) := by decide +kernel
theorem dX5_ticketHolder_5 : decode cX5_ticketHolder 5 = .ok (.if_icmp .ne 13, 3) := by decide +kernel
theorem dX5_ticketHolder_8 : decode cX5_ticketHolder 8 = .ok (.new 134, 3) := by decide +kernel
theorem dX5_ticketHolder_11 : decode cX5_ticketHolder 11 = .ok (.dup, 1) := by decide +kernel
theorem dX5_ticketHolder_12 : decode cX5_ticketHolder 12 = .ok (.ldc 136, 2) := by decide +kernel
theorem dX5_ticketHolder_14 : decode cX5_ticketHolder 14 = .ok (.invokespecial 138, 3) := by decide +kernel
theorem dX5_ticketHolder_17 : decode cX5_ticketHolder 17 = .ok (.athrow, 1) := by decide +kernel
theorem dX5_ticketHolder_18 : decode cX5_ticketHolder 18 = .ok (.aload_n 0, 1) := by decide +kernel
theorem dX5_ticketHolder_19 : decode cX5_ticketHolder 19 = .ok (.getfield 52, 3) := by decide +kernel
theorem dX5_ticketHolder_22 : decode cX5_ticketHolder 22 = .ok (.ireturn, 1) := by decide +kernel
theorem dX5_state_0 : decode cX5_state 0 = .ok (.aload_n 0, 1) := by decide +kernel
theorem dX5_state_1 : decode cX5_state 1 = .ok (.iload_n 1, 1) := by decide +kernel
theorem dX5_state_2 : decode cX5_state 2 = .ok (.invokevirtual 88, 3) := by decide +kernel
theorem dX5_state_5 : decode cX5_state 5 = .ok (.getfield 91, 3) := by decide +kernel
theorem dX5_state_8 : decode cX5_state 8 = .ok (.ireturn, 1) := by decide +kernel
theorem dX5_attempt_0 : decode cX5_attempt 0 = .ok (.aload_n 0, 1) := by decide +kernel
theorem dX5_attempt_1 : decode cX5_attempt 1 = .ok (.iload_n 1, 1) := by decide +kernel
theorem dX5_attempt_2 : decode cX5_attempt 2 = .ok (.invokevirtual 88, 3) := by decide +kernel
theorem dX5_attempt_5 : decode cX5_attempt 5 = .ok (.getfield 100, 3) := by decide +kernel
theorem dX5_attempt_8 : decode cX5_attempt 8 = .ok (.ireturn, 1) := by decide +kernel
theorem dX5_reason_0 : decode cX5_reason 0 = .ok (.aload_n 0, 1) := by decide +kernel
theorem dX5_reason_1 : decode cX5_reason 1 = .ok (.iload_n 1, 1) := by decide +kernel
theorem dX5_reason_2 : decode cX5_reason 2 = .ok (.invokevirtual 88, 3) := by decide +kernel
theorem dX5_reason_5 : decode cX5_reason 5 = .ok (.astore_n 2, 1) := by decide +kernel
theorem dX5_reason_6 : decode cX5_reason 6 = .ok (.aload_n 2, 1) := by decide +kernel
theorem dX5_reason_7 : decode cX5_reason 7 = .ok (.getfield 91, 3) := by decide +kernel
theorem dX5_reason_10 : decode cX5_reason 10 = .ok (.iconst 2, 1) := by decide +kernel
theorem dX5_reason_11 : decode cX5_reason 11 = .ok (.if_icmp .eq 13, 3) := by decide +kernel
theorem dX5_reason_14 : decode cX5_reason 14 = .ok (.new 70, 3) := by decide +kernel
theorem dX5_reason_17 : decode cX5_reason 17 = .ok (.dup, 1) := by decide +kernel
theorem dX5_reason_18 : decode cX5_reason 18 = .ok (.ldc 139, 2) := by decide +kernel
theorem dX5_reason_20 : decode cX5_reason 20 = .ok (.invokespecial 74, 3) := by decide +kernel
theorem dX5_reason_23 : decode cX5_reason 23 = .ok (.athrow, 1) := by decide +kernel
theorem dX5_reason_24 : decode cX5_reason 24 = .ok (.aload_n 2, 1) := by decide +kernel
theorem dX5_reason_25 : decode cX5_reason 25 = .ok (.getfield 141, 3) := by decide +kernel
theorem dX5_reason_28 : decode cX5_reason 28 = .ok (.ireturn, 1) := by decide +kernel
theorem dX5_commitOf_0 : decode cX5_commitOf 0 = .ok (.aload_n 0, 1) := by decide +kernel
theorem dX5_commitOf_1 : decode cX5_commitOf 1 = .ok (.iload_n 1, 1) := by decide +kernel
theorem dX5_commitOf_2 : decode cX5_commitOf 2 = .ok (.invokevirtual 88, 3) := by decide +kernel
theorem dX5_commitOf_5 : decode cX5_commitOf 5 = .ok (.astore_n 2, 1) := by decide +kernel
theorem dX5_commitOf_6 : decode cX5_commitOf 6 = .ok (.aload_n 2, 1) := by decide +kernel
theorem dX5_commitOf_7 : decode cX5_commitOf 7 = .ok (.getfield 91, 3) := by decide +kernel
theorem dX5_commitOf_10 : decode cX5_commitOf 10 = .ok (.iconst 1, 1) := by decide +kernel
theorem dX5_commitOf_11 : decode cX5_commitOf 11 = .ok (.if_icmp .eq 13, 3) := by decide +kernel
theorem dX5_commitOf_14 : decode cX5_commitOf 14 = .ok (.new 70, 3) := by decide +kernel
theorem dX5_commitOf_17 : decode cX5_commitOf 17 = .ok (.dup, 1) := by decide +kernel
theorem dX5_commitOf_18 : decode cX5_commitOf 18 = .ok (.ldc 144, 2) := by decide +kernel
theorem dX5_commitOf_20 : decode cX5_commitOf 20 = .ok (.invokespecial 74, 3) := by decide +kernel
theorem dX5_commitOf_23 : decode cX5_commitOf 23 = .ok (.athrow, 1) := by decide +kernel
theorem dX5_commitOf_24 : decode cX5_commitOf 24 = .ok (.aload_n 2, 1) := by decide +kernel
theorem dX5_commitOf_25 : decode cX5_commitOf 25 = .ok (.getfield 146, 3) := by decide +kernel
theorem dX5_commitOf_28 : decode cX5_commitOf 28 = .ok (.ireturn, 1) := by decide +kernel
theorem dX5_operationCount_0 : decode cX5_operationCount 0 = .ok (.aload_n 0, 1) := by decide +kernel
theorem dX5_operationCount_1 : decode cX5_operationCount 1 = .ok (.iload_n 1, 1) := by decide +kernel
theorem dX5_operationCount_2 : decode cX5_operationCount 2 = .ok (.invokevirtual 88, 3) := by decide +kernel
theorem dX5_operationCount_5 : decode cX5_operationCount 5 = .ok (.getfield 149, 3) := by decide +kernel
theorem dX5_operationCount_8 : decode cX5_operationCount 8 = .ok (.ireturn, 1) := by decide +kernel
theorem dX5_recordedKeys_0 : decode cX5_recordedKeys 0 = .ok (.aload_n 0, 1) := by decide +kernel
theorem dX5_recordedKeys_1 : decode cX5_recordedKeys 1 = .ok (.iload_n 1, 1) := by decide +kernel
theorem dX5_recordedKeys_2 : decode cX5_recordedKeys 2 = .ok (.invokevirtual 88, 3) := by decide +kernel
theorem dX5_recordedKeys_5 : decode cX5_recordedKeys 5 = .ok (.getfield 152, 3) := by decide +kernel
theorem dX5_recordedKeys_8 : decode cX5_recordedKeys 8 = .ok (.ireturn, 1) := by decide +kernel
theorem dX5_predicateCount_0 : decode cX5_predicateCount 0 = .ok (.aload_n 0, 1) := by decide +kernel
theorem dX5_predicateCount_1 : decode cX5_predicateCount 1 = .ok (.iload_n 1, 1) := by decide +kernel
theorem dX5_predicateCount_2 : decode cX5_predicateCount 2 = .ok (.invokevirtual 88, 3) := by decide +kernel
theorem dX5_predicateCount_5 : decode cX5_predicateCount 5 = .ok (.invokevirtual 155, 3) := by decide +kernel
theorem dX5_predicateCount_8 : decode cX5_predicateCount 8 = .ok (.ireturn, 1) := by decide +kernel
theorem dX5_writtenKeys_0 : decode cX5_writtenKeys 0 = .ok (.aload_n 0, 1) := by decide +kernel
theorem dX5_writtenKeys_1 : decode cX5_writtenKeys 1 = .ok (.iload_n 1, 1) := by decide +kernel
theorem dX5_writtenKeys_2 : decode cX5_writtenKeys 2 = .ok (.invokevirtual 88, 3) := by decide +kernel
theorem dX5_writtenKeys_5 : decode cX5_writtenKeys 5 = .ok (.getfield 159, 3) := by decide +kernel
theorem dX5_writtenKeys_8 : decode cX5_writtenKeys 8 = .ok (.ireturn, 1) := by decide +kernel
theorem dX5_isStale_0 : decode cX5_isStale 0 = .ok (.aload_n 0, 1) := by decide +kernel
theorem dX5_isStale_1 : decode cX5_isStale 1 = .ok (.getfield 10, 3) := by decide +kernel
theorem dX5_isStale_4 : decode cX5_isStale 4 = .ok (.aload_n 0, 1) := by decide +kernel
theorem dX5_isStale_5 : decode cX5_isStale 5 = .ok (.iload_n 1, 1) := by decide +kernel
theorem dX5_isStale_6 : decode cX5_isStale 6 = .ok (.invokevirtual 121, 3) := by decide +kernel
theorem dX5_isStale_9 : decode cX5_isStale 9 = .ok (.invokevirtual 162, 3) := by decide +kernel
theorem dX5_isStale_12 : decode cX5_isStale 12 = .ok (.ifCond .eq 7, 3) := by decide +kernel
theorem dX5_isStale_15 : decode cX5_isStale 15 = .ok (.iconst 1, 1) := by decide +kernel
theorem dX5_isStale_16 : decode cX5_isStale 16 = .ok (.goto 4, 3) := by decide +kernel
theorem dX5_isStale_19 : decode cX5_isStale 19 = .ok (.iconst 0, 1) := by decide +kernel
theorem dX5_isStale_20 : decode cX5_isStale 20 = .ok (.ireturn, 1) := by decide +kernel
theorem dX5_rivals_0 : decode cX5_rivals 0 = .ok (.aload_n 0, 1) := by decide +kernel
theorem dX5_rivals_1 : decode cX5_rivals 1 = .ok (.aload_n 0, 1) := by decide +kernel
theorem dX5_rivals_2 : decode cX5_rivals 2 = .ok (.iload_n 1, 1) := by decide +kernel
theorem dX5_rivals_3 : decode cX5_rivals 3 = .ok (.invokevirtual 121, 3) := by decide +kernel
theorem dX5_rivals_6 : decode cX5_rivals 6 = .ok (.invokevirtual 165, 3) := by decide +kernel
theorem dX5_rivals_9 : decode cX5_rivals 9 = .ok (.ireturn, 1) := by decide +kernel
theorem dX5_value_0 : decode cX5_value 0 = .ok (.iload_n 1, 1) := by decide +kernel
theorem dX5_value_1 : decode cX5_value 1 = .ok (.invokestatic 168, 3) := by decide +kernel
theorem dX5_value_4 : decode cX5_value 4 = .ok (.aload_n 0, 1) := by decide +kernel
theorem dX5_value_5 : decode cX5_value 5 = .ok (.getfield 10, 3) := by decide +kernel
theorem dX5_value_8 : decode cX5_value 8 = .ok (.invokevirtual 172, 3) := by decide +kernel
theorem dX5_value_11 : decode cX5_value 11 = .ok (.iload_n 1, 1) := by decide +kernel
theorem dX5_value_12 : decode cX5_value 12 = .ok (.iaload, 1) := by decide +kernel
theorem dX5_value_13 : decode cX5_value 13 = .ok (.ireturn, 1) := by decide +kernel
theorem dX5_valueAt_0 : decode cX5_valueAt 0 = .ok (.iload_n 1, 1) := by decide +kernel
theorem dX5_valueAt_1 : decode cX5_valueAt 1 = .ok (.invokestatic 168, 3) := by decide +kernel
theorem dX5_valueAt_4 : decode cX5_valueAt 4 = .ok (.aload_n 0, 1) := by decide +kernel
theorem dX5_valueAt_5 : decode cX5_valueAt 5 = .ok (.iload_n 2, 1) := by decide +kernel
theorem dX5_valueAt_6 : decode cX5_valueAt 6 = .ok (.iconst 0, 1) := by decide +kernel
theorem dX5_valueAt_7 : decode cX5_valueAt 7 = .ok (.invokevirtual 176, 3) := by decide +kernel
theorem dX5_valueAt_10 : decode cX5_valueAt 10 = .ok (.aload_n 0, 1) := by decide +kernel
theorem dX5_valueAt_11 : decode cX5_valueAt 11 = .ok (.getfield 10, 3) := by decide +kernel
theorem dX5_valueAt_14 : decode cX5_valueAt 14 = .ok (.iload_n 2, 1) := by decide +kernel
theorem dX5_valueAt_15 : decode cX5_valueAt 15 = .ok (.invokevirtual 180, 3) := by decide +kernel
theorem dX5_valueAt_18 : decode cX5_valueAt 18 = .ok (.iload_n 1, 1) := by decide +kernel
theorem dX5_valueAt_19 : decode cX5_valueAt 19 = .ok (.iaload, 1) := by decide +kernel
theorem dX5_valueAt_20 : decode cX5_valueAt 20 = .ok (.ireturn, 1) := by decide +kernel
theorem dX5_writerOf_0 : decode cX5_writerOf 0 = .ok (.iload_n 1, 1) := by decide +kernel
theorem dX5_writerOf_1 : decode cX5_writerOf 1 = .ok (.invokestatic 168, 3) := by decide +kernel
theorem dX5_writerOf_4 : decode cX5_writerOf 4 = .ok (.aload_n 0, 1) := by decide +kernel
theorem dX5_writerOf_5 : decode cX5_writerOf 5 = .ok (.getfield 10, 3) := by decide +kernel
theorem dX5_writerOf_8 : decode cX5_writerOf 8 = .ok (.iload_n 1, 1) := by decide +kernel
theorem dX5_writerOf_9 : decode cX5_writerOf 9 = .ok (.invokevirtual 184, 3) := by decide +kernel
theorem dX5_writerOf_12 : decode cX5_writerOf 12 = .ok (.ireturn, 1) := by decide +kernel
theorem dX5_transactionOf_0 : decode cX5_transactionOf 0 = .ok (.aload_n 0, 1) := by decide +kernel
theorem dX5_transactionOf_1 : decode cX5_transactionOf 1 = .ok (.iload_n 1, 1) := by decide +kernel
theorem dX5_transactionOf_2 : decode cX5_transactionOf 2 = .ok (.iconst 1, 1) := by decide +kernel
theorem dX5_transactionOf_3 : decode cX5_transactionOf 3 = .ok (.invokevirtual 176, 3) := by decide +kernel
theorem dX5_transactionOf_6 : decode cX5_transactionOf 6 = .ok (.aload_n 0, 1) := by decide +kernel
theorem dX5_transactionOf_7 : decode cX5_transactionOf 7 = .ok (.getfield 10, 3) := by decide +kernel
theorem dX5_transactionOf_10 : decode cX5_transactionOf 10 = .ok (.iload_n 1, 1) := by decide +kernel
theorem dX5_transactionOf_11 : decode cX5_transactionOf 11 = .ok (.invokevirtual 187, 3) := by decide +kernel
theorem dX5_transactionOf_14 : decode cX5_transactionOf 14 = .ok (.astore_n 2, 1) := by decide +kernel
theorem dX5_transactionOf_15 : decode cX5_transactionOf 15 = .ok (.aload_n 2, 1) := by decide +kernel
theorem dX5_transactionOf_16 : decode cX5_transactionOf 16 = .ok (.ifnonnull 7, 3) := by decide +kernel
theorem dX5_transactionOf_19 : decode cX5_transactionOf 19 = .ok (.iconst (-1), 1) := by decide +kernel
theorem dX5_transactionOf_20 : decode cX5_transactionOf 20 = .ok (.goto 7, 3) := by decide +kernel
theorem dX5_transactionOf_23 : decode cX5_transactionOf 23 = .ok (.aload_n 2, 1) := by decide +kernel
theorem dX5_transactionOf_24 : decode cX5_transactionOf 24 = .ok (.getfield 85, 3) := by decide +kernel
theorem dX5_transactionOf_27 : decode cX5_transactionOf 27 = .ok (.ireturn, 1) := by decide +kernel
theorem dX5_dependency_0 : decode cX5_dependency 0 = .ok (.aload_n 0, 1) := by decide +kernel
theorem dX5_dependency_1 : decode cX5_dependency 1 = .ok (.iload_n 1, 1) := by decide +kernel
theorem dX5_dependency_2 : decode cX5_dependency 2 = .ok (.iconst 1, 1) := by decide +kernel
theorem dX5_dependency_3 : decode cX5_dependency 3 = .ok (.invokevirtual 176, 3) := by decide +kernel
theorem dX5_dependency_6 : decode cX5_dependency 6 = .ok (.aload_n 0, 1) := by decide +kernel
theorem dX5_dependency_7 : decode cX5_dependency 7 = .ok (.iload_n 2, 1) := by decide +kernel
theorem dX5_dependency_8 : decode cX5_dependency 8 = .ok (.iconst 1, 1) := by decide +kernel
theorem dX5_dependency_9 : decode cX5_dependency 9 = .ok (.invokevirtual 176, 3) := by decide +kernel
theorem dX5_dependency_12 : decode cX5_dependency 12 = .ok (.iload_n 1, 1) := by decide +kernel
theorem dX5_dependency_13 : decode cX5_dependency 13 = .ok (.iload_n 2, 1) := by decide +kernel
theorem dX5_dependency_14 : decode cX5_dependency 14 = .ok (.if_icmp .lt 13, 3) := by decide +kernel
theorem dX5_dependency_17 : decode cX5_dependency 17 = .ok (.new 59, 3) := by decide +kernel
theorem dX5_dependency_20 : decode cX5_dependency 20 = .ok (.dup, 1) := by decide +kernel
theorem dX5_dependency_21 : decode cX5_dependency 21 = .ok (.ldc 190, 2) := by decide +kernel
theorem dX5_dependency_23 : decode cX5_dependency 23 = .ok (.invokespecial 63, 3) := by decide +kernel
theorem dX5_dependency_26 : decode cX5_dependency 26 = .ok (.athrow, 1) := by decide +kernel
theorem dX5_dependency_27 : decode cX5_dependency 27 = .ok (.aload_n 0, 1) := by decide +kernel
theorem dX5_dependency_28 : decode cX5_dependency 28 = .ok (.getfield 10, 3) := by decide +kernel
theorem dX5_dependency_31 : decode cX5_dependency 31 = .ok (.iload_n 1, 1) := by decide +kernel
theorem dX5_dependency_32 : decode cX5_dependency 32 = .ok (.iload_n 2, 1) := by decide +kernel
theorem dX5_dependency_33 : decode cX5_dependency 33 = .ok (.invokevirtual 192, 3) := by decide +kernel
theorem dX5_dependency_36 : decode cX5_dependency 36 = .ok (.ireturn, 1) := by decide +kernel
theorem dX5_longestChain_0 : decode cX5_longestChain 0 = .ok (.iconst 0, 1) := by decide +kernel
theorem dX5_longestChain_1 : decode cX5_longestChain 1 = .ok (.istore_n 1, 1) := by decide +kernel
theorem dX5_longestChain_2 : decode cX5_longestChain 2 = .ok (.iconst 1, 1) := by decide +kernel
theorem dX5_longestChain_3 : decode cX5_longestChain 3 = .ok (.istore_n 2, 1) := by decide +kernel
theorem dX5_longestChain_4 : decode cX5_longestChain 4 = .ok (.iload_n 2, 1) := by decide +kernel
theorem dX5_longestChain_5 : decode cX5_longestChain 5 = .ok (.aload_n 0, 1) := by decide +kernel
theorem dX5_longestChain_6 : decode cX5_longestChain 6 = .ok (.getfield 10, 3) := by decide +kernel
theorem dX5_longestChain_9 : decode cX5_longestChain 9 = .ok (.getfield 128, 3) := by decide +kernel
theorem dX5_longestChain_12 : decode cX5_longestChain 12 = .ok (.if_icmp .gt 81, 3) := by decide +kernel
theorem dX5_longestChain_15 : decode cX5_longestChain 15 = .ok (.aload_n 0, 1) := by decide +kernel
theorem dX5_longestChain_16 : decode cX5_longestChain 16 = .ok (.getfield 39, 3) := by decide +kernel
theorem dX5_longestChain_19 : decode cX5_longestChain 19 = .ok (.iload_n 2, 1) := by decide +kernel
theorem dX5_longestChain_20 : decode cX5_longestChain 20 = .ok (.iconst 1, 1) := by decide +kernel
theorem dX5_longestChain_21 : decode cX5_longestChain 21 = .ok (.iastore, 1) := by decide +kernel
theorem dX5_longestChain_22 : decode cX5_longestChain 22 = .ok (.iconst 1, 1) := by decide +kernel
theorem dX5_longestChain_23 : decode cX5_longestChain 23 = .ok (.istore_n 3, 1) := by decide +kernel
theorem dX5_longestChain_24 : decode cX5_longestChain 24 = .ok (.iload_n 3, 1) := by decide +kernel
theorem dX5_longestChain_25 : decode cX5_longestChain 25 = .ok (.iload_n 2, 1) := by decide +kernel
theorem dX5_longestChain_26 : decode cX5_longestChain 26 = .ok (.if_icmp .ge 50, 3) := by decide +kernel
theorem dX5_longestChain_29 : decode cX5_longestChain 29 = .ok (.aload_n 0, 1) := by decide +kernel
theorem dX5_longestChain_30 : decode cX5_longestChain 30 = .ok (.getfield 39, 3) := by decide +kernel
theorem dX5_longestChain_33 : decode cX5_longestChain 33 = .ok (.iload_n 3, 1) := by decide +kernel
theorem dX5_longestChain_34 : decode cX5_longestChain 34 = .ok (.iaload, 1) := by decide +kernel
theorem dX5_longestChain_35 : decode cX5_longestChain 35 = .ok (.aload_n 0, 1) := by decide +kernel
theorem dX5_longestChain_36 : decode cX5_longestChain 36 = .ok (.getfield 39, 3) := by decide +kernel
theorem dX5_longestChain_39 : decode cX5_longestChain 39 = .ok (.iload_n 2, 1) := by decide +kernel
theorem dX5_longestChain_40 : decode cX5_longestChain 40 = .ok (.iaload, 1) := by decide +kernel
theorem dX5_longestChain_41 : decode cX5_longestChain 41 = .ok (.if_icmp .lt 29, 3) := by decide +kernel
theorem dX5_longestChain_44 : decode cX5_longestChain 44 = .ok (.aload_n 0, 1) := by decide +kernel
theorem dX5_longestChain_45 : decode cX5_longestChain 45 = .ok (.getfield 10, 3) := by decide +kernel
theorem dX5_longestChain_48 : decode cX5_longestChain 48 = .ok (.iload_n 3, 1) := by decide +kernel
theorem dX5_longestChain_49 : decode cX5_longestChain 49 = .ok (.iload_n 2, 1) := by decide +kernel
theorem dX5_longestChain_50 : decode cX5_longestChain 50 = .ok (.invokevirtual 192, 3) := by decide +kernel
theorem dX5_longestChain_53 : decode cX5_longestChain 53 = .ok (.ifCond .eq 17, 3) := by decide +kernel
theorem dX5_longestChain_56 : decode cX5_longestChain 56 = .ok (.aload_n 0, 1) := by decide +kernel
theorem dX5_longestChain_57 : decode cX5_longestChain 57 = .ok (.getfield 39, 3) := by decide +kernel
theorem dX5_longestChain_60 : decode cX5_longestChain 60 = .ok (.iload_n 2, 1) := by decide +kernel
theorem dX5_longestChain_61 : decode cX5_longestChain 61 = .ok (.aload_n 0, 1) := by decide +kernel
theorem dX5_longestChain_62 : decode cX5_longestChain 62 = .ok (.getfield 39, 3) := by decide +kernel
theorem dX5_longestChain_65 : decode cX5_longestChain 65 = .ok (.iload_n 3, 1) := by decide +kernel
theorem dX5_longestChain_66 : decode cX5_longestChain 66 = .ok (.iaload, 1) := by decide +kernel
theorem dX5_longestChain_67 : decode cX5_longestChain 67 = .ok (.iconst 1, 1) := by decide +kernel
theorem dX5_longestChain_68 : decode cX5_longestChain 68 = .ok (.iadd, 1) := by decide +kernel
theorem dX5_longestChain_69 : decode cX5_longestChain 69 = .ok (.iastore, 1) := by decide +kernel
theorem dX5_longestChain_70 : decode cX5_longestChain 70 = .ok (.iinc 3 1, 3) := by decide +kernel
theorem dX5_longestChain_73 : decode cX5_longestChain 73 = .ok (.goto (-49), 3) := by decide +kernel
theorem dX5_longestChain_76 : decode cX5_longestChain 76 = .ok (.iload_n 1, 1) := by decide +kernel
theorem dX5_longestChain_77 : decode cX5_longestChain 77 = .ok (.aload_n 0, 1) := by decide +kernel
theorem dX5_longestChain_78 : decode cX5_longestChain 78 = .ok (.getfield 39, 3) := by decide +kernel
theorem dX5_longestChain_81 : decode cX5_longestChain 81 = .ok (.iload_n 2, 1) := by decide +kernel
theorem dX5_longestChain_82 : decode cX5_longestChain 82 = .ok (.iaload, 1) := by decide +kernel
theorem dX5_longestChain_83 : decode cX5_longestChain 83 = .ok (.invokestatic 196, 3) := by decide +kernel
theorem dX5_longestChain_86 : decode cX5_longestChain 86 = .ok (.istore_n 1, 1) := by decide +kernel
theorem dX5_longestChain_87 : decode cX5_longestChain 87 = .ok (.iinc 2 1, 3) := by decide +kernel
theorem dX5_longestChain_90 : decode cX5_longestChain 90 = .ok (.goto (-86), 3) := by decide +kernel
theorem dX5_longestChain_93 : decode cX5_longestChain 93 = .ok (.iload_n 1, 1) := by decide +kernel
theorem dX5_longestChain_94 : decode cX5_longestChain 94 = .ok (.ireturn, 1) := by decide +kernel
theorem dX5_serialFaults_0 : decode cX5_serialFaults 0 = .ok (.iconst 0, 1) := by decide +kernel
theorem dX5_serialFaults_1 : decode cX5_serialFaults 1 = .ok (.istore_n 1, 1) := by decide +kernel
theorem dX5_serialFaults_2 : decode cX5_serialFaults 2 = .ok (.iconst 1, 1) := by decide +kernel
theorem dX5_serialFaults_3 : decode cX5_serialFaults 3 = .ok (.istore_n 2, 1) := by decide +kernel
theorem dX5_serialFaults_4 : decode cX5_serialFaults 4 = .ok (.iload_n 2, 1) := by decide +kernel
theorem dX5_serialFaults_5 : decode cX5_serialFaults 5 = .ok (.aload_n 0, 1) := by decide +kernel
theorem dX5_serialFaults_6 : decode cX5_serialFaults 6 = .ok (.getfield 10, 3) := by decide +kernel
theorem dX5_serialFaults_9 : decode cX5_serialFaults 9 = .ok (.getfield 128, 3) := by decide +kernel
theorem dX5_serialFaults_12 : decode cX5_serialFaults 12 = .ok (.if_icmp .gt 57, 3) := by decide +kernel
theorem dX5_serialFaults_15 : decode cX5_serialFaults 15 = .ok (.aload_n 0, 1) := by decide +kernel
theorem dX5_serialFaults_16 : decode cX5_serialFaults 16 = .ok (.getfield 10, 3) := by decide +kernel
theorem dX5_serialFaults_19 : decode cX5_serialFaults 19 = .ok (.iload_n 2, 1) := by decide +kernel
theorem dX5_serialFaults_20 : decode cX5_serialFaults 20 = .ok (.invokevirtual 187, 3) := by decide +kernel
theorem dX5_serialFaults_23 : decode cX5_serialFaults 23 = .ok (.astore_n 3, 1) := by decide +kernel
theorem dX5_serialFaults_24 : decode cX5_serialFaults 24 = .ok (.aload_n 0, 1) := by decide +kernel
theorem dX5_serialFaults_25 : decode cX5_serialFaults 25 = .ok (.getfield 10, 3) := by decide +kernel
theorem dX5_serialFaults_28 : decode cX5_serialFaults 28 = .ok (.iload_n 2, 1) := by decide +kernel
theorem dX5_serialFaults_29 : decode cX5_serialFaults 29 = .ok (.iconst 1, 1) := by decide +kernel
theorem dX5_serialFaults_30 : decode cX5_serialFaults 30 = .ok (.isub, 1) := by decide +kernel
theorem dX5_serialFaults_31 : decode cX5_serialFaults 31 = .ok (.invokevirtual 180, 3) := by decide +kernel
theorem dX5_serialFaults_34 : decode cX5_serialFaults 34 = .ok (.iconst 0, 1) := by decide +kernel
theorem dX5_serialFaults_35 : decode cX5_serialFaults 35 = .ok (.aload_n 0, 1) := by decide +kernel
theorem dX5_serialFaults_36 : decode cX5_serialFaults 36 = .ok (.getfield 35, 3) := by decide +kernel
theorem dX5_serialFaults_39 : decode cX5_serialFaults 39 = .ok (.iconst 0, 1) := by decide +kernel
theorem dX5_serialFaults_40 : decode cX5_serialFaults 40 = .ok (.bipush 32, 2) := by decide +kernel
theorem dX5_serialFaults_42 : decode cX5_serialFaults 42 = .ok (.invokestatic 201, 3) := by decide +kernel
theorem dX5_serialFaults_45 : decode cX5_serialFaults 45 = .ok (.aload_n 3, 1) := by decide +kernel
theorem dX5_serialFaults_46 : decode cX5_serialFaults 46 = .ok (.ifnull 17, 3) := by decide +kernel
theorem dX5_serialFaults_49 : decode cX5_serialFaults 49 = .ok (.aload_n 3, 1) := by decide +kernel
theorem dX5_serialFaults_50 : decode cX5_serialFaults 50 = .ok (.aload_n 0, 1) := by decide +kernel
theorem dX5_serialFaults_51 : decode cX5_serialFaults 51 = .ok (.getfield 35, 3) := by decide +kernel
theorem dX5_serialFaults_54 : decode cX5_serialFaults 54 = .ok (.invokevirtual 207, 3) := by decide +kernel
theorem dX5_serialFaults_57 : decode cX5_serialFaults 57 = .ok (.ifCond .ne 6, 3) := by decide +kernel
theorem dX5_serialFaults_60 : decode cX5_serialFaults 60 = .ok (.iinc 1 1, 3) := by decide +kernel
theorem dX5_serialFaults_63 : decode cX5_serialFaults 63 = .ok (.iinc 2 1, 3) := by decide +kernel
theorem dX5_serialFaults_66 : decode cX5_serialFaults 66 = .ok (.goto (-62), 3) := by decide +kernel
theorem dX5_serialFaults_69 : decode cX5_serialFaults 69 = .ok (.iload_n 1, 1) := by decide +kernel
theorem dX5_serialFaults_70 : decode cX5_serialFaults 70 = .ok (.ireturn, 1) := by decide +kernel
theorem dX5_rewind_0 : decode cX5_rewind 0 = .ok (.aload_n 0, 1) := by decide +kernel
theorem dX5_rewind_1 : decode cX5_rewind 1 = .ok (.iload_n 1, 1) := by decide +kernel
theorem dX5_rewind_2 : decode cX5_rewind 2 = .ok (.iconst 0, 1) := by decide +kernel
theorem dX5_rewind_3 : decode cX5_rewind 3 = .ok (.invokevirtual 176, 3) := by decide +kernel
theorem dX5_rewind_6 : decode cX5_rewind 6 = .ok (.aload_n 0, 1) := by decide +kernel
theorem dX5_rewind_7 : decode cX5_rewind 7 = .ok (.iconst 0, 1) := by decide +kernel
theorem dX5_rewind_8 : decode cX5_rewind 8 = .ok (.invokevirtual 66, 3) := by decide +kernel
theorem dX5_rewind_11 : decode cX5_rewind 11 = .ok (.ifCond .le 13, 3) := by decide +kernel
theorem dX5_rewind_14 : decode cX5_rewind 14 = .ok (.new 70, 3) := by decide +kernel
theorem dX5_rewind_17 : decode cX5_rewind 17 = .ok (.dup, 1) := by decide +kernel
theorem dX5_rewind_18 : decode cX5_rewind 18 = .ok (.ldc 72, 2) := by decide +kernel
theorem dX5_rewind_20 : decode cX5_rewind 20 = .ok (.invokespecial 74, 3) := by decide +kernel
theorem dX5_rewind_23 : decode cX5_rewind 23 = .ok (.athrow, 1) := by decide +kernel
theorem dX5_rewind_24 : decode cX5_rewind 24 = .ok (.aload_n 0, 1) := by decide +kernel
theorem dX5_rewind_25 : decode cX5_rewind 25 = .ok (.getfield 10, 3) := by decide +kernel
theorem dX5_rewind_28 : decode cX5_rewind 28 = .ok (.iload_n 1, 1) := by decide +kernel
theorem dX5_rewind_29 : decode cX5_rewind 29 = .ok (.invokevirtual 211, 3) := by decide +kernel
theorem dX5_rewind_32 : decode cX5_rewind 32 = .ok (.ireturn, 1) := by decide +kernel
theorem dX5_addConstraint_0 : decode cX5_addConstraint 0 = .ok (.iload_n 1, 1) := by decide +kernel
theorem dX5_addConstraint_1 : decode cX5_addConstraint 1 = .ok (.iconst 0, 1) := by decide +kernel
theorem dX5_addConstraint_2 : decode cX5_addConstraint 2 = .ok (.iconst 2, 1) := by decide +kernel
theorem dX5_addConstraint_3 : decode cX5_addConstraint 3 = .ok (.invokestatic 55, 3) := by decide +kernel
theorem dX5_addConstraint_6 : decode cX5_addConstraint 6 = .ok (.ifCond .eq 11, 3) := by decide +kernel
theorem dX5_addConstraint_9 : decode cX5_addConstraint 9 = .ok (.iload_n 2, 1) := by decide +kernel
theorem dX5_addConstraint_10 : decode cX5_addConstraint 10 = .ok (.iload_n 3, 1) := by decide +kernel
theorem dX5_addConstraint_11 : decode cX5_addConstraint 11 = .ok (.invokestatic 214, 3) := by decide +kernel
theorem dX5_addConstraint_14 : decode cX5_addConstraint 14 = .ok (.ifCond .ne 13, 3) := by decide +kernel
theorem dX5_addConstraint_17 : decode cX5_addConstraint 17 = .ok (.new 59, 3) := by decide +kernel
theorem dX5_addConstraint_20 : decode cX5_addConstraint 20 = .ok (.dup, 1) := by decide +kernel
theorem dX5_addConstraint_21 : decode cX5_addConstraint 21 = .ok (.ldc 218, 2) := by decide +kernel
theorem dX5_addConstraint_23 : decode cX5_addConstraint 23 = .ok (.invokespecial 63, 3) := by decide +kernel
theorem dX5_addConstraint_26 : decode cX5_addConstraint 26 = .ok (.athrow, 1) := by decide +kernel
theorem dX5_addConstraint_27 : decode cX5_addConstraint 27 = .ok (.new 22, 3) := by decide +kernel
theorem dX5_addConstraint_30 : decode cX5_addConstraint 30 = .ok (.dup, 1) := by decide +kernel
theorem dX5_addConstraint_31 : decode cX5_addConstraint 31 = .ok (.iload_n 1, 1) := by decide +kernel
theorem dX5_addConstraint_32 : decode cX5_addConstraint 32 = .ok (.iload_n 2, 1) := by decide +kernel
theorem dX5_addConstraint_33 : decode cX5_addConstraint 33 = .ok (.iload_n 3, 1) := by decide +kernel
theorem dX5_addConstraint_34 : decode cX5_addConstraint 34 = .ok (.iload 4, 2) := by decide +kernel
theorem dX5_addConstraint_36 : decode cX5_addConstraint 36 = .ok (.invokespecial 220, 3) := by decide +kernel
theorem dX5_addConstraint_39 : decode cX5_addConstraint 39 = .ok (.astore 5, 2) := by decide +kernel
theorem dX5_addConstraint_41 : decode cX5_addConstraint 41 = .ok (.aload_n 0, 1) := by decide +kernel
theorem dX5_addConstraint_42 : decode cX5_addConstraint 42 = .ok (.getfield 221, 3) := by decide +kernel
theorem dX5_addConstraint_45 : decode cX5_addConstraint 45 = .ok (.iconst 3, 1) := by decide +kernel
theorem dX5_addConstraint_46 : decode cX5_addConstraint 46 = .ok (.if_icmp .ge 18, 3) := by decide +kernel
theorem dX5_addConstraint_49 : decode cX5_addConstraint 49 = .ok (.aload 5, 2) := by decide +kernel
theorem dX5_addConstraint_51 : decode cX5_addConstraint 51 = .ok (.aload_n 0, 1) := by decide +kernel
theorem dX5_addConstraint_52 : decode cX5_addConstraint 52 = .ok (.getfield 10, 3) := by decide +kernel
theorem dX5_addConstraint_55 : decode cX5_addConstraint 55 = .ok (.invokevirtual 172, 3) := by decide +kernel
theorem dX5_addConstraint_58 : decode cX5_addConstraint 58 = .ok (.invokevirtual 224, 3) := by decide +kernel
theorem dX5_addConstraint_61 : decode cX5_addConstraint 61 = .ok (.ifCond .eq 13, 3) := by decide +kernel
theorem dX5_addConstraint_64 : decode cX5_addConstraint 64 = .ok (.new 70, 3) := by decide +kernel
theorem dX5_addConstraint_67 : decode cX5_addConstraint 67 = .ok (.dup, 1) := by decide +kernel
theorem dX5_addConstraint_68 : decode cX5_addConstraint 68 = .ok (.ldc 227, 2) := by decide +kernel
theorem dX5_addConstraint_70 : decode cX5_addConstraint 70 = .ok (.invokespecial 74, 3) := by decide +kernel
theorem dX5_addConstraint_73 : decode cX5_addConstraint 73 = .ok (.athrow, 1) := by decide +kernel
theorem dX5_addConstraint_74 : decode cX5_addConstraint 74 = .ok (.aload_n 0, 1) := by decide +kernel
theorem dX5_addConstraint_75 : decode cX5_addConstraint 75 = .ok (.getfield 24, 3) := by decide +kernel
theorem dX5_addConstraint_78 : decode cX5_addConstraint 78 = .ok (.aload_n 0, 1) := by decide +kernel
theorem dX5_addConstraint_79 : decode cX5_addConstraint 79 = .ok (.getfield 221, 3) := by decide +kernel
theorem dX5_addConstraint_82 : decode cX5_addConstraint 82 = .ok (.aload 5, 2) := by decide +kernel
theorem dX5_addConstraint_84 : decode cX5_addConstraint 84 = .ok (.aastore, 1) := by decide +kernel
theorem dX5_addConstraint_85 : decode cX5_addConstraint 85 = .ok (.aload_n 0, 1) := by decide +kernel
theorem dX5_addConstraint_86 : decode cX5_addConstraint 86 = .ok (.dup, 1) := by decide +kernel
theorem dX5_addConstraint_87 : decode cX5_addConstraint 87 = .ok (.getfield 221, 3) := by decide +kernel
theorem dX5_addConstraint_90 : decode cX5_addConstraint 90 = .ok (.iconst 1, 1) := by decide +kernel
theorem dX5_addConstraint_91 : decode cX5_addConstraint 91 = .ok (.iadd, 1) := by decide +kernel
theorem dX5_addConstraint_92 : decode cX5_addConstraint 92 = .ok (.putfield 221, 3) := by decide +kernel
theorem dX5_addConstraint_95 : decode cX5_addConstraint 95 = .ok (.aload_n 0, 1) := by decide +kernel
theorem dX5_addConstraint_96 : decode cX5_addConstraint 96 = .ok (.getfield 221, 3) := by decide +kernel
theorem dX5_addConstraint_99 : decode cX5_addConstraint 99 = .ok (.iconst 1, 1) := by decide +kernel
theorem dX5_addConstraint_100 : decode cX5_addConstraint 100 = .ok (.isub, 1) := by decide +kernel
theorem dX5_addConstraint_101 : decode cX5_addConstraint 101 = .ok (.ireturn, 1) := by decide +kernel
theorem dX5_clearConstraints_0 : decode cX5_clearConstraints 0 = .ok (.aload_n 0, 1) := by decide +kernel
theorem dX5_clearConstraints_1 : decode cX5_clearConstraints 1 = .ok (.getfield 221, 3) := by decide +kernel
theorem dX5_clearConstraints_4 : decode cX5_clearConstraints 4 = .ok (.istore_n 1, 1) := by decide +kernel
theorem dX5_clearConstraints_5 : decode cX5_clearConstraints 5 = .ok (.aload_n 0, 1) := by decide +kernel
theorem dX5_clearConstraints_6 : decode cX5_clearConstraints 6 = .ok (.iconst 0, 1) := by decide +kernel
theorem dX5_clearConstraints_7 : decode cX5_clearConstraints 7 = .ok (.putfield 221, 3) := by decide +kernel
theorem dX5_clearConstraints_10 : decode cX5_clearConstraints 10 = .ok (.iload_n 1, 1) := by decide +kernel
theorem dX5_clearConstraints_11 : decode cX5_clearConstraints 11 = .ok (.ireturn, 1) := by decide +kernel
theorem dX5_aborts_0 : decode cX5_aborts 0 = .ok (.iload_n 1, 1) := by decide +kernel
theorem dX5_aborts_1 : decode cX5_aborts 1 = .ok (.iconst 1, 1) := by decide +kernel
theorem dX5_aborts_2 : decode cX5_aborts 2 = .ok (.bipush 6, 2) := by decide +kernel
theorem dX5_aborts_4 : decode cX5_aborts 4 = .ok (.invokestatic 55, 3) := by decide +kernel
theorem dX5_aborts_7 : decode cX5_aborts 7 = .ok (.ifCond .ne 13, 3) := by decide +kernel
theorem dX5_aborts_10 : decode cX5_aborts 10 = .ok (.new 59, 3) := by decide +kernel
theorem dX5_aborts_13 : decode cX5_aborts 13 = .ok (.dup, 1) := by decide +kernel
theorem dX5_aborts_14 : decode cX5_aborts 14 = .ok (.ldc 229, 2) := by decide +kernel
theorem dX5_aborts_16 : decode cX5_aborts 16 = .ok (.invokespecial 63, 3) := by decide +kernel
theorem dX5_aborts_19 : decode cX5_aborts 19 = .ok (.athrow, 1) := by decide +kernel
theorem dX5_aborts_20 : decode cX5_aborts 20 = .ok (.iconst 0, 1) := by decide +kernel
theorem dX5_aborts_21 : decode cX5_aborts 21 = .ok (.istore_n 2, 1) := by decide +kernel
theorem dX5_aborts_22 : decode cX5_aborts 22 = .ok (.iconst 0, 1) := by decide +kernel
theorem dX5_aborts_23 : decode cX5_aborts 23 = .ok (.istore_n 3, 1) := by decide +kernel
theorem dX5_aborts_24 : decode cX5_aborts 24 = .ok (.iload_n 3, 1) := by decide +kernel
theorem dX5_aborts_25 : decode cX5_aborts 25 = .ok (.aload_n 0, 1) := by decide +kernel
theorem dX5_aborts_26 : decode cX5_aborts 26 = .ok (.getfield 131, 3) := by decide +kernel
theorem dX5_aborts_29 : decode cX5_aborts 29 = .ok (.if_icmp .ge 43, 3) := by decide +kernel
theorem dX5_aborts_32 : decode cX5_aborts 32 = .ok (.aload_n 0, 1) := by decide +kernel
theorem dX5_aborts_33 : decode cX5_aborts 33 = .ok (.getfield 18, 3) := by decide +kernel
theorem dX5_aborts_36 : decode cX5_aborts 36 = .ok (.iload_n 3, 1) := by decide +kernel
theorem dX5_aborts_37 : decode cX5_aborts 37 = .ok (.aaload, 1) := by decide +kernel
theorem dX5_aborts_38 : decode cX5_aborts 38 = .ok (.astore 4, 2) := by decide +kernel
theorem dX5_aborts_40 : decode cX5_aborts 40 = .ok (.aload 4, 2) := by decide +kernel
theorem dX5_aborts_42 : decode cX5_aborts 42 = .ok (.ifnull 24, 3) := by decide +kernel
theorem dX5_aborts_45 : decode cX5_aborts 45 = .ok (.aload 4, 2) := by decide +kernel
theorem dX5_aborts_47 : decode cX5_aborts 47 = .ok (.getfield 91, 3) := by decide +kernel
theorem dX5_aborts_50 : decode cX5_aborts 50 = .ok (.iconst 2, 1) := by decide +kernel
theorem dX5_aborts_51 : decode cX5_aborts 51 = .ok (.if_icmp .ne 15, 3) := by decide +kernel
theorem dX5_aborts_54 : decode cX5_aborts 54 = .ok (.aload 4, 2) := by decide +kernel
theorem dX5_aborts_56 : decode cX5_aborts 56 = .ok (.getfield 141, 3) := by decide +kernel
theorem dX5_aborts_59 : decode cX5_aborts 59 = .ok (.iload_n 1, 1) := by decide +kernel
theorem dX5_aborts_60 : decode cX5_aborts 60 = .ok (.if_icmp .ne 6, 3) := by decide +kernel
theorem dX5_aborts_63 : decode cX5_aborts 63 = .ok (.iinc 2 1, 3) := by decide +kernel
theorem dX5_aborts_66 : decode cX5_aborts 66 = .ok (.iinc 3 1, 3) := by decide +kernel
theorem dX5_aborts_69 : decode cX5_aborts 69 = .ok (.goto (-45), 3) := by decide +kernel
theorem dX5_aborts_72 : decode cX5_aborts 72 = .ok (.iload_n 2, 1) := by decide +kernel
theorem dX5_aborts_73 : decode cX5_aborts 73 = .ok (.ireturn, 1) := by decide +kernel
theorem dX5_averageAttempts_0 : decode cX5_averageAttempts 0 = .ok (.aload_n 0, 1) := by decide +kernel
theorem dX5_averageAttempts_1 : decode cX5_averageAttempts 1 = .ok (.iconst 1, 1) := by decide +kernel
theorem dX5_averageAttempts_2 : decode cX5_averageAttempts 2 = .ok (.invokevirtual 66, 3) := by decide +kernel
theorem dX5_averageAttempts_5 : decode cX5_averageAttempts 5 = .ok (.istore_n 1, 1) := by decide +kernel
theorem dX5_averageAttempts_6 : decode cX5_averageAttempts 6 = .ok (.iload_n 1, 1) := by decide +kernel
theorem dX5_averageAttempts_7 : decode cX5_averageAttempts 7 = .ok (.ifCond .ne 13, 3) := by decide +kernel
theorem dX5_averageAttempts_10 : decode cX5_averageAttempts 10 = .ok (.new 231, 3) := by decide +kernel
theorem dX5_averageAttempts_13 : decode cX5_averageAttempts 13 = .ok (.dup, 1) := by decide +kernel
theorem dX5_averageAttempts_14 : decode cX5_averageAttempts 14 = .ok (.ldc 233, 2) := by decide +kernel
theorem dX5_averageAttempts_16 : decode cX5_averageAttempts 16 = .ok (.invokespecial 235, 3) := by decide +kernel
theorem dX5_averageAttempts_19 : decode cX5_averageAttempts 19 = .ok (.athrow, 1) := by decide +kernel
theorem dX5_averageAttempts_20 : decode cX5_averageAttempts 20 = .ok (.iconst 0, 1) := by decide +kernel
theorem dX5_averageAttempts_21 : decode cX5_averageAttempts 21 = .ok (.istore_n 2, 1) := by decide +kernel
theorem dX5_averageAttempts_22 : decode cX5_averageAttempts 22 = .ok (.iconst 0, 1) := by decide +kernel
theorem dX5_averageAttempts_23 : decode cX5_averageAttempts 23 = .ok (.istore_n 3, 1) := by decide +kernel
theorem dX5_averageAttempts_24 : decode cX5_averageAttempts 24 = .ok (.iload_n 3, 1) := by decide +kernel
theorem dX5_averageAttempts_25 : decode cX5_averageAttempts 25 = .ok (.aload_n 0, 1) := by decide +kernel
theorem dX5_averageAttempts_26 : decode cX5_averageAttempts 26 = .ok (.getfield 131, 3) := by decide +kernel
theorem dX5_averageAttempts_29 : decode cX5_averageAttempts 29 = .ok (.if_icmp .ge 39, 3) := by decide +kernel
theorem dX5_averageAttempts_32 : decode cX5_averageAttempts 32 = .ok (.aload_n 0, 1) := by decide +kernel
theorem dX5_averageAttempts_33 : decode cX5_averageAttempts 33 = .ok (.getfield 18, 3) := by decide +kernel
theorem dX5_averageAttempts_36 : decode cX5_averageAttempts 36 = .ok (.iload_n 3, 1) := by decide +kernel
theorem dX5_averageAttempts_37 : decode cX5_averageAttempts 37 = .ok (.aaload, 1) := by decide +kernel
theorem dX5_averageAttempts_38 : decode cX5_averageAttempts 38 = .ok (.astore 4, 2) := by decide +kernel
theorem dX5_averageAttempts_40 : decode cX5_averageAttempts 40 = .ok (.aload 4, 2) := by decide +kernel
theorem dX5_averageAttempts_42 : decode cX5_averageAttempts 42 = .ok (.ifnull 20, 3) := by decide +kernel
theorem dX5_averageAttempts_45 : decode cX5_averageAttempts 45 = .ok (.aload 4, 2) := by decide +kernel
theorem dX5_averageAttempts_47 : decode cX5_averageAttempts 47 = .ok (.getfield 91, 3) := by decide +kernel
theorem dX5_averageAttempts_50 : decode cX5_averageAttempts 50 = .ok (.iconst 1, 1) := by decide +kernel
theorem dX5_averageAttempts_51 : decode cX5_averageAttempts 51 = .ok (.if_icmp .ne 11, 3) := by decide +kernel
theorem dX5_averageAttempts_54 : decode cX5_averageAttempts 54 = .ok (.iload_n 2, 1) := by decide +kernel
theorem dX5_averageAttempts_55 : decode cX5_averageAttempts 55 = .ok (.aload 4, 2) := by decide +kernel
theorem dX5_averageAttempts_57 : decode cX5_averageAttempts 57 = .ok (.getfield 100, 3) := by decide +kernel
theorem dX5_averageAttempts_60 : decode cX5_averageAttempts 60 = .ok (.iadd, 1) := by decide +kernel
theorem dX5_averageAttempts_61 : decode cX5_averageAttempts 61 = .ok (.istore_n 2, 1) := by decide +kernel
theorem dX5_averageAttempts_62 : decode cX5_averageAttempts 62 = .ok (.iinc 3 1, 3) := by decide +kernel
theorem dX5_averageAttempts_65 : decode cX5_averageAttempts 65 = .ok (.goto (-41), 3) := by decide +kernel
theorem dX5_averageAttempts_68 : decode cX5_averageAttempts 68 = .ok (.iload_n 2, 1) := by decide +kernel
theorem dX5_averageAttempts_69 : decode cX5_averageAttempts 69 = .ok (.i2d, 1) := by decide +kernel
theorem dX5_averageAttempts_70 : decode cX5_averageAttempts 70 = .ok (.iload_n 1, 1) := by decide +kernel
theorem dX5_averageAttempts_71 : decode cX5_averageAttempts 71 = .ok (.i2d, 1) := by decide +kernel
theorem dX5_averageAttempts_72 : decode cX5_averageAttempts 72 = .ok (.ddiv, 1) := by decide +kernel
theorem dX5_averageAttempts_73 : decode cX5_averageAttempts 73 = .ok (.dreturn, 1) := by decide +kernel
theorem dX5_abortRate_0 : decode cX5_abortRate 0 = .ok (.aload_n 0, 1) := by decide +kernel
theorem dX5_abortRate_1 : decode cX5_abortRate 1 = .ok (.getfield 131, 3) := by decide +kernel
theorem dX5_abortRate_4 : decode cX5_abortRate 4 = .ok (.aload_n 0, 1) := by decide +kernel
theorem dX5_abortRate_5 : decode cX5_abortRate 5 = .ok (.iconst 0, 1) := by decide +kernel
theorem dX5_abortRate_6 : decode cX5_abortRate 6 = .ok (.invokevirtual 66, 3) := by decide +kernel
theorem dX5_abortRate_9 : decode cX5_abortRate 9 = .ok (.isub, 1) := by decide +kernel
theorem dX5_abortRate_10 : decode cX5_abortRate 10 = .ok (.istore_n 1, 1) := by decide +kernel
theorem dX5_abortRate_11 : decode cX5_abortRate 11 = .ok (.iload_n 1, 1) := by decide +kernel
theorem dX5_abortRate_12 : decode cX5_abortRate 12 = .ok (.ifCond .ne 13, 3) := by decide +kernel
theorem dX5_abortRate_15 : decode cX5_abortRate 15 = .ok (.new 231, 3) := by decide +kernel
theorem dX5_abortRate_18 : decode cX5_abortRate 18 = .ok (.dup, 1) := by decide +kernel
theorem dX5_abortRate_19 : decode cX5_abortRate 19 = .ok (.ldc 236, 2) := by decide +kernel
theorem dX5_abortRate_21 : decode cX5_abortRate 21 = .ok (.invokespecial 235, 3) := by decide +kernel
theorem dX5_abortRate_24 : decode cX5_abortRate 24 = .ok (.athrow, 1) := by decide +kernel
theorem dX5_abortRate_25 : decode cX5_abortRate 25 = .ok (.aload_n 0, 1) := by decide +kernel
theorem dX5_abortRate_26 : decode cX5_abortRate 26 = .ok (.iconst 2, 1) := by decide +kernel
theorem dX5_abortRate_27 : decode cX5_abortRate 27 = .ok (.invokevirtual 66, 3) := by decide +kernel
theorem dX5_abortRate_30 : decode cX5_abortRate 30 = .ok (.i2f, 1) := by decide +kernel
theorem dX5_abortRate_31 : decode cX5_abortRate 31 = .ok (.iload_n 1, 1) := by decide +kernel
theorem dX5_abortRate_32 : decode cX5_abortRate 32 = .ok (.i2f, 1) := by decide +kernel
theorem dX5_abortRate_33 : decode cX5_abortRate 33 = .ok (.fdiv, 1) := by decide +kernel
theorem dX5_abortRate_34 : decode cX5_abortRate 34 = .ok (.freturn, 1) := by decide +kernel
theorem dX5_appendCharacter_0 : decode cX5_appendCharacter 0 = .ok (.iload_n 1, 1) := by decide +kernel
theorem dX5_appendCharacter_1 : decode cX5_appendCharacter 1 = .ok (.bipush 33, 2) := by decide +kernel
theorem dX5_appendCharacter_3 : decode cX5_appendCharacter 3 = .ok (.bipush 126, 2) := by decide +kernel
theorem dX5_appendCharacter_5 : decode cX5_appendCharacter 5 = .ok (.invokestatic 55, 3) := by decide +kernel
theorem dX5_appendCharacter_8 : decode cX5_appendCharacter 8 = .ok (.ifCond .ne 13, 3) := by decide +kernel
theorem dX5_appendCharacter_11 : decode cX5_appendCharacter 11 = .ok (.new 59, 3) := by decide +kernel
theorem dX5_appendCharacter_14 : decode cX5_appendCharacter 14 = .ok (.dup, 1) := by decide +kernel
theorem dX5_appendCharacter_15 : decode cX5_appendCharacter 15 = .ok (.ldc 238, 2) := by decide +kernel
theorem dX5_appendCharacter_17 : decode cX5_appendCharacter 17 = .ok (.invokespecial 63, 3) := by decide +kernel
theorem dX5_appendCharacter_20 : decode cX5_appendCharacter 20 = .ok (.athrow, 1) := by decide +kernel
theorem dX5_appendCharacter_21 : decode cX5_appendCharacter 21 = .ok (.aload_n 0, 1) := by decide +kernel
theorem dX5_appendCharacter_22 : decode cX5_appendCharacter 22 = .ok (.getfield 31, 3) := by decide +kernel
theorem dX5_appendCharacter_25 : decode cX5_appendCharacter 25 = .ok (.getfield 240, 3) := by decide +kernel
theorem dX5_appendCharacter_28 : decode cX5_appendCharacter 28 = .ok (.bipush 60, 2) := by decide +kernel
theorem dX5_appendCharacter_30 : decode cX5_appendCharacter 30 = .ok (.if_icmp .lt 13, 3) := by decide +kernel
theorem dX5_appendCharacter_33 : decode cX5_appendCharacter 33 = .ok (.new 70, 3) := by decide +kernel
theorem dX5_appendCharacter_36 : decode cX5_appendCharacter 36 = .ok (.dup, 1) := by decide +kernel
theorem dX5_appendCharacter_37 : decode cX5_appendCharacter 37 = .ok (.ldc 243, 2) := by decide +kernel
theorem dX5_appendCharacter_39 : decode cX5_appendCharacter 39 = .ok (.invokespecial 74, 3) := by decide +kernel
theorem dX5_appendCharacter_42 : decode cX5_appendCharacter 42 = .ok (.athrow, 1) := by decide +kernel
theorem dX5_appendCharacter_43 : decode cX5_appendCharacter 43 = .ok (.aload_n 0, 1) := by decide +kernel
theorem dX5_appendCharacter_44 : decode cX5_appendCharacter 44 = .ok (.getfield 31, 3) := by decide +kernel
theorem dX5_appendCharacter_47 : decode cX5_appendCharacter 47 = .ok (.iload_n 1, 1) := by decide +kernel
theorem dX5_appendCharacter_48 : decode cX5_appendCharacter 48 = .ok (.i2c, 1) := by decide +kernel
theorem dX5_appendCharacter_49 : decode cX5_appendCharacter 49 = .ok (.invokevirtual 245, 3) := by decide +kernel
theorem dX5_appendCharacter_52 : decode cX5_appendCharacter 52 = .ok (.ireturn, 1) := by decide +kernel
theorem dX5_runScript_0 : decode cX5_runScript 0 = .ok (.aload_n 0, 1) := by decide +kernel
theorem dX5_runScript_1 : decode cX5_runScript 1 = .ok (.getfield 31, 3) := by decide +kernel
theorem dX5_runScript_4 : decode cX5_runScript 4 = .ok (.invokevirtual 249, 3) := by decide +kernel
theorem dX5_runScript_7 : decode cX5_runScript 7 = .ok (.ifCond .ne 13, 3) := by decide +kernel
theorem dX5_runScript_10 : decode cX5_runScript 10 = .ok (.new 59, 3) := by decide +kernel
theorem dX5_runScript_13 : decode cX5_runScript 13 = .ok (.dup, 1) := by decide +kernel
theorem dX5_runScript_14 : decode cX5_runScript 14 = .ok (.ldc 252, 2) := by decide +kernel
theorem dX5_runScript_16 : decode cX5_runScript 16 = .ok (.invokespecial 63, 3) := by decide +kernel
theorem dX5_runScript_19 : decode cX5_runScript 19 = .ok (.athrow, 1) := by decide +kernel
theorem dX5_runScript_20 : decode cX5_runScript 20 = .ok (.aload_n 0, 1) := by decide +kernel
theorem dX5_runScript_21 : decode cX5_runScript 21 = .ok (.invokevirtual 75, 3) := by decide +kernel
theorem dX5_runScript_24 : decode cX5_runScript 24 = .ok (.ifCond .eq 13, 3) := by decide +kernel
theorem dX5_runScript_27 : decode cX5_runScript 27 = .ok (.aload_n 0, 1) := by decide +kernel
theorem dX5_runScript_28 : decode cX5_runScript 28 = .ok (.getfield 10, 3) := by decide +kernel
theorem dX5_runScript_31 : decode cX5_runScript 31 = .ok (.invokevirtual 112, 3) := by decide +kernel
theorem dX5_runScript_34 : decode cX5_runScript 34 = .ok (.ifCond .eq 13, 3) := by decide +kernel
theorem dX5_runScript_37 : decode cX5_runScript 37 = .ok (.new 70, 3) := by decide +kernel
theorem dX5_runScript_40 : decode cX5_runScript 40 = .ok (.dup, 1) := by decide +kernel
theorem dX5_runScript_41 : decode cX5_runScript 41 = .ok (.ldc 254, 2) := by decide +kernel
theorem dX5_runScript_43 : decode cX5_runScript 43 = .ok (.invokespecial 74, 3) := by decide +kernel
theorem dX5_runScript_46 : decode cX5_runScript 46 = .ok (.athrow, 1) := by decide +kernel
theorem dX5_runScript_47 : decode cX5_runScript 47 = .ok (.aload_n 0, 1) := by decide +kernel
theorem dX5_runScript_48 : decode cX5_runScript 48 = .ok (.iconst 1, 1) := by decide +kernel
theorem dX5_runScript_49 : decode cX5_runScript 49 = .ok (.invokevirtual 81, 3) := by decide +kernel
theorem dX5_runScript_52 : decode cX5_runScript 52 = .ok (.astore_n 1, 1) := by decide +kernel
theorem dX5_runScript_53 : decode cX5_runScript 53 = .ok (.aload_n 0, 1) := by decide +kernel
theorem dX5_runScript_54 : decode cX5_runScript 54 = .ok (.aload_n 1, 1) := by decide +kernel
theorem dX5_runScript_55 : decode cX5_runScript 55 = .ok (.invokevirtual 256, 3) := by decide +kernel
theorem dX5_runScript_58 : decode cX5_runScript 58 = .ok (.ifCond .eq 11, 3) := by decide +kernel
theorem dX5_runScript_61 : decode cX5_runScript 61 = .ok (.aload_n 0, 1) := by decide +kernel
theorem dX5_runScript_62 : decode cX5_runScript 62 = .ok (.aload_n 1, 1) := by decide +kernel
theorem dX5_runScript_63 : decode cX5_runScript 63 = .ok (.invokevirtual 117, 3) := by decide +kernel
theorem dX5_runScript_66 : decode cX5_runScript 66 = .ok (.goto 5, 3) := by decide +kernel
theorem dX5_runScript_69 : decode cX5_runScript 69 = .ok (.bipush (-2), 2) := by decide +kernel
theorem dX5_runScript_71 : decode cX5_runScript 71 = .ok (.ireturn, 1) := by decide +kernel
theorem dX5_faultPosition_0 : decode cX5_faultPosition 0 = .ok (.aload_n 0, 1) := by decide +kernel
theorem dX5_faultPosition_1 : decode cX5_faultPosition 1 = .ok (.getfield 31, 3) := by decide +kernel
theorem dX5_faultPosition_4 : decode cX5_faultPosition 4 = .ok (.getfield 260, 3) := by decide +kernel
theorem dX5_faultPosition_7 : decode cX5_faultPosition 7 = .ok (.ireturn, 1) := by decide +kernel
theorem dX5_isBetween_0 : decode cX5_isBetween 0 = .ok (.iload_n 0, 1) := by decide +kernel
theorem dX5_isBetween_1 : decode cX5_isBetween 1 = .ok (.iload_n 1, 1) := by decide +kernel
theorem dX5_isBetween_2 : decode cX5_isBetween 2 = .ok (.if_icmp .lt 12, 3) := by decide +kernel
theorem dX5_isBetween_5 : decode cX5_isBetween 5 = .ok (.iload_n 0, 1) := by decide +kernel
theorem dX5_isBetween_6 : decode cX5_isBetween 6 = .ok (.iload_n 2, 1) := by decide +kernel
theorem dX5_isBetween_7 : decode cX5_isBetween 7 = .ok (.if_icmp .gt 7, 3) := by decide +kernel
theorem dX5_isBetween_10 : decode cX5_isBetween 10 = .ok (.iconst 1, 1) := by decide +kernel
theorem dX5_isBetween_11 : decode cX5_isBetween 11 = .ok (.goto 4, 3) := by decide +kernel
theorem dX5_isBetween_14 : decode cX5_isBetween 14 = .ok (.iconst 0, 1) := by decide +kernel
theorem dX5_isBetween_15 : decode cX5_isBetween 15 = .ok (.ireturn, 1) := by decide +kernel
theorem dX5_isRange_0 : decode cX5_isRange 0 = .ok (.iload_n 0, 1) := by decide +kernel
theorem dX5_isRange_1 : decode cX5_isRange 1 = .ok (.ifCond .lt 18, 3) := by decide +kernel
theorem dX5_isRange_4 : decode cX5_isRange 4 = .ok (.iload_n 0, 1) := by decide +kernel
theorem dX5_isRange_5 : decode cX5_isRange 5 = .ok (.iload_n 1, 1) := by decide +kernel
theorem dX5_isRange_6 : decode cX5_isRange 6 = .ok (.if_icmp .gt 13, 3) := by decide +kernel
theorem dX5_isRange_9 : decode cX5_isRange 9 = .ok (.iload_n 1, 1) := by decide +kernel
theorem dX5_isRange_10 : decode cX5_isRange 10 = .ok (.bipush 32, 2) := by decide +kernel
theorem dX5_isRange_12 : decode cX5_isRange 12 = .ok (.if_icmp .ge 7, 3) := by decide +kernel
theorem dX5_isRange_15 : decode cX5_isRange 15 = .ok (.iconst 1, 1) := by decide +kernel
theorem dX5_isRange_16 : decode cX5_isRange 16 = .ok (.goto 4, 3) := by decide +kernel
theorem dX5_isRange_19 : decode cX5_isRange 19 = .ok (.iconst 0, 1) := by decide +kernel
theorem dX5_isRange_20 : decode cX5_isRange 20 = .ok (.ireturn, 1) := by decide +kernel
theorem dX5_totalIn_0 : decode cX5_totalIn 0 = .ok (.iconst 0, 1) := by decide +kernel
theorem dX5_totalIn_1 : decode cX5_totalIn 1 = .ok (.istore_n 3, 1) := by decide +kernel
theorem dX5_totalIn_2 : decode cX5_totalIn 2 = .ok (.iload_n 1, 1) := by decide +kernel
theorem dX5_totalIn_3 : decode cX5_totalIn 3 = .ok (.istore 4, 2) := by decide +kernel
theorem dX5_totalIn_5 : decode cX5_totalIn 5 = .ok (.iload 4, 2) := by decide +kernel
theorem dX5_totalIn_7 : decode cX5_totalIn 7 = .ok (.iload_n 2, 1) := by decide +kernel
theorem dX5_totalIn_8 : decode cX5_totalIn 8 = .ok (.if_icmp .gt 26, 3) := by decide +kernel
theorem dX5_totalIn_11 : decode cX5_totalIn 11 = .ok (.aload_n 0, 1) := by decide +kernel
theorem dX5_totalIn_12 : decode cX5_totalIn 12 = .ok (.iload 4, 2) := by decide +kernel
theorem dX5_totalIn_14 : decode cX5_totalIn 14 = .ok (.iaload, 1) := by decide +kernel
theorem dX5_totalIn_15 : decode cX5_totalIn 15 = .ok (.sipush (-1000), 3) := by decide +kernel
theorem dX5_totalIn_18 : decode cX5_totalIn 18 = .ok (.if_icmp .eq 10, 3) := by decide +kernel
theorem dX5_totalIn_21 : decode cX5_totalIn 21 = .ok (.iload_n 3, 1) := by decide +kernel
theorem dX5_totalIn_22 : decode cX5_totalIn 22 = .ok (.aload_n 0, 1) := by decide +kernel
theorem dX5_totalIn_23 : decode cX5_totalIn 23 = .ok (.iload 4, 2) := by decide +kernel
theorem dX5_totalIn_25 : decode cX5_totalIn 25 = .ok (.iaload, 1) := by decide +kernel
theorem dX5_totalIn_26 : decode cX5_totalIn 26 = .ok (.iadd, 1) := by decide +kernel
theorem dX5_totalIn_27 : decode cX5_totalIn 27 = .ok (.istore_n 3, 1) := by decide +kernel
theorem dX5_totalIn_28 : decode cX5_totalIn 28 = .ok (.iinc 4 1, 3) := by decide +kernel
theorem dX5_totalIn_31 : decode cX5_totalIn 31 = .ok (.goto (-26), 3) := by decide +kernel
theorem dX5_totalIn_34 : decode cX5_totalIn 34 = .ok (.iload_n 3, 1) := by decide +kernel
theorem dX5_totalIn_35 : decode cX5_totalIn 35 = .ok (.ireturn, 1) := by decide +kernel
theorem dX5_countIn_0 : decode cX5_countIn 0 = .ok (.iconst 0, 1) := by decide +kernel
theorem dX5_countIn_1 : decode cX5_countIn 1 = .ok (.istore 4, 2) := by decide +kernel
theorem dX5_countIn_3 : decode cX5_countIn 3 = .ok (.iload_n 1, 1) := by decide +kernel
theorem dX5_countIn_4 : decode cX5_countIn 4 = .ok (.istore 5, 2) := by decide +kernel
theorem dX5_countIn_6 : decode cX5_countIn 6 = .ok (.iload 5, 2) := by decide +kernel
theorem dX5_countIn_8 : decode cX5_countIn 8 = .ok (.iload_n 2, 1) := by decide +kernel
theorem dX5_countIn_9 : decode cX5_countIn 9 = .ok (.if_icmp .gt 30, 3) := by decide +kernel
theorem dX5_countIn_12 : decode cX5_countIn 12 = .ok (.aload_n 0, 1) := by decide +kernel
theorem dX5_countIn_13 : decode cX5_countIn 13 = .ok (.iload 5, 2) := by decide +kernel
theorem dX5_countIn_15 : decode cX5_countIn 15 = .ok (.iaload, 1) := by decide +kernel
theorem dX5_countIn_16 : decode cX5_countIn 16 = .ok (.sipush (-1000), 3) := by decide +kernel
theorem dX5_countIn_19 : decode cX5_countIn 19 = .ok (.if_icmp .eq 14, 3) := by decide +kernel
theorem dX5_countIn_22 : decode cX5_countIn 22 = .ok (.aload_n 0, 1) := by decide +kernel
theorem dX5_countIn_23 : decode cX5_countIn 23 = .ok (.iload 5, 2) := by decide +kernel
theorem dX5_countIn_25 : decode cX5_countIn 25 = .ok (.iaload, 1) := by decide +kernel
theorem dX5_countIn_26 : decode cX5_countIn 26 = .ok (.iload_n 3, 1) := by decide +kernel
theorem dX5_countIn_27 : decode cX5_countIn 27 = .ok (.if_icmp .lt 6, 3) := by decide +kernel
theorem dX5_countIn_30 : decode cX5_countIn 30 = .ok (.iinc 4 1, 3) := by decide +kernel
theorem dX5_countIn_33 : decode cX5_countIn 33 = .ok (.iinc 5 1, 3) := by decide +kernel
theorem dX5_countIn_36 : decode cX5_countIn 36 = .ok (.goto (-30), 3) := by decide +kernel
theorem dX5_countIn_39 : decode cX5_countIn 39 = .ok (.iload 4, 2) := by decide +kernel
theorem dX5_countIn_41 : decode cX5_countIn 41 = .ok (.ireturn, 1) := by decide +kernel
theorem dX5_requireKey_0 : decode cX5_requireKey 0 = .ok (.iload_n 0, 1) := by decide +kernel
theorem dX5_requireKey_1 : decode cX5_requireKey 1 = .ok (.iload_n 0, 1) := by decide +kernel
theorem dX5_requireKey_2 : decode cX5_requireKey 2 = .ok (.invokestatic 214, 3) := by decide +kernel
theorem dX5_requireKey_5 : decode cX5_requireKey 5 = .ok (.ifCond .ne 14, 3) := by decide +kernel
theorem dX5_requireKey_8 : decode cX5_requireKey 8 = .ok (.new 59, 3) := by decide +kernel
theorem dX5_requireKey_11 : decode cX5_requireKey 11 = .ok (.dup, 1) := by decide +kernel
theorem dX5_requireKey_12 : decode cX5_requireKey 12 = .ok (.ldc_w 263, 3) := by decide +kernel
theorem dX5_requireKey_15 : decode cX5_requireKey 15 = .ok (.invokespecial 63, 3) := by decide +kernel
theorem dX5_requireKey_18 : decode cX5_requireKey 18 = .ok (.athrow, 1) := by decide +kernel
theorem dX5_requireKey_19 : decode cX5_requireKey 19 = .ok (.return_, 1) := by decide +kernel
theorem dX5_requireCommit_0 : decode cX5_requireCommit 0 = .ok (.iload_n 1, 1) := by decide +kernel
theorem dX5_requireCommit_1 : decode cX5_requireCommit 1 = .ok (.iload_n 2, 1) := by decide +kernel
theorem dX5_requireCommit_2 : decode cX5_requireCommit 2 = .ok (.aload_n 0, 1) := by decide +kernel
theorem dX5_requireCommit_3 : decode cX5_requireCommit 3 = .ok (.getfield 10, 3) := by decide +kernel
theorem dX5_requireCommit_6 : decode cX5_requireCommit 6 = .ok (.getfield 128, 3) := by decide +kernel
theorem dX5_requireCommit_9 : decode cX5_requireCommit 9 = .ok (.invokestatic 55, 3) := by decide +kernel
theorem dX5_requireCommit_12 : decode cX5_requireCommit 12 = .ok (.ifCond .ne 14, 3) := by decide +kernel
theorem dX5_requireCommit_15 : decode cX5_requireCommit 15 = .ok (.new 265, 3) := by decide +kernel
theorem dX5_requireCommit_18 : decode cX5_requireCommit 18 = .ok (.dup, 1) := by decide +kernel
theorem dX5_requireCommit_19 : decode cX5_requireCommit 19 = .ok (.ldc_w 267, 3) := by decide +kernel
theorem dX5_requireCommit_22 : decode cX5_requireCommit 22 = .ok (.invokespecial 269, 3) := by decide +kernel
theorem dX5_requireCommit_25 : decode cX5_requireCommit 25 = .ok (.athrow, 1) := by decide +kernel
theorem dX5_requireCommit_26 : decode cX5_requireCommit 26 = .ok (.return_, 1) := by decide +kernel
theorem dX5_find_0 : decode cX5_find 0 = .ok (.iload_n 1, 1) := by decide +kernel
theorem dX5_find_1 : decode cX5_find 1 = .ok (.ifCond .lt 20, 3) := by decide +kernel
theorem dX5_find_4 : decode cX5_find 4 = .ok (.iload_n 1, 1) := by decide +kernel
theorem dX5_find_5 : decode cX5_find 5 = .ok (.aload_n 0, 1) := by decide +kernel
theorem dX5_find_6 : decode cX5_find 6 = .ok (.getfield 131, 3) := by decide +kernel
theorem dX5_find_9 : decode cX5_find 9 = .ok (.if_icmp .ge 12, 3) := by decide +kernel
theorem dX5_find_12 : decode cX5_find 12 = .ok (.aload_n 0, 1) := by decide +kernel
theorem dX5_find_13 : decode cX5_find 13 = .ok (.getfield 18, 3) := by decide +kernel
theorem dX5_find_16 : decode cX5_find 16 = .ok (.iload_n 1, 1) := by decide +kernel
theorem dX5_find_17 : decode cX5_find 17 = .ok (.aaload, 1) := by decide +kernel
theorem dX5_find_18 : decode cX5_find 18 = .ok (.goto 4, 3) := by decide +kernel
theorem dX5_find_21 : decode cX5_find 21 = .ok (.aconst_null, 1) := by decide +kernel
theorem dX5_find_22 : decode cX5_find 22 = .ok (.astore_n 2, 1) := by decide +kernel
theorem dX5_find_23 : decode cX5_find 23 = .ok (.aload_n 2, 1) := by decide +kernel
theorem dX5_find_24 : decode cX5_find 24 = .ok (.ifnonnull 14, 3) := by decide +kernel
theorem dX5_find_27 : decode cX5_find 27 = .ok (.new 265, 3) := by decide +kernel
theorem dX5_find_30 : decode cX5_find 30 = .ok (.dup, 1) := by decide +kernel
theorem dX5_find_31 : decode cX5_find 31 = .ok (.ldc_w 270, 3) := by decide +kernel
theorem dX5_find_34 : decode cX5_find 34 = .ok (.invokespecial 269, 3) := by decide +kernel
theorem dX5_find_37 : decode cX5_find 37 = .ok (.athrow, 1) := by decide +kernel
theorem dX5_find_38 : decode cX5_find 38 = .ok (.aload_n 2, 1) := by decide +kernel
theorem dX5_find_39 : decode cX5_find 39 = .ok (.areturn, 1) := by decide +kernel
theorem dX5_findActive_0 : decode cX5_findActive 0 = .ok (.aload_n 0, 1) := by decide +kernel
theorem dX5_findActive_1 : decode cX5_findActive 1 = .ok (.iload_n 1, 1) := by decide +kernel
theorem dX5_findActive_2 : decode cX5_findActive 2 = .ok (.invokevirtual 88, 3) := by decide +kernel
theorem dX5_findActive_5 : decode cX5_findActive 5 = .ok (.astore_n 2, 1) := by decide +kernel
theorem dX5_findActive_6 : decode cX5_findActive 6 = .ok (.aload_n 2, 1) := by decide +kernel
theorem dX5_findActive_7 : decode cX5_findActive 7 = .ok (.getfield 91, 3) := by decide +kernel
theorem dX5_findActive_10 : decode cX5_findActive 10 = .ok (.ifCond .eq 14, 3) := by decide +kernel
theorem dX5_findActive_13 : decode cX5_findActive 13 = .ok (.new 70, 3) := by decide +kernel
theorem dX5_findActive_16 : decode cX5_findActive 16 = .ok (.dup, 1) := by decide +kernel
theorem dX5_findActive_17 : decode cX5_findActive 17 = .ok (.ldc_w 272, 3) := by decide +kernel
theorem dX5_findActive_20 : decode cX5_findActive 20 = .ok (.invokespecial 74, 3) := by decide +kernel
theorem dX5_findActive_23 : decode cX5_findActive 23 = .ok (.athrow, 1) := by decide +kernel
theorem dX5_findActive_24 : decode cX5_findActive 24 = .ok (.aload_n 2, 1) := by decide +kernel
theorem dX5_findActive_25 : decode cX5_findActive 25 = .ok (.areturn, 1) := by decide +kernel
theorem dX5_countInState_0 : decode cX5_countInState 0 = .ok (.iconst 0, 1) := by decide +kernel
theorem dX5_countInState_1 : decode cX5_countInState 1 = .ok (.istore_n 2, 1) := by decide +kernel
theorem dX5_countInState_2 : decode cX5_countInState 2 = .ok (.iconst 0, 1) := by decide +kernel
theorem dX5_countInState_3 : decode cX5_countInState 3 = .ok (.istore_n 3, 1) := by decide +kernel
theorem dX5_countInState_4 : decode cX5_countInState 4 = .ok (.iload_n 3, 1) := by decide +kernel
theorem dX5_countInState_5 : decode cX5_countInState 5 = .ok (.aload_n 0, 1) := by decide +kernel
theorem dX5_countInState_6 : decode cX5_countInState 6 = .ok (.getfield 131, 3) := by decide +kernel
theorem dX5_countInState_9 : decode cX5_countInState 9 = .ok (.if_icmp .ge 34, 3) := by decide +kernel
theorem dX5_countInState_12 : decode cX5_countInState 12 = .ok (.aload_n 0, 1) := by decide +kernel
theorem dX5_countInState_13 : decode cX5_countInState 13 = .ok (.getfield 18, 3) := by decide +kernel
theorem dX5_countInState_16 : decode cX5_countInState 16 = .ok (.iload_n 3, 1) := by decide +kernel
theorem dX5_countInState_17 : decode cX5_countInState 17 = .ok (.aaload, 1) := by decide +kernel
theorem dX5_countInState_18 : decode cX5_countInState 18 = .ok (.astore 4, 2) := by decide +kernel
theorem dX5_countInState_20 : decode cX5_countInState 20 = .ok (.aload 4, 2) := by decide +kernel
theorem dX5_countInState_22 : decode cX5_countInState 22 = .ok (.ifnull 15, 3) := by decide +kernel
theorem dX5_countInState_25 : decode cX5_countInState 25 = .ok (.aload 4, 2) := by decide +kernel
theorem dX5_countInState_27 : decode cX5_countInState 27 = .ok (.getfield 91, 3) := by decide +kernel
theorem dX5_countInState_30 : decode cX5_countInState 30 = .ok (.iload_n 1, 1) := by decide +kernel
theorem dX5_countInState_31 : decode cX5_countInState 31 = .ok (.if_icmp .ne 6, 3) := by decide +kernel
theorem dX5_countInState_34 : decode cX5_countInState 34 = .ok (.iinc 2 1, 3) := by decide +kernel
theorem dX5_countInState_37 : decode cX5_countInState 37 = .ok (.iinc 3 1, 3) := by decide +kernel
theorem dX5_countInState_40 : decode cX5_countInState 40 = .ok (.goto (-36), 3) := by decide +kernel
theorem dX5_countInState_43 : decode cX5_countInState 43 = .ok (.iload_n 2, 1) := by decide +kernel
theorem dX5_countInState_44 : decode cX5_countInState 44 = .ok (.ireturn, 1) := by decide +kernel
theorem dX5_canStart_0 : decode cX5_canStart 0 = .ok (.aload_n 0, 1) := by decide +kernel
theorem dX5_canStart_1 : decode cX5_canStart 1 = .ok (.getfield 131, 3) := by decide +kernel
theorem dX5_canStart_4 : decode cX5_canStart 4 = .ok (.bipush 80, 2) := by decide +kernel
theorem dX5_canStart_6 : decode cX5_canStart 6 = .ok (.if_icmp .ge 17, 3) := by decide +kernel
theorem dX5_canStart_9 : decode cX5_canStart 9 = .ok (.aload_n 0, 1) := by decide +kernel
theorem dX5_canStart_10 : decode cX5_canStart 10 = .ok (.iconst 0, 1) := by decide +kernel
theorem dX5_canStart_11 : decode cX5_canStart 11 = .ok (.invokevirtual 66, 3) := by decide +kernel
theorem dX5_canStart_14 : decode cX5_canStart 14 = .ok (.bipush 6, 2) := by decide +kernel
theorem dX5_canStart_16 : decode cX5_canStart 16 = .ok (.if_icmp .ge 7, 3) := by decide +kernel
theorem dX5_canStart_19 : decode cX5_canStart 19 = .ok (.iconst 1, 1) := by decide +kernel
theorem dX5_canStart_20 : decode cX5_canStart 20 = .ok (.goto 4, 3) := by decide +kernel
theorem dX5_canStart_23 : decode cX5_canStart 23 = .ok (.iconst 0, 1) := by decide +kernel
theorem dX5_canStart_24 : decode cX5_canStart 24 = .ok (.ireturn, 1) := by decide +kernel
theorem dX5_start_0 : decode cX5_start 0 = .ok (.new 16, 3) := by decide +kernel
theorem dX5_start_3 : decode cX5_start 3 = .ok (.dup, 1) := by decide +kernel
theorem dX5_start_4 : decode cX5_start 4 = .ok (.aload_n 0, 1) := by decide +kernel
theorem dX5_start_5 : decode cX5_start 5 = .ok (.getfield 131, 3) := by decide +kernel
theorem dX5_start_8 : decode cX5_start 8 = .ok (.iload_n 1, 1) := by decide +kernel
theorem dX5_start_9 : decode cX5_start 9 = .ok (.invokespecial 274, 3) := by decide +kernel
theorem dX5_start_12 : decode cX5_start 12 = .ok (.astore_n 2, 1) := by decide +kernel
theorem dX5_start_13 : decode cX5_start 13 = .ok (.aload_n 0, 1) := by decide +kernel
theorem dX5_start_14 : decode cX5_start 14 = .ok (.getfield 131, 3) := by decide +kernel
theorem dX5_start_17 : decode cX5_start 17 = .ok (.bipush 80, 2) := by decide +kernel
theorem dX5_start_19 : decode cX5_start 19 = .ok (.if_icmp .ge 23, 3) := by decide +kernel
theorem dX5_start_22 : decode cX5_start 22 = .ok (.aload_n 0, 1) := by decide +kernel
theorem dX5_start_23 : decode cX5_start 23 = .ok (.getfield 18, 3) := by decide +kernel
theorem dX5_start_26 : decode cX5_start 26 = .ok (.aload_n 0, 1) := by decide +kernel
theorem dX5_start_27 : decode cX5_start 27 = .ok (.getfield 131, 3) := by decide +kernel
theorem dX5_start_30 : decode cX5_start 30 = .ok (.aload_n 2, 1) := by decide +kernel
theorem dX5_start_31 : decode cX5_start 31 = .ok (.aastore, 1) := by decide +kernel
theorem dX5_start_32 : decode cX5_start 32 = .ok (.aload_n 0, 1) := by decide +kernel
theorem dX5_start_33 : decode cX5_start 33 = .ok (.dup, 1) := by decide +kernel
theorem dX5_start_34 : decode cX5_start 34 = .ok (.getfield 131, 3) := by decide +kernel
theorem dX5_start_37 : decode cX5_start 37 = .ok (.iconst 1, 1) := by decide +kernel
theorem dX5_start_38 : decode cX5_start 38 = .ok (.iadd, 1) := by decide +kernel
theorem dX5_start_39 : decode cX5_start 39 = .ok (.putfield 131, 3) := by decide +kernel
theorem dX5_start_42 : decode cX5_start 42 = .ok (.aload_n 0, 1) := by decide +kernel
theorem dX5_start_43 : decode cX5_start 43 = .ok (.getfield 52, 3) := by decide +kernel
theorem dX5_start_46 : decode cX5_start 46 = .ok (.iconst (-1), 1) := by decide +kernel
theorem dX5_start_47 : decode cX5_start 47 = .ok (.if_icmp .ne 19, 3) := by decide +kernel
theorem dX5_start_50 : decode cX5_start 50 = .ok (.iload_n 1, 1) := by decide +kernel
theorem dX5_start_51 : decode cX5_start 51 = .ok (.aload_n 0, 1) := by decide +kernel
theorem dX5_start_52 : decode cX5_start 52 = .ok (.getfield 49, 3) := by decide +kernel
theorem dX5_start_55 : decode cX5_start 55 = .ok (.if_icmp .le 11, 3) := by decide +kernel
theorem dX5_start_58 : decode cX5_start 58 = .ok (.aload_n 0, 1) := by decide +kernel
theorem dX5_start_59 : decode cX5_start 59 = .ok (.aload_n 2, 1) := by decide +kernel
theorem dX5_start_60 : decode cX5_start 60 = .ok (.getfield 85, 3) := by decide +kernel
theorem dX5_start_63 : decode cX5_start 63 = .ok (.putfield 52, 3) := by decide +kernel
theorem dX5_start_66 : decode cX5_start 66 = .ok (.aload_n 2, 1) := by decide +kernel
theorem dX5_start_67 : decode cX5_start 67 = .ok (.areturn, 1) := by decide +kernel
theorem dX5_operate_0 : decode cX5_operate 0 = .ok (.aload_n 0, 1) := by decide +kernel
theorem dX5_operate_1 : decode cX5_operate 1 = .ok (.iload_n 1, 1) := by decide +kernel
theorem dX5_operate_2 : decode cX5_operate 2 = .ok (.invokevirtual 88, 3) := by decide +kernel
theorem dX5_operate_5 : decode cX5_operate 5 = .ok (.astore_n 3, 1) := by decide +kernel
theorem dX5_operate_6 : decode cX5_operate 6 = .ok (.aload_n 2, 1) := by decide +kernel
theorem dX5_operate_7 : decode cX5_operate 7 = .ok (.invokevirtual 276, 3) := by decide +kernel
theorem dX5_operate_10 : decode cX5_operate 10 = .ok (.ifCond .ne 14, 3) := by decide +kernel
theorem dX5_operate_13 : decode cX5_operate 13 = .ok (.new 59, 3) := by decide +kernel
theorem dX5_operate_16 : decode cX5_operate 16 = .ok (.dup, 1) := by decide +kernel
theorem dX5_operate_17 : decode cX5_operate 17 = .ok (.ldc_w 279, 3) := by decide +kernel
theorem dX5_operate_20 : decode cX5_operate 20 = .ok (.invokespecial 63, 3) := by decide +kernel
theorem dX5_operate_23 : decode cX5_operate 23 = .ok (.athrow, 1) := by decide +kernel
theorem dX5_operate_24 : decode cX5_operate 24 = .ok (.aload_n 3, 1) := by decide +kernel
theorem dX5_operate_25 : decode cX5_operate 25 = .ok (.invokevirtual 281, 3) := by decide +kernel
theorem dX5_operate_28 : decode cX5_operate 28 = .ok (.ifCond .ne 14, 3) := by decide +kernel
theorem dX5_operate_31 : decode cX5_operate 31 = .ok (.new 70, 3) := by decide +kernel
theorem dX5_operate_34 : decode cX5_operate 34 = .ok (.dup, 1) := by decide +kernel
theorem dX5_operate_35 : decode cX5_operate 35 = .ok (.ldc_w 284, 3) := by decide +kernel
theorem dX5_operate_38 : decode cX5_operate 38 = .ok (.invokespecial 74, 3) := by decide +kernel
theorem dX5_operate_41 : decode cX5_operate 41 = .ok (.athrow, 1) := by decide +kernel
theorem dX5_operate_42 : decode cX5_operate 42 = .ok (.aload_n 2, 1) := by decide +kernel
theorem dX5_operate_43 : decode cX5_operate 43 = .ok (.aload_n 0, 1) := by decide +kernel
theorem dX5_operate_44 : decode cX5_operate 44 = .ok (.aload_n 3, 1) := by decide +kernel
theorem dX5_operate_45 : decode cX5_operate 45 = .ok (.invokevirtual 286, 3) := by decide +kernel
theorem dX5_operate_48 : decode cX5_operate 48 = .ok (.invokevirtual 290, 3) := by decide +kernel
theorem dX5_operate_51 : decode cX5_operate 51 = .ok (.ifCond .ne 14, 3) := by decide +kernel
theorem dX5_operate_54 : decode cX5_operate 54 = .ok (.new 231, 3) := by decide +kernel
theorem dX5_operate_57 : decode cX5_operate 57 = .ok (.dup, 1) := by decide +kernel
theorem dX5_operate_58 : decode cX5_operate 58 = .ok (.ldc_w 293, 3) := by decide +kernel
theorem dX5_operate_61 : decode cX5_operate 61 = .ok (.invokespecial 235, 3) := by decide +kernel
theorem dX5_operate_64 : decode cX5_operate 64 = .ok (.athrow, 1) := by decide +kernel
theorem dX5_operate_65 : decode cX5_operate 65 = .ok (.aload_n 0, 1) := by decide +kernel
theorem dX5_operate_66 : decode cX5_operate 66 = .ok (.aload_n 3, 1) := by decide +kernel
theorem dX5_operate_67 : decode cX5_operate 67 = .ok (.aload_n 2, 1) := by decide +kernel
theorem dX5_operate_68 : decode cX5_operate 68 = .ok (.invokevirtual 295, 3) := by decide +kernel
theorem dX5_operate_71 : decode cX5_operate 71 = .ok (.ireturn, 1) := by decide +kernel
theorem dX5_perform_0 : decode cX5_perform 0 = .ok (.aload_n 2, 1) := by decide +kernel
theorem dX5_perform_1 : decode cX5_perform 1 = .ok (.aload_n 0, 1) := by decide +kernel
theorem dX5_perform_2 : decode cX5_perform 2 = .ok (.aload_n 1, 1) := by decide +kernel
theorem dX5_perform_3 : decode cX5_perform 3 = .ok (.invokevirtual 286, 3) := by decide +kernel
theorem dX5_perform_6 : decode cX5_perform 6 = .ok (.invokevirtual 299, 3) := by decide +kernel
theorem dX5_perform_9 : decode cX5_perform 9 = .ok (.istore_n 3, 1) := by decide +kernel
theorem dX5_perform_10 : decode cX5_perform 10 = .ok (.aload_n 1, 1) := by decide +kernel
theorem dX5_perform_11 : decode cX5_perform 11 = .ok (.aload_n 2, 1) := by decide +kernel
theorem dX5_perform_12 : decode cX5_perform 12 = .ok (.aload_n 0, 1) := by decide +kernel
theorem dX5_perform_13 : decode cX5_perform 13 = .ok (.getfield 10, 3) := by decide +kernel
theorem dX5_perform_16 : decode cX5_perform 16 = .ok (.getfield 128, 3) := by decide +kernel
theorem dX5_perform_19 : decode cX5_perform 19 = .ok (.iload_n 3, 1) := by decide +kernel
theorem dX5_perform_20 : decode cX5_perform 20 = .ok (.invokevirtual 303, 3) := by decide +kernel
theorem dX5_perform_23 : decode cX5_perform 23 = .ok (.iload_n 3, 1) := by decide +kernel
theorem dX5_perform_24 : decode cX5_perform 24 = .ok (.ireturn, 1) := by decide +kernel
theorem dX5_viewOf_0 : decode cX5_viewOf 0 = .ok (.aload_n 0, 1) := by decide +kernel
theorem dX5_viewOf_1 : decode cX5_viewOf 1 = .ok (.getfield 10, 3) := by decide +kernel
theorem dX5_viewOf_4 : decode cX5_viewOf 4 = .ok (.invokevirtual 172, 3) := by decide +kernel
theorem dX5_viewOf_7 : decode cX5_viewOf 7 = .ok (.iconst 0, 1) := by decide +kernel
theorem dX5_viewOf_8 : decode cX5_viewOf 8 = .ok (.aload_n 0, 1) := by decide +kernel
theorem dX5_viewOf_9 : decode cX5_viewOf 9 = .ok (.getfield 35, 3) := by decide +kernel
theorem dX5_viewOf_12 : decode cX5_viewOf 12 = .ok (.iconst 0, 1) := by decide +kernel
theorem dX5_viewOf_13 : decode cX5_viewOf 13 = .ok (.bipush 32, 2) := by decide +kernel
theorem dX5_viewOf_15 : decode cX5_viewOf 15 = .ok (.invokestatic 201, 3) := by decide +kernel
theorem dX5_viewOf_18 : decode cX5_viewOf 18 = .ok (.aload_n 1, 1) := by decide +kernel
theorem dX5_viewOf_19 : decode cX5_viewOf 19 = .ok (.aload_n 0, 1) := by decide +kernel
theorem dX5_viewOf_20 : decode cX5_viewOf 20 = .ok (.getfield 35, 3) := by decide +kernel
theorem dX5_viewOf_23 : decode cX5_viewOf 23 = .ok (.invokevirtual 307, 3) := by decide +kernel
theorem dX5_viewOf_26 : decode cX5_viewOf 26 = .ok (.aload_n 0, 1) := by decide +kernel
theorem dX5_viewOf_27 : decode cX5_viewOf 27 = .ok (.getfield 35, 3) := by decide +kernel
theorem dX5_viewOf_30 : decode cX5_viewOf 30 = .ok (.areturn, 1) := by decide +kernel
theorem dX5_tryToCommit_0 : decode cX5_tryToCommit 0 = .ok (.aload_n 0, 1) := by decide +kernel
theorem dX5_tryToCommit_1 : decode cX5_tryToCommit 1 = .ok (.aload_n 1, 1) := by decide +kernel
theorem dX5_tryToCommit_2 : decode cX5_tryToCommit 2 = .ok (.invokevirtual 311, 3) := by decide +kernel
theorem dX5_tryToCommit_5 : decode cX5_tryToCommit 5 = .ok (.ifCond .eq 5, 3) := by decide +kernel
theorem dX5_tryToCommit_8 : decode cX5_tryToCommit 8 = .ok (.iconst (-1), 1) := by decide +kernel
theorem dX5_tryToCommit_9 : decode cX5_tryToCommit 9 = .ok (.ireturn, 1) := by decide +kernel
theorem dX5_tryToCommit_10 : decode cX5_tryToCommit 10 = .ok (.aload_n 0, 1) := by decide +kernel
theorem dX5_tryToCommit_11 : decode cX5_tryToCommit 11 = .ok (.aload_n 1, 1) := by decide +kernel
theorem dX5_tryToCommit_12 : decode cX5_tryToCommit 12 = .ok (.invokevirtual 314, 3) := by decide +kernel
theorem dX5_tryToCommit_15 : decode cX5_tryToCommit 15 = .ok (.istore_n 2, 1) := by decide +kernel
theorem dX5_tryToCommit_16 : decode cX5_tryToCommit 16 = .ok (.iload_n 2, 1) := by decide +kernel
theorem dX5_tryToCommit_17 : decode cX5_tryToCommit 17 = .ok (.ifCond .eq 12, 3) := by decide +kernel
theorem dX5_tryToCommit_20 : decode cX5_tryToCommit 20 = .ok (.aload_n 0, 1) := by decide +kernel
theorem dX5_tryToCommit_21 : decode cX5_tryToCommit 21 = .ok (.aload_n 1, 1) := by decide +kernel
theorem dX5_tryToCommit_22 : decode cX5_tryToCommit 22 = .ok (.iload_n 2, 1) := by decide +kernel
theorem dX5_tryToCommit_23 : decode cX5_tryToCommit 23 = .ok (.invokevirtual 124, 3) := by decide +kernel
theorem dX5_tryToCommit_26 : decode cX5_tryToCommit 26 = .ok (.bipush (-2), 2) := by decide +kernel
theorem dX5_tryToCommit_28 : decode cX5_tryToCommit 28 = .ok (.ireturn, 1) := by decide +kernel
theorem dX5_tryToCommit_29 : decode cX5_tryToCommit 29 = .ok (.aload_n 0, 1) := by decide +kernel
theorem dX5_tryToCommit_30 : decode cX5_tryToCommit 30 = .ok (.getfield 42, 3) := by decide +kernel
theorem dX5_tryToCommit_33 : decode cX5_tryToCommit 33 = .ok (.iconst 1, 1) := by decide +kernel
theorem dX5_tryToCommit_34 : decode cX5_tryToCommit 34 = .ok (.if_icmp .ne 8, 3) := by decide +kernel
theorem dX5_tryToCommit_37 : decode cX5_tryToCommit 37 = .ok (.aload_n 0, 1) := by decide +kernel
theorem dX5_tryToCommit_38 : decode cX5_tryToCommit 38 = .ok (.aload_n 1, 1) := by decide +kernel
theorem dX5_tryToCommit_39 : decode cX5_tryToCommit 39 = .ok (.invokevirtual 317, 3) := by decide +kernel
theorem dX5_tryToCommit_42 : decode cX5_tryToCommit 42 = .ok (.aload_n 0, 1) := by decide +kernel
theorem dX5_tryToCommit_43 : decode cX5_tryToCommit 43 = .ok (.getfield 10, 3) := by decide +kernel
theorem dX5_tryToCommit_46 : decode cX5_tryToCommit 46 = .ok (.aload_n 1, 1) := by decide +kernel
theorem dX5_tryToCommit_47 : decode cX5_tryToCommit 47 = .ok (.invokevirtual 321, 3) := by decide +kernel
theorem dX5_tryToCommit_50 : decode cX5_tryToCommit 50 = .ok (.aload_n 0, 1) := by decide +kernel
theorem dX5_tryToCommit_51 : decode cX5_tryToCommit 51 = .ok (.aload_n 1, 1) := by decide +kernel
theorem dX5_tryToCommit_52 : decode cX5_tryToCommit 52 = .ok (.invokevirtual 324, 3) := by decide +kernel
theorem dX5_tryToCommit_55 : decode cX5_tryToCommit 55 = .ok (.aload_n 1, 1) := by decide +kernel
theorem dX5_tryToCommit_56 : decode cX5_tryToCommit 56 = .ok (.getfield 146, 3) := by decide +kernel
theorem dX5_tryToCommit_59 : decode cX5_tryToCommit 59 = .ok (.ireturn, 1) := by decide +kernel
theorem dX5_isBlocked_0 : decode cX5_isBlocked 0 = .ok (.aload_n 0, 1) := by decide +kernel
theorem dX5_isBlocked_1 : decode cX5_isBlocked 1 = .ok (.getfield 52, 3) := by decide +kernel
theorem dX5_isBlocked_4 : decode cX5_isBlocked 4 = .ok (.ifCond .lt 35, 3) := by decide +kernel
theorem dX5_isBlocked_7 : decode cX5_isBlocked 7 = .ok (.aload_n 0, 1) := by decide +kernel
theorem dX5_isBlocked_8 : decode cX5_isBlocked 8 = .ok (.getfield 52, 3) := by decide +kernel
theorem dX5_isBlocked_11 : decode cX5_isBlocked 11 = .ok (.aload_n 0, 1) := by decide +kernel
theorem dX5_isBlocked_12 : decode cX5_isBlocked 12 = .ok (.getfield 131, 3) := by decide +kernel
theorem dX5_isBlocked_15 : decode cX5_isBlocked 15 = .ok (.if_icmp .ge 24, 3) := by decide +kernel
theorem dX5_isBlocked_18 : decode cX5_isBlocked 18 = .ok (.aload_n 0, 1) := by decide +kernel
theorem dX5_isBlocked_19 : decode cX5_isBlocked 19 = .ok (.aload_n 1, 1) := by decide +kernel
theorem dX5_isBlocked_20 : decode cX5_isBlocked 20 = .ok (.aload_n 0, 1) := by decide +kernel
theorem dX5_isBlocked_21 : decode cX5_isBlocked 21 = .ok (.getfield 18, 3) := by decide +kernel
theorem dX5_isBlocked_24 : decode cX5_isBlocked 24 = .ok (.aload_n 0, 1) := by decide +kernel
theorem dX5_isBlocked_25 : decode cX5_isBlocked 25 = .ok (.getfield 52, 3) := by decide +kernel
theorem dX5_isBlocked_28 : decode cX5_isBlocked 28 = .ok (.aaload, 1) := by decide +kernel
theorem dX5_isBlocked_29 : decode cX5_isBlocked 29 = .ok (.invokevirtual 327, 3) := by decide +kernel
theorem dX5_isBlocked_32 : decode cX5_isBlocked 32 = .ok (.ifCond .eq 7, 3) := by decide +kernel
theorem dX5_isBlocked_35 : decode cX5_isBlocked 35 = .ok (.iconst 1, 1) := by decide +kernel
theorem dX5_isBlocked_36 : decode cX5_isBlocked 36 = .ok (.goto 4, 3) := by decide +kernel
theorem dX5_isBlocked_39 : decode cX5_isBlocked 39 = .ok (.iconst 0, 1) := by decide +kernel
theorem dX5_isBlocked_40 : decode cX5_isBlocked 40 = .ok (.ireturn, 1) := by decide +kernel
theorem dX5_reasonToAbort_0 : decode cX5_reasonToAbort 0 = .ok (.aload_n 0, 1) := by decide +kernel
theorem dX5_reasonToAbort_1 : decode cX5_reasonToAbort 1 = .ok (.getfield 42, 3) := by decide +kernel
theorem dX5_reasonToAbort_4 : decode cX5_reasonToAbort 4 = .ok (.ifCond .ne 21, 3) := by decide +kernel
theorem dX5_reasonToAbort_7 : decode cX5_reasonToAbort 7 = .ok (.aload_n 0, 1) := by decide +kernel
theorem dX5_reasonToAbort_8 : decode cX5_reasonToAbort 8 = .ok (.getfield 10, 3) := by decide +kernel
theorem dX5_reasonToAbort_11 : decode cX5_reasonToAbort 11 = .ok (.aload_n 1, 1) := by decide +kernel
theorem dX5_reasonToAbort_12 : decode cX5_reasonToAbort 12 = .ok (.invokevirtual 162, 3) := by decide +kernel
theorem dX5_reasonToAbort_15 : decode cX5_reasonToAbort 15 = .ok (.istore_n 2, 1) := by decide +kernel
theorem dX5_reasonToAbort_16 : decode cX5_reasonToAbort 16 = .ok (.iload_n 2, 1) := by decide +kernel
theorem dX5_reasonToAbort_17 : decode cX5_reasonToAbort 17 = .ok (.ifCond .eq 5, 3) := by decide +kernel
theorem dX5_reasonToAbort_20 : decode cX5_reasonToAbort 20 = .ok (.iload_n 2, 1) := by decide +kernel
theorem dX5_reasonToAbort_21 : decode cX5_reasonToAbort 21 = .ok (.ireturn, 1) := by decide +kernel
theorem dX5_reasonToAbort_22 : decode cX5_reasonToAbort 22 = .ok (.goto 13, 3) := by decide +kernel
theorem dX5_reasonToAbort_25 : decode cX5_reasonToAbort 25 = .ok (.aload_n 0, 1) := by decide +kernel
theorem dX5_reasonToAbort_26 : decode cX5_reasonToAbort 26 = .ok (.aload_n 1, 1) := by decide +kernel
theorem dX5_reasonToAbort_27 : decode cX5_reasonToAbort 27 = .ok (.invokevirtual 331, 3) := by decide +kernel
theorem dX5_reasonToAbort_30 : decode cX5_reasonToAbort 30 = .ok (.ifCond .eq 5, 3) := by decide +kernel
theorem dX5_reasonToAbort_33 : decode cX5_reasonToAbort 33 = .ok (.iconst 3, 1) := by decide +kernel
theorem dX5_reasonToAbort_34 : decode cX5_reasonToAbort 34 = .ok (.ireturn, 1) := by decide +kernel
theorem dX5_reasonToAbort_35 : decode cX5_reasonToAbort 35 = .ok (.aload_n 0, 1) := by decide +kernel
theorem dX5_reasonToAbort_36 : decode cX5_reasonToAbort 36 = .ok (.aload_n 0, 1) := by decide +kernel
theorem dX5_reasonToAbort_37 : decode cX5_reasonToAbort 37 = .ok (.aload_n 1, 1) := by decide +kernel
theorem dX5_reasonToAbort_38 : decode cX5_reasonToAbort 38 = .ok (.invokevirtual 286, 3) := by decide +kernel
theorem dX5_reasonToAbort_41 : decode cX5_reasonToAbort 41 = .ok (.invokevirtual 334, 3) := by decide +kernel
theorem dX5_reasonToAbort_44 : decode cX5_reasonToAbort 44 = .ok (.ifCond .eq 7, 3) := by decide +kernel
theorem dX5_reasonToAbort_47 : decode cX5_reasonToAbort 47 = .ok (.iconst 4, 1) := by decide +kernel
theorem dX5_reasonToAbort_48 : decode cX5_reasonToAbort 48 = .ok (.goto 4, 3) := by decide +kernel
theorem dX5_reasonToAbort_51 : decode cX5_reasonToAbort 51 = .ok (.iconst 0, 1) := by decide +kernel
theorem dX5_reasonToAbort_52 : decode cX5_reasonToAbort 52 = .ok (.ireturn, 1) := by decide +kernel
theorem dX5_losesToRivals_0 : decode cX5_losesToRivals 0 = .ok (.aload_n 0, 1) := by decide +kernel
theorem dX5_losesToRivals_1 : decode cX5_losesToRivals 1 = .ok (.getfield 52, 3) := by decide +kernel
theorem dX5_losesToRivals_4 : decode cX5_losesToRivals 4 = .ok (.aload_n 1, 1) := by decide +kernel
theorem dX5_losesToRivals_5 : decode cX5_losesToRivals 5 = .ok (.getfield 85, 3) := by decide +kernel
theorem dX5_losesToRivals_8 : decode cX5_losesToRivals 8 = .ok (.if_icmp .eq 11, 3) := by decide +kernel
theorem dX5_losesToRivals_11 : decode cX5_losesToRivals 11 = .ok (.aload_n 0, 1) := by decide +kernel
theorem dX5_losesToRivals_12 : decode cX5_losesToRivals 12 = .ok (.getfield 46, 3) := by decide +kernel
theorem dX5_losesToRivals_15 : decode cX5_losesToRivals 15 = .ok (.iconst 1, 1) := by decide +kernel
theorem dX5_losesToRivals_16 : decode cX5_losesToRivals 16 = .ok (.if_icmp .ne 5, 3) := by decide +kernel
theorem dX5_losesToRivals_19 : decode cX5_losesToRivals 19 = .ok (.iconst 0, 1) := by decide +kernel
theorem dX5_losesToRivals_20 : decode cX5_losesToRivals 20 = .ok (.ireturn, 1) := by decide +kernel
theorem dX5_losesToRivals_21 : decode cX5_losesToRivals 21 = .ok (.aload_n 0, 1) := by decide +kernel
theorem dX5_losesToRivals_22 : decode cX5_losesToRivals 22 = .ok (.getfield 46, 3) := by decide +kernel
theorem dX5_losesToRivals_25 : decode cX5_losesToRivals 25 = .ok (.iconst 2, 1) := by decide +kernel
theorem dX5_losesToRivals_26 : decode cX5_losesToRivals 26 = .ok (.if_icmp .ne 10, 3) := by decide +kernel
theorem dX5_losesToRivals_29 : decode cX5_losesToRivals 29 = .ok (.aload_n 1, 1) := by decide +kernel
theorem dX5_losesToRivals_30 : decode cX5_losesToRivals 30 = .ok (.getfield 149, 3) := by decide +kernel
theorem dX5_losesToRivals_33 : decode cX5_losesToRivals 33 = .ok (.goto 4, 3) := by decide +kernel
theorem dX5_losesToRivals_36 : decode cX5_losesToRivals 36 = .ok (.iconst (-1), 1) := by decide +kernel
theorem dX5_losesToRivals_37 : decode cX5_losesToRivals 37 = .ok (.istore_n 2, 1) := by decide +kernel
theorem dX5_losesToRivals_38 : decode cX5_losesToRivals 38 = .ok (.iconst 0, 1) := by decide +kernel
theorem dX5_losesToRivals_39 : decode cX5_losesToRivals 39 = .ok (.istore_n 3, 1) := by decide +kernel
theorem dX5_losesToRivals_40 : decode cX5_losesToRivals 40 = .ok (.iload_n 3, 1) := by decide +kernel
theorem dX5_losesToRivals_41 : decode cX5_losesToRivals 41 = .ok (.aload_n 0, 1) := by decide +kernel
theorem dX5_losesToRivals_42 : decode cX5_losesToRivals 42 = .ok (.getfield 131, 3) := by decide +kernel
theorem dX5_losesToRivals_45 : decode cX5_losesToRivals 45 = .ok (.if_icmp .ge 43, 3) := by decide +kernel
theorem dX5_losesToRivals_48 : decode cX5_losesToRivals 48 = .ok (.aload_n 0, 1) := by decide +kernel
theorem dX5_losesToRivals_49 : decode cX5_losesToRivals 49 = .ok (.getfield 18, 3) := by decide +kernel
theorem dX5_losesToRivals_52 : decode cX5_losesToRivals 52 = .ok (.iload_n 3, 1) := by decide +kernel
theorem dX5_losesToRivals_53 : decode cX5_losesToRivals 53 = .ok (.aaload, 1) := by decide +kernel
theorem dX5_losesToRivals_54 : decode cX5_losesToRivals 54 = .ok (.astore 4, 2) := by decide +kernel
theorem dX5_losesToRivals_56 : decode cX5_losesToRivals 56 = .ok (.aload 4, 2) := by decide +kernel
theorem dX5_losesToRivals_58 : decode cX5_losesToRivals 58 = .ok (.ifnull 24, 3) := by decide +kernel
theorem dX5_losesToRivals_61 : decode cX5_losesToRivals 61 = .ok (.aload 4, 2) := by decide +kernel
theorem dX5_losesToRivals_63 : decode cX5_losesToRivals 63 = .ok (.getfield 149, 3) := by decide +kernel
theorem dX5_losesToRivals_66 : decode cX5_losesToRivals 66 = .ok (.iload_n 2, 1) := by decide +kernel
theorem dX5_losesToRivals_67 : decode cX5_losesToRivals 67 = .ok (.if_icmp .le 15, 3) := by decide +kernel
theorem dX5_losesToRivals_70 : decode cX5_losesToRivals 70 = .ok (.aload_n 0, 1) := by decide +kernel
theorem dX5_losesToRivals_71 : decode cX5_losesToRivals 71 = .ok (.aload_n 1, 1) := by decide +kernel
theorem dX5_losesToRivals_72 : decode cX5_losesToRivals 72 = .ok (.aload 4, 2) := by decide +kernel
theorem dX5_losesToRivals_74 : decode cX5_losesToRivals 74 = .ok (.invokevirtual 327, 3) := by decide +kernel
theorem dX5_losesToRivals_77 : decode cX5_losesToRivals 77 = .ok (.ifCond .eq 5, 3) := by decide +kernel
theorem dX5_losesToRivals_80 : decode cX5_losesToRivals 80 = .ok (.iconst 1, 1) := by decide +kernel
theorem dX5_losesToRivals_81 : decode cX5_losesToRivals 81 = .ok (.ireturn, 1) := by decide +kernel
theorem dX5_losesToRivals_82 : decode cX5_losesToRivals 82 = .ok (.iinc 3 1, 3) := by decide +kernel
theorem dX5_losesToRivals_85 : decode cX5_losesToRivals 85 = .ok (.goto (-45), 3) := by decide +kernel
theorem dX5_losesToRivals_88 : decode cX5_losesToRivals 88 = .ok (.iconst 0, 1) := by decide +kernel
theorem dX5_losesToRivals_89 : decode cX5_losesToRivals 89 = .ok (.ireturn, 1) := by decide +kernel
theorem dX5_violatesConstraint_0 : decode cX5_violatesConstraint 0 = .ok (.iconst 0, 1) := by decide +kernel
theorem dX5_violatesConstraint_1 : decode cX5_violatesConstraint 1 = .ok (.istore_n 2, 1) := by decide +kernel
theorem dX5_violatesConstraint_2 : decode cX5_violatesConstraint 2 = .ok (.iload_n 2, 1) := by decide +kernel
theorem dX5_violatesConstraint_3 : decode cX5_violatesConstraint 3 = .ok (.aload_n 0, 1) := by decide +kernel
theorem dX5_violatesConstraint_4 : decode cX5_violatesConstraint 4 = .ok (.getfield 221, 3) := by decide +kernel
theorem dX5_violatesConstraint_7 : decode cX5_violatesConstraint 7 = .ok (.if_icmp .ge 30, 3) := by decide +kernel
theorem dX5_violatesConstraint_10 : decode cX5_violatesConstraint 10 = .ok (.aload_n 0, 1) := by decide +kernel
theorem dX5_violatesConstraint_11 : decode cX5_violatesConstraint 11 = .ok (.getfield 24, 3) := by decide +kernel
theorem dX5_violatesConstraint_14 : decode cX5_violatesConstraint 14 = .ok (.iload_n 2, 1) := by decide +kernel
theorem dX5_violatesConstraint_15 : decode cX5_violatesConstraint 15 = .ok (.aaload, 1) := by decide +kernel
theorem dX5_violatesConstraint_16 : decode cX5_violatesConstraint 16 = .ok (.astore_n 3, 1) := by decide +kernel
theorem dX5_violatesConstraint_17 : decode cX5_violatesConstraint 17 = .ok (.aload_n 3, 1) := by decide +kernel
theorem dX5_violatesConstraint_18 : decode cX5_violatesConstraint 18 = .ok (.ifnull 13, 3) := by decide +kernel
theorem dX5_violatesConstraint_21 : decode cX5_violatesConstraint 21 = .ok (.aload_n 3, 1) := by decide +kernel
theorem dX5_violatesConstraint_22 : decode cX5_violatesConstraint 22 = .ok (.aload_n 1, 1) := by decide +kernel
theorem dX5_violatesConstraint_23 : decode cX5_violatesConstraint 23 = .ok (.invokevirtual 224, 3) := by decide +kernel
theorem dX5_violatesConstraint_26 : decode cX5_violatesConstraint 26 = .ok (.ifCond .eq 5, 3) := by decide +kernel
theorem dX5_violatesConstraint_29 : decode cX5_violatesConstraint 29 = .ok (.iconst 1, 1) := by decide +kernel
theorem dX5_violatesConstraint_30 : decode cX5_violatesConstraint 30 = .ok (.ireturn, 1) := by decide +kernel
theorem dX5_violatesConstraint_31 : decode cX5_violatesConstraint 31 = .ok (.iinc 2 1, 3) := by decide +kernel
theorem dX5_violatesConstraint_34 : decode cX5_violatesConstraint 34 = .ok (.goto (-32), 3) := by decide +kernel
theorem dX5_violatesConstraint_37 : decode cX5_violatesConstraint 37 = .ok (.iconst 0, 1) := by decide +kernel
theorem dX5_violatesConstraint_38 : decode cX5_violatesConstraint 38 = .ok (.ireturn, 1) := by decide +kernel
theorem dX5_isRival_0 : decode cX5_isRival 0 = .ok (.aload_n 2, 1) := by decide +kernel
theorem dX5_isRival_1 : decode cX5_isRival 1 = .ok (.ifnull 34, 3) := by decide +kernel
theorem dX5_isRival_4 : decode cX5_isRival 4 = .ok (.aload_n 2, 1) := by decide +kernel
theorem dX5_isRival_5 : decode cX5_isRival 5 = .ok (.aload_n 1, 1) := by decide +kernel
theorem dX5_isRival_6 : decode cX5_isRival 6 = .ok (.if_acmp .eq 29, 3) := by decide +kernel
theorem dX5_isRival_9 : decode cX5_isRival 9 = .ok (.aload_n 2, 1) := by decide +kernel
theorem dX5_isRival_10 : decode cX5_isRival 10 = .ok (.getfield 91, 3) := by decide +kernel
theorem dX5_isRival_13 : decode cX5_isRival 13 = .ok (.ifCond .ne 22, 3) := by decide +kernel
theorem dX5_isRival_16 : decode cX5_isRival 16 = .ok (.aload_n 2, 1) := by decide +kernel
theorem dX5_isRival_17 : decode cX5_isRival 17 = .ok (.aload_n 1, 1) := by decide +kernel
theorem dX5_isRival_18 : decode cX5_isRival 18 = .ok (.aload_n 0, 1) := by decide +kernel
theorem dX5_isRival_19 : decode cX5_isRival 19 = .ok (.getfield 10, 3) := by decide +kernel
theorem dX5_isRival_22 : decode cX5_isRival 22 = .ok (.invokevirtual 172, 3) := by decide +kernel
theorem dX5_isRival_25 : decode cX5_isRival 25 = .ok (.invokevirtual 337, 3) := by decide +kernel
theorem dX5_isRival_28 : decode cX5_isRival 28 = .ok (.ifCond .eq 7, 3) := by decide +kernel
theorem dX5_isRival_31 : decode cX5_isRival 31 = .ok (.iconst 1, 1) := by decide +kernel
theorem dX5_isRival_32 : decode cX5_isRival 32 = .ok (.goto 4, 3) := by decide +kernel
theorem dX5_isRival_35 : decode cX5_isRival 35 = .ok (.iconst 0, 1) := by decide +kernel
theorem dX5_isRival_36 : decode cX5_isRival 36 = .ok (.ireturn, 1) := by decide +kernel
theorem dX5_countRivals_0 : decode cX5_countRivals 0 = .ok (.iconst 0, 1) := by decide +kernel
theorem dX5_countRivals_1 : decode cX5_countRivals 1 = .ok (.istore_n 2, 1) := by decide +kernel
theorem dX5_countRivals_2 : decode cX5_countRivals 2 = .ok (.iconst 0, 1) := by decide +kernel
theorem dX5_countRivals_3 : decode cX5_countRivals 3 = .ok (.istore_n 3, 1) := by decide +kernel
theorem dX5_countRivals_4 : decode cX5_countRivals 4 = .ok (.iload_n 3, 1) := by decide +kernel
theorem dX5_countRivals_5 : decode cX5_countRivals 5 = .ok (.aload_n 0, 1) := by decide +kernel
theorem dX5_countRivals_6 : decode cX5_countRivals 6 = .ok (.getfield 131, 3) := by decide +kernel
theorem dX5_countRivals_9 : decode cX5_countRivals 9 = .ok (.if_icmp .ge 26, 3) := by decide +kernel
theorem dX5_countRivals_12 : decode cX5_countRivals 12 = .ok (.aload_n 0, 1) := by decide +kernel
theorem dX5_countRivals_13 : decode cX5_countRivals 13 = .ok (.aload_n 1, 1) := by decide +kernel
theorem dX5_countRivals_14 : decode cX5_countRivals 14 = .ok (.aload_n 0, 1) := by decide +kernel
theorem dX5_countRivals_15 : decode cX5_countRivals 15 = .ok (.getfield 18, 3) := by decide +kernel
theorem dX5_countRivals_18 : decode cX5_countRivals 18 = .ok (.iload_n 3, 1) := by decide +kernel
theorem dX5_countRivals_19 : decode cX5_countRivals 19 = .ok (.aaload, 1) := by decide +kernel
theorem dX5_countRivals_20 : decode cX5_countRivals 20 = .ok (.invokevirtual 327, 3) := by decide +kernel
theorem dX5_countRivals_23 : decode cX5_countRivals 23 = .ok (.ifCond .eq 6, 3) := by decide +kernel
theorem dX5_countRivals_26 : decode cX5_countRivals 26 = .ok (.iinc 2 1, 3) := by decide +kernel
theorem dX5_countRivals_29 : decode cX5_countRivals 29 = .ok (.iinc 3 1, 3) := by decide +kernel
theorem dX5_countRivals_32 : decode cX5_countRivals 32 = .ok (.goto (-28), 3) := by decide +kernel
theorem dX5_countRivals_35 : decode cX5_countRivals 35 = .ok (.iload_n 2, 1) := by decide +kernel
theorem dX5_countRivals_36 : decode cX5_countRivals 36 = .ok (.ireturn, 1) := by decide +kernel
theorem dX5_abortRivals_0 : decode cX5_abortRivals 0 = .ok (.iconst 0, 1) := by decide +kernel
theorem dX5_abortRivals_1 : decode cX5_abortRivals 1 = .ok (.istore_n 2, 1) := by decide +kernel
theorem dX5_abortRivals_2 : decode cX5_abortRivals 2 = .ok (.iload_n 2, 1) := by decide +kernel
theorem dX5_abortRivals_3 : decode cX5_abortRivals 3 = .ok (.aload_n 0, 1) := by decide +kernel
theorem dX5_abortRivals_4 : decode cX5_abortRivals 4 = .ok (.getfield 131, 3) := by decide +kernel
theorem dX5_abortRivals_7 : decode cX5_abortRivals 7 = .ok (.if_icmp .ge 35, 3) := by decide +kernel
theorem dX5_abortRivals_10 : decode cX5_abortRivals 10 = .ok (.aload_n 0, 1) := by decide +kernel
theorem dX5_abortRivals_11 : decode cX5_abortRivals 11 = .ok (.getfield 18, 3) := by decide +kernel
theorem dX5_abortRivals_14 : decode cX5_abortRivals 14 = .ok (.iload_n 2, 1) := by decide +kernel
theorem dX5_abortRivals_15 : decode cX5_abortRivals 15 = .ok (.aaload, 1) := by decide +kernel
theorem dX5_abortRivals_16 : decode cX5_abortRivals 16 = .ok (.astore_n 3, 1) := by decide +kernel
theorem dX5_abortRivals_17 : decode cX5_abortRivals 17 = .ok (.aload_n 3, 1) := by decide +kernel
theorem dX5_abortRivals_18 : decode cX5_abortRivals 18 = .ok (.ifnull 18, 3) := by decide +kernel
theorem dX5_abortRivals_21 : decode cX5_abortRivals 21 = .ok (.aload_n 0, 1) := by decide +kernel
theorem dX5_abortRivals_22 : decode cX5_abortRivals 22 = .ok (.aload_n 1, 1) := by decide +kernel
theorem dX5_abortRivals_23 : decode cX5_abortRivals 23 = .ok (.aload_n 3, 1) := by decide +kernel
theorem dX5_abortRivals_24 : decode cX5_abortRivals 24 = .ok (.invokevirtual 327, 3) := by decide +kernel
theorem dX5_abortRivals_27 : decode cX5_abortRivals 27 = .ok (.ifCond .eq 9, 3) := by decide +kernel
theorem dX5_abortRivals_30 : decode cX5_abortRivals 30 = .ok (.aload_n 0, 1) := by decide +kernel
theorem dX5_abortRivals_31 : decode cX5_abortRivals 31 = .ok (.aload_n 3, 1) := by decide +kernel
theorem dX5_abortRivals_32 : decode cX5_abortRivals 32 = .ok (.iconst 3, 1) := by decide +kernel
theorem dX5_abortRivals_33 : decode cX5_abortRivals 33 = .ok (.invokevirtual 124, 3) := by decide +kernel
theorem dX5_abortRivals_36 : decode cX5_abortRivals 36 = .ok (.iinc 2 1, 3) := by decide +kernel
theorem dX5_abortRivals_39 : decode cX5_abortRivals 39 = .ok (.goto (-37), 3) := by decide +kernel
theorem dX5_abortRivals_42 : decode cX5_abortRivals 42 = .ok (.return_, 1) := by decide +kernel
theorem dX5_endInAbort_0 : decode cX5_endInAbort 0 = .ok (.aload_n 1, 1) := by decide +kernel
theorem dX5_endInAbort_1 : decode cX5_endInAbort 1 = .ok (.iload_n 2, 1) := by decide +kernel
theorem dX5_endInAbort_2 : decode cX5_endInAbort 2 = .ok (.invokevirtual 341, 3) := by decide +kernel
theorem dX5_endInAbort_5 : decode cX5_endInAbort 5 = .ok (.aload_n 0, 1) := by decide +kernel
theorem dX5_endInAbort_6 : decode cX5_endInAbort 6 = .ok (.aload_n 1, 1) := by decide +kernel
theorem dX5_endInAbort_7 : decode cX5_endInAbort 7 = .ok (.invokevirtual 324, 3) := by decide +kernel
theorem dX5_endInAbort_10 : decode cX5_endInAbort 10 = .ok (.return_, 1) := by decide +kernel
theorem dX5_releaseTicket_0 : decode cX5_releaseTicket 0 = .ok (.aload_n 0, 1) := by decide +kernel
theorem dX5_releaseTicket_1 : decode cX5_releaseTicket 1 = .ok (.getfield 52, 3) := by decide +kernel
theorem dX5_releaseTicket_4 : decode cX5_releaseTicket 4 = .ok (.aload_n 1, 1) := by decide +kernel
theorem dX5_releaseTicket_5 : decode cX5_releaseTicket 5 = .ok (.getfield 85, 3) := by decide +kernel
theorem dX5_releaseTicket_8 : decode cX5_releaseTicket 8 = .ok (.if_icmp .ne 8, 3) := by decide +kernel
theorem dX5_releaseTicket_11 : decode cX5_releaseTicket 11 = .ok (.aload_n 0, 1) := by decide +kernel
theorem dX5_releaseTicket_12 : decode cX5_releaseTicket 12 = .ok (.iconst (-1), 1) := by decide +kernel
theorem dX5_releaseTicket_13 : decode cX5_releaseTicket 13 = .ok (.putfield 52, 3) := by decide +kernel
theorem dX5_releaseTicket_16 : decode cX5_releaseTicket 16 = .ok (.return_, 1) := by decide +kernel
theorem dX5_performSteps_0 : decode cX5_performSteps 0 = .ok (.iconst 0, 1) := by decide +kernel
theorem dX5_performSteps_1 : decode cX5_performSteps 1 = .ok (.istore_n 2, 1) := by decide +kernel
theorem dX5_performSteps_2 : decode cX5_performSteps 2 = .ok (.iload_n 2, 1) := by decide +kernel
theorem dX5_performSteps_3 : decode cX5_performSteps 3 = .ok (.aload_n 0, 1) := by decide +kernel
theorem dX5_performSteps_4 : decode cX5_performSteps 4 = .ok (.getfield 31, 3) := by decide +kernel
theorem dX5_performSteps_7 : decode cX5_performSteps 7 = .ok (.getfield 344, 3) := by decide +kernel
theorem dX5_performSteps_10 : decode cX5_performSteps 10 = .ok (.if_icmp .ge 46, 3) := by decide +kernel
theorem dX5_performSteps_13 : decode cX5_performSteps 13 = .ok (.aload_n 0, 1) := by decide +kernel
theorem dX5_performSteps_14 : decode cX5_performSteps 14 = .ok (.getfield 31, 3) := by decide +kernel
theorem dX5_performSteps_17 : decode cX5_performSteps 17 = .ok (.iload_n 2, 1) := by decide +kernel
theorem dX5_performSteps_18 : decode cX5_performSteps 18 = .ok (.invokevirtual 347, 3) := by decide +kernel
theorem dX5_performSteps_21 : decode cX5_performSteps 21 = .ok (.astore_n 3, 1) := by decide +kernel
theorem dX5_performSteps_22 : decode cX5_performSteps 22 = .ok (.aload_n 3, 1) := by decide +kernel
theorem dX5_performSteps_23 : decode cX5_performSteps 23 = .ok (.ifnull 12, 3) := by decide +kernel
theorem dX5_performSteps_26 : decode cX5_performSteps 26 = .ok (.aload_n 0, 1) := by decide +kernel
theorem dX5_performSteps_27 : decode cX5_performSteps 27 = .ok (.aload_n 1, 1) := by decide +kernel
theorem dX5_performSteps_28 : decode cX5_performSteps 28 = .ok (.aload_n 3, 1) := by decide +kernel
theorem dX5_performSteps_29 : decode cX5_performSteps 29 = .ok (.invokevirtual 351, 3) := by decide +kernel
theorem dX5_performSteps_32 : decode cX5_performSteps 32 = .ok (.ifCond .ne 11, 3) := by decide +kernel
theorem dX5_performSteps_35 : decode cX5_performSteps 35 = .ok (.aload_n 0, 1) := by decide +kernel
theorem dX5_performSteps_36 : decode cX5_performSteps 36 = .ok (.aload_n 1, 1) := by decide +kernel
theorem dX5_performSteps_37 : decode cX5_performSteps 37 = .ok (.iconst 5, 1) := by decide +kernel
theorem dX5_performSteps_38 : decode cX5_performSteps 38 = .ok (.invokevirtual 124, 3) := by decide +kernel
theorem dX5_performSteps_41 : decode cX5_performSteps 41 = .ok (.iconst 0, 1) := by decide +kernel
theorem dX5_performSteps_42 : decode cX5_performSteps 42 = .ok (.ireturn, 1) := by decide +kernel
theorem dX5_performSteps_43 : decode cX5_performSteps 43 = .ok (.aload_n 0, 1) := by decide +kernel
theorem dX5_performSteps_44 : decode cX5_performSteps 44 = .ok (.aload_n 1, 1) := by decide +kernel
theorem dX5_performSteps_45 : decode cX5_performSteps 45 = .ok (.aload_n 3, 1) := by decide +kernel
theorem dX5_performSteps_46 : decode cX5_performSteps 46 = .ok (.invokevirtual 295, 3) := by decide +kernel
theorem dX5_performSteps_49 : decode cX5_performSteps 49 = .ok (.pop, 1) := by decide +kernel
theorem dX5_performSteps_50 : decode cX5_performSteps 50 = .ok (.iinc 2 1, 3) := by decide +kernel
theorem dX5_performSteps_53 : decode cX5_performSteps 53 = .ok (.goto (-51), 3) := by decide +kernel
theorem dX5_performSteps_56 : decode cX5_performSteps 56 = .ok (.iconst 1, 1) := by decide +kernel
theorem dX5_performSteps_57 : decode cX5_performSteps 57 = .ok (.ireturn, 1) := by decide +kernel
theorem dX5_isAllowed_0 : decode cX5_isAllowed 0 = .ok (.aload_n 2, 1) := by decide +kernel
theorem dX5_isAllowed_1 : decode cX5_isAllowed 1 = .ok (.invokevirtual 276, 3) := by decide +kernel
theorem dX5_isAllowed_4 : decode cX5_isAllowed 4 = .ok (.ifCond .eq 26, 3) := by decide +kernel
theorem dX5_isAllowed_7 : decode cX5_isAllowed 7 = .ok (.aload_n 1, 1) := by decide +kernel
theorem dX5_isAllowed_8 : decode cX5_isAllowed 8 = .ok (.invokevirtual 281, 3) := by decide +kernel
theorem dX5_isAllowed_11 : decode cX5_isAllowed 11 = .ok (.ifCond .eq 19, 3) := by decide +kernel
theorem dX5_isAllowed_14 : decode cX5_isAllowed 14 = .ok (.aload_n 2, 1) := by decide +kernel
theorem dX5_isAllowed_15 : decode cX5_isAllowed 15 = .ok (.aload_n 0, 1) := by decide +kernel
theorem dX5_isAllowed_16 : decode cX5_isAllowed 16 = .ok (.aload_n 1, 1) := by decide +kernel
theorem dX5_isAllowed_17 : decode cX5_isAllowed 17 = .ok (.invokevirtual 286, 3) := by decide +kernel
theorem dX5_isAllowed_20 : decode cX5_isAllowed 20 = .ok (.invokevirtual 290, 3) := by decide +kernel
theorem dX5_isAllowed_23 : decode cX5_isAllowed 23 = .ok (.ifCond .eq 7, 3) := by decide +kernel
theorem dX5_isAllowed_26 : decode cX5_isAllowed 26 = .ok (.iconst 1, 1) := by decide +kernel
theorem dX5_isAllowed_27 : decode cX5_isAllowed 27 = .ok (.goto 4, 3) := by decide +kernel
theorem dX5_isAllowed_30 : decode cX5_isAllowed 30 = .ok (.iconst 0, 1) := by decide +kernel
theorem dX5_isAllowed_31 : decode cX5_isAllowed 31 = .ok (.ireturn, 1) := by decide +kernel
end
section
theorem dX6_isIn_0 : decode cX6_isIn 0 = .ok (.iload_n 0, 1) := by decide +kernel
theorem dX6_isIn_1 : decode cX6_isIn 1 = .ok (.iload_n 1, 1) := by decide +kernel
theorem dX6_isIn_2 : decode cX6_isIn 2 = .ok (.if_icmp .lt 12, 3) := by decide +kernel
theorem dX6_isIn_5 : decode cX6_isIn 5 = .ok (.iload_n 0, 1) := by decide +kernel
theorem dX6_isIn_6 : decode cX6_isIn 6 = .ok (.iload_n 2, 1) := by decide +kernel
theorem dX6_isIn_7 : decode cX6_isIn 7 = .ok (.if_icmp .gt 7, 3) := by decide +kernel
theorem dX6_isIn_10 : decode cX6_isIn 10 = .ok (.iconst 1, 1) := by decide +kernel
theorem dX6_isIn_11 : decode cX6_isIn 11 = .ok (.goto 4, 3) := by decide +kernel
theorem dX6_isIn_14 : decode cX6_isIn 14 = .ok (.iconst 0, 1) := by decide +kernel
theorem dX6_isIn_15 : decode cX6_isIn 15 = .ok (.ireturn, 1) := by decide +kernel
theorem dX6_thrown_0 : decode cX6_thrown 0 = .ok (.aload_n 0, 1) := by decide +kernel
theorem dX6_thrown_1 : decode cX6_thrown 1 = .ok (.getfield 1, 3) := by decide +kernel
theorem dX6_thrown_4 : decode cX6_thrown 4 = .ok (.ireturn, 1) := by decide +kernel
theorem dX6_fail_0 : decode cX6_fail 0 = .ok (.aload_n 0, 1) := by decide +kernel
theorem dX6_fail_1 : decode cX6_fail 1 = .ok (.iload_n 1, 1) := by decide +kernel
theorem dX6_fail_2 : decode cX6_fail 2 = .ok (.putfield 1, 3) := by decide +kernel
theorem dX6_fail_5 : decode cX6_fail 5 = .ok (.iconst 0, 1) := by decide +kernel
theorem dX6_fail_6 : decode cX6_fail 6 = .ok (.ireturn, 1) := by decide +kernel
theorem dX6_init_0 : decode cX6_init 0 = .ok (.aload_n 0, 1) := by decide +kernel
theorem dX6_init_1 : decode cX6_init 1 = .ok (.invokespecial 7, 3) := by decide +kernel
theorem dX6_init_4 : decode cX6_init 4 = .ok (.aload_n 0, 1) := by decide +kernel
theorem dX6_init_5 : decode cX6_init 5 = .ok (.bipush 80, 2) := by decide +kernel
theorem dX6_init_7 : decode cX6_init 7 = .ok (.newarray .int, 2) := by decide +kernel
theorem dX6_init_9 : decode cX6_init 9 = .ok (.putfield 13, 3) := by decide +kernel
theorem dX6_init_12 : decode cX6_init 12 = .ok (.aload_n 0, 1) := by decide +kernel
theorem dX6_init_13 : decode cX6_init 13 = .ok (.bipush 80, 2) := by decide +kernel
theorem dX6_init_15 : decode cX6_init 15 = .ok (.newarray .int, 2) := by decide +kernel
theorem dX6_init_17 : decode cX6_init 17 = .ok (.putfield 17, 3) := by decide +kernel
theorem dX6_init_20 : decode cX6_init 20 = .ok (.aload_n 0, 1) := by decide +kernel
theorem dX6_init_21 : decode cX6_init 21 = .ok (.bipush 80, 2) := by decide +kernel
theorem dX6_init_23 : decode cX6_init 23 = .ok (.newarray .int, 2) := by decide +kernel
theorem dX6_init_25 : decode cX6_init 25 = .ok (.putfield 20, 3) := by decide +kernel
theorem dX6_init_28 : decode cX6_init 28 = .ok (.aload_n 0, 1) := by decide +kernel
theorem dX6_init_29 : decode cX6_init 29 = .ok (.bipush 80, 2) := by decide +kernel
theorem dX6_init_31 : decode cX6_init 31 = .ok (.newarray .int, 2) := by decide +kernel
theorem dX6_init_33 : decode cX6_init 33 = .ok (.putfield 23, 3) := by decide +kernel
theorem dX6_init_36 : decode cX6_init 36 = .ok (.aload_n 0, 1) := by decide +kernel
theorem dX6_init_37 : decode cX6_init 37 = .ok (.bipush 80, 2) := by decide +kernel
theorem dX6_init_39 : decode cX6_init 39 = .ok (.newarray .boolean, 2) := by decide +kernel
theorem dX6_init_41 : decode cX6_init 41 = .ok (.putfield 26, 3) := by decide +kernel
theorem dX6_init_44 : decode cX6_init 44 = .ok (.aload_n 0, 1) := by decide +kernel
theorem dX6_init_45 : decode cX6_init 45 = .ok (.bipush 80, 2) := by decide +kernel
theorem dX6_init_47 : decode cX6_init 47 = .ok (.newarray .int, 2) := by decide +kernel
theorem dX6_init_49 : decode cX6_init 49 = .ok (.putfield 30, 3) := by decide +kernel
theorem dX6_init_52 : decode cX6_init 52 = .ok (.aload_n 0, 1) := by decide +kernel
theorem dX6_init_53 : decode cX6_init 53 = .ok (.sipush 9600, 3) := by decide +kernel
theorem dX6_init_56 : decode cX6_init 56 = .ok (.newarray .int, 2) := by decide +kernel
theorem dX6_init_58 : decode cX6_init 58 = .ok (.putfield 33, 3) := by decide +kernel
theorem dX6_init_61 : decode cX6_init 61 = .ok (.aload_n 0, 1) := by decide +kernel
theorem dX6_init_62 : decode cX6_init 62 = .ok (.sipush 2560, 3) := by decide +kernel
theorem dX6_init_65 : decode cX6_init 65 = .ok (.newarray .int, 2) := by decide +kernel
theorem dX6_init_67 : decode cX6_init 67 = .ok (.putfield 36, 3) := by decide +kernel
theorem dX6_init_70 : decode cX6_init 70 = .ok (.aload_n 0, 1) := by decide +kernel
theorem dX6_init_71 : decode cX6_init 71 = .ok (.sipush 2560, 3) := by decide +kernel
theorem dX6_init_74 : decode cX6_init 74 = .ok (.newarray .int, 2) := by decide +kernel
theorem dX6_init_76 : decode cX6_init 76 = .ok (.putfield 39, 3) := by decide +kernel
theorem dX6_init_79 : decode cX6_init 79 = .ok (.aload_n 0, 1) := by decide +kernel
theorem dX6_init_80 : decode cX6_init 80 = .ok (.sipush 7680, 3) := by decide +kernel
theorem dX6_init_83 : decode cX6_init 83 = .ok (.newarray .int, 2) := by decide +kernel
theorem dX6_init_85 : decode cX6_init 85 = .ok (.putfield 42, 3) := by decide +kernel
theorem dX6_init_88 : decode cX6_init 88 = .ok (.aload_n 0, 1) := by decide +kernel
theorem dX6_init_89 : decode cX6_init 89 = .ok (.bipush 80, 2) := by decide +kernel
theorem dX6_init_91 : decode cX6_init 91 = .ok (.newarray .int, 2) := by decide +kernel
theorem dX6_init_93 : decode cX6_init 93 = .ok (.putfield 45, 3) := by decide +kernel
theorem dX6_init_96 : decode cX6_init 96 = .ok (.aload_n 0, 1) := by decide +kernel
theorem dX6_init_97 : decode cX6_init 97 = .ok (.iconst (-1), 1) := by decide +kernel
theorem dX6_init_98 : decode cX6_init 98 = .ok (.putfield 48, 3) := by decide +kernel
theorem dX6_init_101 : decode cX6_init 101 = .ok (.aload_n 0, 1) := by decide +kernel
theorem dX6_init_102 : decode cX6_init 102 = .ok (.sipush 1952, 3) := by decide +kernel
theorem dX6_init_105 : decode cX6_init 105 = .ok (.newarray .int, 2) := by decide +kernel
theorem dX6_init_107 : decode cX6_init 107 = .ok (.putfield 51, 3) := by decide +kernel
theorem dX6_init_110 : decode cX6_init 110 = .ok (.aload_n 0, 1) := by decide +kernel
theorem dX6_init_111 : decode cX6_init 111 = .ok (.bipush 61, 2) := by decide +kernel
theorem dX6_init_113 : decode cX6_init 113 = .ok (.newarray .int, 2) := by decide +kernel
theorem dX6_init_115 : decode cX6_init 115 = .ok (.putfield 54, 3) := by decide +kernel
theorem dX6_init_118 : decode cX6_init 118 = .ok (.aload_n 0, 1) := by decide +kernel
theorem dX6_init_119 : decode cX6_init 119 = .ok (.iconst 3, 1) := by decide +kernel
theorem dX6_init_120 : decode cX6_init 120 = .ok (.putfield 57, 3) := by decide +kernel
theorem dX6_init_123 : decode cX6_init 123 = .ok (.aload_n 0, 1) := by decide +kernel
theorem dX6_init_124 : decode cX6_init 124 = .ok (.bipush 12, 2) := by decide +kernel
theorem dX6_init_126 : decode cX6_init 126 = .ok (.newarray .int, 2) := by decide +kernel
theorem dX6_init_128 : decode cX6_init 128 = .ok (.putfield 60, 3) := by decide +kernel
theorem dX6_init_131 : decode cX6_init 131 = .ok (.aload_n 0, 1) := by decide +kernel
theorem dX6_init_132 : decode cX6_init 132 = .ok (.bipush 61, 2) := by decide +kernel
theorem dX6_init_134 : decode cX6_init 134 = .ok (.newarray .int, 2) := by decide +kernel
theorem dX6_init_136 : decode cX6_init 136 = .ok (.putfield 63, 3) := by decide +kernel
theorem dX6_init_139 : decode cX6_init 139 = .ok (.aload_n 0, 1) := by decide +kernel
theorem dX6_init_140 : decode cX6_init 140 = .ok (.bipush 32, 2) := by decide +kernel
theorem dX6_init_142 : decode cX6_init 142 = .ok (.newarray .int, 2) := by decide +kernel
theorem dX6_init_144 : decode cX6_init 144 = .ok (.putfield 66, 3) := by decide +kernel
theorem dX6_init_147 : decode cX6_init 147 = .ok (.aload_n 0, 1) := by decide +kernel
theorem dX6_init_148 : decode cX6_init 148 = .ok (.bipush 60, 2) := by decide +kernel
theorem dX6_init_150 : decode cX6_init 150 = .ok (.newarray .int, 2) := by decide +kernel
theorem dX6_init_152 : decode cX6_init 152 = .ok (.putfield 69, 3) := by decide +kernel
theorem dX6_init_155 : decode cX6_init 155 = .ok (.aload_n 0, 1) := by decide +kernel
theorem dX6_init_156 : decode cX6_init 156 = .ok (.iconst (-1), 1) := by decide +kernel
theorem dX6_init_157 : decode cX6_init 157 = .ok (.putfield 72, 3) := by decide +kernel
theorem dX6_init_160 : decode cX6_init 160 = .ok (.aload_n 0, 1) := by decide +kernel
theorem dX6_init_161 : decode cX6_init 161 = .ok (.bipush 120, 2) := by decide +kernel
theorem dX6_init_163 : decode cX6_init 163 = .ok (.newarray .int, 2) := by decide +kernel
theorem dX6_init_165 : decode cX6_init 165 = .ok (.putfield 75, 3) := by decide +kernel
theorem dX6_init_168 : decode cX6_init 168 = .ok (.iconst 0, 1) := by decide +kernel
theorem dX6_init_169 : decode cX6_init 169 = .ok (.istore_n 1, 1) := by decide +kernel
theorem dX6_init_170 : decode cX6_init 170 = .ok (.iload_n 1, 1) := by decide +kernel
theorem dX6_init_171 : decode cX6_init 171 = .ok (.bipush 32, 2) := by decide +kernel
theorem dX6_init_173 : decode cX6_init 173 = .ok (.if_icmp .ge 18, 3) := by decide +kernel
theorem dX6_init_176 : decode cX6_init 176 = .ok (.aload_n 0, 1) := by decide +kernel
theorem dX6_init_177 : decode cX6_init 177 = .ok (.getfield 51, 3) := by decide +kernel
theorem dX6_init_180 : decode cX6_init 180 = .ok (.iload_n 1, 1) := by decide +kernel
theorem dX6_init_181 : decode cX6_init 181 = .ok (.sipush (-1000), 3) := by decide +kernel
theorem dX6_init_184 : decode cX6_init 184 = .ok (.iastore, 1) := by decide +kernel
theorem dX6_init_185 : decode cX6_init 185 = .ok (.iinc 1 1, 3) := by decide +kernel
theorem dX6_init_188 : decode cX6_init 188 = .ok (.goto (-18), 3) := by decide +kernel
theorem dX6_init_191 : decode cX6_init 191 = .ok (.return_, 1) := by decide +kernel
theorem dX6_stored_0 : decode cX6_stored 0 = .ok (.aload_n 0, 1) := by decide +kernel
theorem dX6_stored_1 : decode cX6_stored 1 = .ok (.getfield 51, 3) := by decide +kernel
theorem dX6_stored_4 : decode cX6_stored 4 = .ok (.bipush 32, 2) := by decide +kernel
theorem dX6_stored_6 : decode cX6_stored 6 = .ok (.iload_n 1, 1) := by decide +kernel
theorem dX6_stored_7 : decode cX6_stored 7 = .ok (.imul, 1) := by decide +kernel
theorem dX6_stored_8 : decode cX6_stored 8 = .ok (.iload_n 2, 1) := by decide +kernel
theorem dX6_stored_9 : decode cX6_stored 9 = .ok (.iadd, 1) := by decide +kernel
theorem dX6_stored_10 : decode cX6_stored 10 = .ok (.iaload, 1) := by decide +kernel
theorem dX6_stored_11 : decode cX6_stored 11 = .ok (.ireturn, 1) := by decide +kernel
theorem dX6_isTransaction_0 : decode cX6_isTransaction 0 = .ok (.iload_n 1, 1) := by decide +kernel
theorem dX6_isTransaction_1 : decode cX6_isTransaction 1 = .ok (.iconst 0, 1) := by decide +kernel
theorem dX6_isTransaction_2 : decode cX6_isTransaction 2 = .ok (.aload_n 0, 1) := by decide +kernel
theorem dX6_isTransaction_3 : decode cX6_isTransaction 3 = .ok (.getfield 78, 3) := by decide +kernel
theorem dX6_isTransaction_6 : decode cX6_isTransaction 6 = .ok (.iconst 1, 1) := by decide +kernel
theorem dX6_isTransaction_7 : decode cX6_isTransaction 7 = .ok (.isub, 1) := by decide +kernel
theorem dX6_isTransaction_8 : decode cX6_isTransaction 8 = .ok (.invokestatic 81, 3) := by decide +kernel
theorem dX6_isTransaction_11 : decode cX6_isTransaction 11 = .ok (.ireturn, 1) := by decide +kernel
theorem dX6_isKey_0 : decode cX6_isKey 0 = .ok (.iload_n 0, 1) := by decide +kernel
theorem dX6_isKey_1 : decode cX6_isKey 1 = .ok (.iconst 0, 1) := by decide +kernel
theorem dX6_isKey_2 : decode cX6_isKey 2 = .ok (.bipush 31, 2) := by decide +kernel
theorem dX6_isKey_4 : decode cX6_isKey 4 = .ok (.invokestatic 81, 3) := by decide +kernel
theorem dX6_isKey_7 : decode cX6_isKey 7 = .ok (.ireturn, 1) := by decide +kernel
theorem dX6_isRange_0 : decode cX6_isRange 0 = .ok (.iload_n 0, 1) := by decide +kernel
theorem dX6_isRange_1 : decode cX6_isRange 1 = .ok (.invokestatic 85, 3) := by decide +kernel
theorem dX6_isRange_4 : decode cX6_isRange 4 = .ok (.ifCond .eq 19, 3) := by decide +kernel
theorem dX6_isRange_7 : decode cX6_isRange 7 = .ok (.iload_n 1, 1) := by decide +kernel
theorem dX6_isRange_8 : decode cX6_isRange 8 = .ok (.invokestatic 85, 3) := by decide +kernel
theorem dX6_isRange_11 : decode cX6_isRange 11 = .ok (.ifCond .eq 12, 3) := by decide +kernel
theorem dX6_isRange_14 : decode cX6_isRange 14 = .ok (.iload_n 0, 1) := by decide +kernel
theorem dX6_isRange_15 : decode cX6_isRange 15 = .ok (.iload_n 1, 1) := by decide +kernel
theorem dX6_isRange_16 : decode cX6_isRange 16 = .ok (.if_icmp .gt 7, 3) := by decide +kernel
theorem dX6_isRange_19 : decode cX6_isRange 19 = .ok (.iconst 1, 1) := by decide +kernel
theorem dX6_isRange_20 : decode cX6_isRange 20 = .ok (.goto 4, 3) := by decide +kernel
theorem dX6_isRange_23 : decode cX6_isRange 23 = .ok (.iconst 0, 1) := by decide +kernel
theorem dX6_isRange_24 : decode cX6_isRange 24 = .ok (.ireturn, 1) := by decide +kernel
theorem dX6_activeNow_0 : decode cX6_activeNow 0 = .ok (.iconst 0, 1) := by decide +kernel
theorem dX6_activeNow_1 : decode cX6_activeNow 1 = .ok (.istore_n 1, 1) := by decide +kernel
theorem dX6_activeNow_2 : decode cX6_activeNow 2 = .ok (.iconst 0, 1) := by decide +kernel
theorem dX6_activeNow_3 : decode cX6_activeNow 3 = .ok (.istore_n 2, 1) := by decide +kernel
theorem dX6_activeNow_4 : decode cX6_activeNow 4 = .ok (.iload_n 2, 1) := by decide +kernel
theorem dX6_activeNow_5 : decode cX6_activeNow 5 = .ok (.aload_n 0, 1) := by decide +kernel
theorem dX6_activeNow_6 : decode cX6_activeNow 6 = .ok (.getfield 78, 3) := by decide +kernel
theorem dX6_activeNow_9 : decode cX6_activeNow 9 = .ok (.if_icmp .ge 26, 3) := by decide +kernel
theorem dX6_activeNow_12 : decode cX6_activeNow 12 = .ok (.iload_n 1, 1) := by decide +kernel
theorem dX6_activeNow_13 : decode cX6_activeNow 13 = .ok (.aload_n 0, 1) := by decide +kernel
theorem dX6_activeNow_14 : decode cX6_activeNow 14 = .ok (.getfield 13, 3) := by decide +kernel
theorem dX6_activeNow_17 : decode cX6_activeNow 17 = .ok (.iload_n 2, 1) := by decide +kernel
theorem dX6_activeNow_18 : decode cX6_activeNow 18 = .ok (.iaload, 1) := by decide +kernel
theorem dX6_activeNow_19 : decode cX6_activeNow 19 = .ok (.ifCond .ne 7, 3) := by decide +kernel
theorem dX6_activeNow_22 : decode cX6_activeNow 22 = .ok (.iconst 1, 1) := by decide +kernel
theorem dX6_activeNow_23 : decode cX6_activeNow 23 = .ok (.goto 4, 3) := by decide +kernel
theorem dX6_activeNow_26 : decode cX6_activeNow 26 = .ok (.iconst 0, 1) := by decide +kernel
theorem dX6_activeNow_27 : decode cX6_activeNow 27 = .ok (.iadd, 1) := by decide +kernel
theorem dX6_activeNow_28 : decode cX6_activeNow 28 = .ok (.istore_n 1, 1) := by decide +kernel
theorem dX6_activeNow_29 : decode cX6_activeNow 29 = .ok (.iinc 2 1, 3) := by decide +kernel
theorem dX6_activeNow_32 : decode cX6_activeNow 32 = .ok (.goto (-28), 3) := by decide +kernel
theorem dX6_activeNow_35 : decode cX6_activeNow 35 = .ok (.iload_n 1, 1) := by decide +kernel
theorem dX6_activeNow_36 : decode cX6_activeNow 36 = .ok (.ireturn, 1) := by decide +kernel
theorem dX6_configure_0 : decode cX6_configure 0 = .ok (.aload_n 0, 1) := by decide +kernel
theorem dX6_configure_1 : decode cX6_configure 1 = .ok (.iload_n 1, 1) := by decide +kernel
theorem dX6_configure_2 : decode cX6_configure 2 = .ok (.iconst 0, 1) := by decide +kernel
theorem dX6_configure_3 : decode cX6_configure 3 = .ok (.iconst 1, 1) := by decide +kernel
theorem dX6_configure_4 : decode cX6_configure 4 = .ok (.invokestatic 81, 3) := by decide +kernel
theorem dX6_configure_7 : decode cX6_configure 7 = .ok (.ifCond .eq 21, 3) := by decide +kernel
theorem dX6_configure_10 : decode cX6_configure 10 = .ok (.iload_n 2, 1) := by decide +kernel
theorem dX6_configure_11 : decode cX6_configure 11 = .ok (.iconst 0, 1) := by decide +kernel
theorem dX6_configure_12 : decode cX6_configure 12 = .ok (.iconst 2, 1) := by decide +kernel
theorem dX6_configure_13 : decode cX6_configure 13 = .ok (.invokestatic 81, 3) := by decide +kernel
theorem dX6_configure_16 : decode cX6_configure 16 = .ok (.ifCond .eq 12, 3) := by decide +kernel
theorem dX6_configure_19 : decode cX6_configure 19 = .ok (.iload_n 3, 1) := by decide +kernel
theorem dX6_configure_20 : decode cX6_configure 20 = .ok (.iconst 1, 1) := by decide +kernel
theorem dX6_configure_21 : decode cX6_configure 21 = .ok (.iconst 5, 1) := by decide +kernel
theorem dX6_configure_22 : decode cX6_configure 22 = .ok (.invokestatic 81, 3) := by decide +kernel
theorem dX6_configure_25 : decode cX6_configure 25 = .ok (.ifCond .ne 7, 3) := by decide +kernel
theorem dX6_configure_28 : decode cX6_configure 28 = .ok (.iconst 1, 1) := by decide +kernel
theorem dX6_configure_29 : decode cX6_configure 29 = .ok (.goto 15, 3) := by decide +kernel
theorem dX6_configure_32 : decode cX6_configure 32 = .ok (.aload_n 0, 1) := by decide +kernel
theorem dX6_configure_33 : decode cX6_configure 33 = .ok (.invokevirtual 89, 3) := by decide +kernel
theorem dX6_configure_36 : decode cX6_configure 36 = .ok (.ifCond .le 7, 3) := by decide +kernel
theorem dX6_configure_39 : decode cX6_configure 39 = .ok (.iconst 2, 1) := by decide +kernel
theorem dX6_configure_40 : decode cX6_configure 40 = .ok (.goto 4, 3) := by decide +kernel
theorem dX6_configure_43 : decode cX6_configure 43 = .ok (.iconst 0, 1) := by decide +kernel
theorem dX6_configure_44 : decode cX6_configure 44 = .ok (.putfield 1, 3) := by decide +kernel
theorem dX6_configure_47 : decode cX6_configure 47 = .ok (.aload_n 0, 1) := by decide +kernel
theorem dX6_configure_48 : decode cX6_configure 48 = .ok (.getfield 1, 3) := by decide +kernel
theorem dX6_configure_51 : decode cX6_configure 51 = .ok (.ifCond .ne 18, 3) := by decide +kernel
theorem dX6_configure_54 : decode cX6_configure 54 = .ok (.aload_n 0, 1) := by decide +kernel
theorem dX6_configure_55 : decode cX6_configure 55 = .ok (.iload_n 1, 1) := by decide +kernel
theorem dX6_configure_56 : decode cX6_configure 56 = .ok (.putfield 93, 3) := by decide +kernel
theorem dX6_configure_59 : decode cX6_configure 59 = .ok (.aload_n 0, 1) := by decide +kernel
theorem dX6_configure_60 : decode cX6_configure 60 = .ok (.iload_n 2, 1) := by decide +kernel
theorem dX6_configure_61 : decode cX6_configure 61 = .ok (.putfield 96, 3) := by decide +kernel
theorem dX6_configure_64 : decode cX6_configure 64 = .ok (.aload_n 0, 1) := by decide +kernel
theorem dX6_configure_65 : decode cX6_configure 65 = .ok (.iload_n 3, 1) := by decide +kernel
theorem dX6_configure_66 : decode cX6_configure 66 = .ok (.putfield 57, 3) := by decide +kernel
theorem dX6_configure_69 : decode cX6_configure 69 = .ok (.return_, 1) := by decide +kernel
theorem dX6_hasRoom_0 : decode cX6_hasRoom 0 = .ok (.aload_n 0, 1) := by decide +kernel
theorem dX6_hasRoom_1 : decode cX6_hasRoom 1 = .ok (.invokevirtual 89, 3) := by decide +kernel
theorem dX6_hasRoom_4 : decode cX6_hasRoom 4 = .ok (.bipush 6, 2) := by decide +kernel
theorem dX6_hasRoom_6 : decode cX6_hasRoom 6 = .ok (.if_icmp .ge 16, 3) := by decide +kernel
theorem dX6_hasRoom_9 : decode cX6_hasRoom 9 = .ok (.aload_n 0, 1) := by decide +kernel
theorem dX6_hasRoom_10 : decode cX6_hasRoom 10 = .ok (.getfield 78, 3) := by decide +kernel
theorem dX6_hasRoom_13 : decode cX6_hasRoom 13 = .ok (.bipush 80, 2) := by decide +kernel
theorem dX6_hasRoom_15 : decode cX6_hasRoom 15 = .ok (.if_icmp .ge 7, 3) := by decide +kernel
theorem dX6_hasRoom_18 : decode cX6_hasRoom 18 = .ok (.iconst 1, 1) := by decide +kernel
theorem dX6_hasRoom_19 : decode cX6_hasRoom 19 = .ok (.goto 4, 3) := by decide +kernel
theorem dX6_hasRoom_22 : decode cX6_hasRoom 22 = .ok (.iconst 0, 1) := by decide +kernel
theorem dX6_hasRoom_23 : decode cX6_hasRoom 23 = .ok (.ireturn, 1) := by decide +kernel
theorem dX6_beginWith_0 : decode cX6_beginWith 0 = .ok (.aload_n 0, 1) := by decide +kernel
theorem dX6_beginWith_1 : decode cX6_beginWith 1 = .ok (.getfield 78, 3) := by decide +kernel
theorem dX6_beginWith_4 : decode cX6_beginWith 4 = .ok (.istore_n 2, 1) := by decide +kernel
theorem dX6_beginWith_5 : decode cX6_beginWith 5 = .ok (.aload_n 0, 1) := by decide +kernel
theorem dX6_beginWith_6 : decode cX6_beginWith 6 = .ok (.getfield 13, 3) := by decide +kernel
theorem dX6_beginWith_9 : decode cX6_beginWith 9 = .ok (.iload_n 2, 1) := by decide +kernel
theorem dX6_beginWith_10 : decode cX6_beginWith 10 = .ok (.iconst 0, 1) := by decide +kernel
theorem dX6_beginWith_11 : decode cX6_beginWith 11 = .ok (.iastore, 1) := by decide +kernel
theorem dX6_beginWith_12 : decode cX6_beginWith 12 = .ok (.aload_n 0, 1) := by decide +kernel
theorem dX6_beginWith_13 : decode cX6_beginWith 13 = .ok (.getfield 17, 3) := by decide +kernel
theorem dX6_beginWith_16 : decode cX6_beginWith 16 = .ok (.iload_n 2, 1) := by decide +kernel
theorem dX6_beginWith_17 : decode cX6_beginWith 17 = .ok (.iload_n 1, 1) := by decide +kernel
theorem dX6_beginWith_18 : decode cX6_beginWith 18 = .ok (.iastore, 1) := by decide +kernel
theorem dX6_beginWith_19 : decode cX6_beginWith 19 = .ok (.aload_n 0, 1) := by decide +kernel
theorem dX6_beginWith_20 : decode cX6_beginWith 20 = .ok (.getfield 30, 3) := by decide +kernel
theorem dX6_beginWith_23 : decode cX6_beginWith 23 = .ok (.iload_n 2, 1) := by decide +kernel
theorem dX6_beginWith_24 : decode cX6_beginWith 24 = .ok (.iconst 0, 1) := by decide +kernel
theorem dX6_beginWith_25 : decode cX6_beginWith 25 = .ok (.iastore, 1) := by decide +kernel
theorem dX6_beginWith_26 : decode cX6_beginWith 26 = .ok (.aload_n 0, 1) := by decide +kernel
theorem dX6_beginWith_27 : decode cX6_beginWith 27 = .ok (.getfield 45, 3) := by decide +kernel
theorem dX6_beginWith_30 : decode cX6_beginWith 30 = .ok (.iload_n 2, 1) := by decide +kernel
theorem dX6_beginWith_31 : decode cX6_beginWith 31 = .ok (.iconst 0, 1) := by decide +kernel
theorem dX6_beginWith_32 : decode cX6_beginWith 32 = .ok (.iastore, 1) := by decide +kernel
theorem dX6_beginWith_33 : decode cX6_beginWith 33 = .ok (.iconst 0, 1) := by decide +kernel
theorem dX6_beginWith_34 : decode cX6_beginWith 34 = .ok (.istore_n 3, 1) := by decide +kernel
theorem dX6_beginWith_35 : decode cX6_beginWith 35 = .ok (.iload_n 3, 1) := by decide +kernel
theorem dX6_beginWith_36 : decode cX6_beginWith 36 = .ok (.bipush 32, 2) := by decide +kernel
theorem dX6_beginWith_38 : decode cX6_beginWith 38 = .ok (.if_icmp .ge 35, 3) := by decide +kernel
theorem dX6_beginWith_41 : decode cX6_beginWith 41 = .ok (.aload_n 0, 1) := by decide +kernel
theorem dX6_beginWith_42 : decode cX6_beginWith 42 = .ok (.getfield 36, 3) := by decide +kernel
theorem dX6_beginWith_45 : decode cX6_beginWith 45 = .ok (.bipush 32, 2) := by decide +kernel
theorem dX6_beginWith_47 : decode cX6_beginWith 47 = .ok (.iload_n 2, 1) := by decide +kernel
theorem dX6_beginWith_48 : decode cX6_beginWith 48 = .ok (.imul, 1) := by decide +kernel
theorem dX6_beginWith_49 : decode cX6_beginWith 49 = .ok (.iload_n 3, 1) := by decide +kernel
theorem dX6_beginWith_50 : decode cX6_beginWith 50 = .ok (.iadd, 1) := by decide +kernel
theorem dX6_beginWith_51 : decode cX6_beginWith 51 = .ok (.iconst (-1), 1) := by decide +kernel
theorem dX6_beginWith_52 : decode cX6_beginWith 52 = .ok (.iastore, 1) := by decide +kernel
theorem dX6_beginWith_53 : decode cX6_beginWith 53 = .ok (.aload_n 0, 1) := by decide +kernel
theorem dX6_beginWith_54 : decode cX6_beginWith 54 = .ok (.getfield 39, 3) := by decide +kernel
theorem dX6_beginWith_57 : decode cX6_beginWith 57 = .ok (.bipush 32, 2) := by decide +kernel
theorem dX6_beginWith_59 : decode cX6_beginWith 59 = .ok (.iload_n 2, 1) := by decide +kernel
theorem dX6_beginWith_60 : decode cX6_beginWith 60 = .ok (.imul, 1) := by decide +kernel
theorem dX6_beginWith_61 : decode cX6_beginWith 61 = .ok (.iload_n 3, 1) := by decide +kernel
theorem dX6_beginWith_62 : decode cX6_beginWith 62 = .ok (.iadd, 1) := by decide +kernel
theorem dX6_beginWith_63 : decode cX6_beginWith 63 = .ok (.sipush (-5000), 3) := by decide +kernel
theorem dX6_beginWith_66 : decode cX6_beginWith 66 = .ok (.iastore, 1) := by decide +kernel
theorem dX6_beginWith_67 : decode cX6_beginWith 67 = .ok (.iinc 3 1, 3) := by decide +kernel
theorem dX6_beginWith_70 : decode cX6_beginWith 70 = .ok (.goto (-35), 3) := by decide +kernel
theorem dX6_beginWith_73 : decode cX6_beginWith 73 = .ok (.iload_n 1, 1) := by decide +kernel
theorem dX6_beginWith_74 : decode cX6_beginWith 74 = .ok (.aload_n 0, 1) := by decide +kernel
theorem dX6_beginWith_75 : decode cX6_beginWith 75 = .ok (.getfield 57, 3) := by decide +kernel
theorem dX6_beginWith_78 : decode cX6_beginWith 78 = .ok (.if_icmp .le 16, 3) := by decide +kernel
theorem dX6_beginWith_81 : decode cX6_beginWith 81 = .ok (.aload_n 0, 1) := by decide +kernel
theorem dX6_beginWith_82 : decode cX6_beginWith 82 = .ok (.getfield 48, 3) := by decide +kernel
theorem dX6_beginWith_85 : decode cX6_beginWith 85 = .ok (.iconst (-1), 1) := by decide +kernel
theorem dX6_beginWith_86 : decode cX6_beginWith 86 = .ok (.if_icmp .ne 8, 3) := by decide +kernel
theorem dX6_beginWith_89 : decode cX6_beginWith 89 = .ok (.aload_n 0, 1) := by decide +kernel
theorem dX6_beginWith_90 : decode cX6_beginWith 90 = .ok (.iload_n 2, 1) := by decide +kernel
theorem dX6_beginWith_91 : decode cX6_beginWith 91 = .ok (.putfield 48, 3) := by decide +kernel
theorem dX6_beginWith_94 : decode cX6_beginWith 94 = .ok (.aload_n 0, 1) := by decide +kernel
theorem dX6_beginWith_95 : decode cX6_beginWith 95 = .ok (.dup, 1) := by decide +kernel
theorem dX6_beginWith_96 : decode cX6_beginWith 96 = .ok (.getfield 78, 3) := by decide +kernel
theorem dX6_beginWith_99 : decode cX6_beginWith 99 = .ok (.iconst 1, 1) := by decide +kernel
theorem dX6_beginWith_100 : decode cX6_beginWith 100 = .ok (.iadd, 1) := by decide +kernel
theorem dX6_beginWith_101 : decode cX6_beginWith 101 = .ok (.putfield 78, 3) := by decide +kernel
theorem dX6_beginWith_104 : decode cX6_beginWith 104 = .ok (.iload_n 2, 1) := by decide +kernel
theorem dX6_beginWith_105 : decode cX6_beginWith 105 = .ok (.ireturn, 1) := by decide +kernel
theorem dX6_begin_0 : decode cX6_begin 0 = .ok (.aload_n 0, 1) := by decide +kernel
theorem dX6_begin_1 : decode cX6_begin 1 = .ok (.iconst 0, 1) := by decide +kernel
theorem dX6_begin_2 : decode cX6_begin 2 = .ok (.putfield 1, 3) := by decide +kernel
theorem dX6_begin_5 : decode cX6_begin 5 = .ok (.aload_n 0, 1) := by decide +kernel
theorem dX6_begin_6 : decode cX6_begin 6 = .ok (.invokevirtual 99, 3) := by decide +kernel
theorem dX6_begin_9 : decode cX6_begin 9 = .ok (.ifCond .eq 11, 3) := by decide +kernel
theorem dX6_begin_12 : decode cX6_begin 12 = .ok (.aload_n 0, 1) := by decide +kernel
theorem dX6_begin_13 : decode cX6_begin 13 = .ok (.iconst 1, 1) := by decide +kernel
theorem dX6_begin_14 : decode cX6_begin 14 = .ok (.invokevirtual 103, 3) := by decide +kernel
theorem dX6_begin_17 : decode cX6_begin 17 = .ok (.goto 8, 3) := by decide +kernel
theorem dX6_begin_20 : decode cX6_begin 20 = .ok (.aload_n 0, 1) := by decide +kernel
theorem dX6_begin_21 : decode cX6_begin 21 = .ok (.iconst 1, 1) := by decide +kernel
theorem dX6_begin_22 : decode cX6_begin 22 = .ok (.invokevirtual 107, 3) := by decide +kernel
theorem dX6_begin_25 : decode cX6_begin 25 = .ok (.ireturn, 1) := by decide +kernel
theorem dX6_retry_0 : decode cX6_retry 0 = .ok (.aload_n 0, 1) := by decide +kernel
theorem dX6_retry_1 : decode cX6_retry 1 = .ok (.iconst 0, 1) := by decide +kernel
theorem dX6_retry_2 : decode cX6_retry 2 = .ok (.putfield 1, 3) := by decide +kernel
theorem dX6_retry_5 : decode cX6_retry 5 = .ok (.aload_n 0, 1) := by decide +kernel
theorem dX6_retry_6 : decode cX6_retry 6 = .ok (.iload_n 1, 1) := by decide +kernel
theorem dX6_retry_7 : decode cX6_retry 7 = .ok (.invokevirtual 110, 3) := by decide +kernel
theorem dX6_retry_10 : decode cX6_retry 10 = .ok (.ifCond .ne 9, 3) := by decide +kernel
theorem dX6_retry_13 : decode cX6_retry 13 = .ok (.aload_n 0, 1) := by decide +kernel
theorem dX6_retry_14 : decode cX6_retry 14 = .ok (.iconst 1, 1) := by decide +kernel
theorem dX6_retry_15 : decode cX6_retry 15 = .ok (.invokevirtual 107, 3) := by decide +kernel
theorem dX6_retry_18 : decode cX6_retry 18 = .ok (.ireturn, 1) := by decide +kernel
theorem dX6_retry_19 : decode cX6_retry 19 = .ok (.aload_n 0, 1) := by decide +kernel
theorem dX6_retry_20 : decode cX6_retry 20 = .ok (.getfield 13, 3) := by decide +kernel
theorem dX6_retry_23 : decode cX6_retry 23 = .ok (.iload_n 1, 1) := by decide +kernel
theorem dX6_retry_24 : decode cX6_retry 24 = .ok (.iaload, 1) := by decide +kernel
theorem dX6_retry_25 : decode cX6_retry 25 = .ok (.iconst 2, 1) := by decide +kernel
theorem dX6_retry_26 : decode cX6_retry 26 = .ok (.if_icmp .ne 19, 3) := by decide +kernel
theorem dX6_retry_29 : decode cX6_retry 29 = .ok (.aload_n 0, 1) := by decide +kernel
theorem dX6_retry_30 : decode cX6_retry 30 = .ok (.getfield 26, 3) := by decide +kernel
theorem dX6_retry_33 : decode cX6_retry 33 = .ok (.iload_n 1, 1) := by decide +kernel
theorem dX6_retry_34 : decode cX6_retry 34 = .ok (.baload, 1) := by decide +kernel
theorem dX6_retry_35 : decode cX6_retry 35 = .ok (.ifCond .ne 10, 3) := by decide +kernel
theorem dX6_retry_38 : decode cX6_retry 38 = .ok (.aload_n 0, 1) := by decide +kernel
theorem dX6_retry_39 : decode cX6_retry 39 = .ok (.invokevirtual 99, 3) := by decide +kernel
theorem dX6_retry_42 : decode cX6_retry 42 = .ok (.ifCond .ne 9, 3) := by decide +kernel
theorem dX6_retry_45 : decode cX6_retry 45 = .ok (.aload_n 0, 1) := by decide +kernel
theorem dX6_retry_46 : decode cX6_retry 46 = .ok (.iconst 2, 1) := by decide +kernel
theorem dX6_retry_47 : decode cX6_retry 47 = .ok (.invokevirtual 107, 3) := by decide +kernel
theorem dX6_retry_50 : decode cX6_retry 50 = .ok (.ireturn, 1) := by decide +kernel
theorem dX6_retry_51 : decode cX6_retry 51 = .ok (.aload_n 0, 1) := by decide +kernel
theorem dX6_retry_52 : decode cX6_retry 52 = .ok (.getfield 26, 3) := by decide +kernel
theorem dX6_retry_55 : decode cX6_retry 55 = .ok (.iload_n 1, 1) := by decide +kernel
theorem dX6_retry_56 : decode cX6_retry 56 = .ok (.iconst 1, 1) := by decide +kernel
theorem dX6_retry_57 : decode cX6_retry 57 = .ok (.bastore, 1) := by decide +kernel
theorem dX6_retry_58 : decode cX6_retry 58 = .ok (.aload_n 0, 1) := by decide +kernel
theorem dX6_retry_59 : decode cX6_retry 59 = .ok (.aload_n 0, 1) := by decide +kernel
theorem dX6_retry_60 : decode cX6_retry 60 = .ok (.getfield 17, 3) := by decide +kernel
theorem dX6_retry_63 : decode cX6_retry 63 = .ok (.iload_n 1, 1) := by decide +kernel
theorem dX6_retry_64 : decode cX6_retry 64 = .ok (.iaload, 1) := by decide +kernel
theorem dX6_retry_65 : decode cX6_retry 65 = .ok (.iconst 1, 1) := by decide +kernel
theorem dX6_retry_66 : decode cX6_retry 66 = .ok (.iadd, 1) := by decide +kernel
theorem dX6_retry_67 : decode cX6_retry 67 = .ok (.invokevirtual 103, 3) := by decide +kernel
theorem dX6_retry_70 : decode cX6_retry 70 = .ok (.ireturn, 1) := by decide +kernel
theorem dX6_viewed_0 : decode cX6_viewed 0 = .ok (.aload_n 0, 1) := by decide +kernel
theorem dX6_viewed_1 : decode cX6_viewed 1 = .ok (.getfield 39, 3) := by decide +kernel
theorem dX6_viewed_4 : decode cX6_viewed 4 = .ok (.bipush 32, 2) := by decide +kernel
theorem dX6_viewed_6 : decode cX6_viewed 6 = .ok (.iload_n 1, 1) := by decide +kernel
theorem dX6_viewed_7 : decode cX6_viewed 7 = .ok (.imul, 1) := by decide +kernel
theorem dX6_viewed_8 : decode cX6_viewed 8 = .ok (.iload_n 2, 1) := by decide +kernel
theorem dX6_viewed_9 : decode cX6_viewed 9 = .ok (.iadd, 1) := by decide +kernel
theorem dX6_viewed_10 : decode cX6_viewed 10 = .ok (.iaload, 1) := by decide +kernel
theorem dX6_viewed_11 : decode cX6_viewed 11 = .ok (.istore_n 3, 1) := by decide +kernel
theorem dX6_viewed_12 : decode cX6_viewed 12 = .ok (.iload_n 3, 1) := by decide +kernel
theorem dX6_viewed_13 : decode cX6_viewed 13 = .ok (.sipush (-5000), 3) := by decide +kernel
theorem dX6_viewed_16 : decode cX6_viewed 16 = .ok (.if_icmp .ne 15, 3) := by decide +kernel
theorem dX6_viewed_19 : decode cX6_viewed 19 = .ok (.aload_n 0, 1) := by decide +kernel
theorem dX6_viewed_20 : decode cX6_viewed 20 = .ok (.aload_n 0, 1) := by decide +kernel
theorem dX6_viewed_21 : decode cX6_viewed 21 = .ok (.getfield 113, 3) := by decide +kernel
theorem dX6_viewed_24 : decode cX6_viewed 24 = .ok (.iload_n 2, 1) := by decide +kernel
theorem dX6_viewed_25 : decode cX6_viewed 25 = .ok (.invokevirtual 116, 3) := by decide +kernel
theorem dX6_viewed_28 : decode cX6_viewed 28 = .ok (.goto 4, 3) := by decide +kernel
theorem dX6_viewed_31 : decode cX6_viewed 31 = .ok (.iload_n 3, 1) := by decide +kernel
theorem dX6_viewed_32 : decode cX6_viewed 32 = .ok (.ireturn, 1) := by decide +kernel
theorem dX6_recordKey_0 : decode cX6_recordKey 0 = .ok (.aload_n 0, 1) := by decide +kernel
theorem dX6_recordKey_1 : decode cX6_recordKey 1 = .ok (.getfield 39, 3) := by decide +kernel
theorem dX6_recordKey_4 : decode cX6_recordKey 4 = .ok (.bipush 32, 2) := by decide +kernel
theorem dX6_recordKey_6 : decode cX6_recordKey 6 = .ok (.iload_n 1, 1) := by decide +kernel
theorem dX6_recordKey_7 : decode cX6_recordKey 7 = .ok (.imul, 1) := by decide +kernel
theorem dX6_recordKey_8 : decode cX6_recordKey 8 = .ok (.iload_n 2, 1) := by decide +kernel
theorem dX6_recordKey_9 : decode cX6_recordKey 9 = .ok (.iadd, 1) := by decide +kernel
theorem dX6_recordKey_10 : decode cX6_recordKey 10 = .ok (.iaload, 1) := by decide +kernel
theorem dX6_recordKey_11 : decode cX6_recordKey 11 = .ok (.sipush (-5000), 3) := by decide +kernel
theorem dX6_recordKey_14 : decode cX6_recordKey 14 = .ok (.if_icmp .ne 33, 3) := by decide +kernel
theorem dX6_recordKey_17 : decode cX6_recordKey 17 = .ok (.aload_n 0, 1) := by decide +kernel
theorem dX6_recordKey_18 : decode cX6_recordKey 18 = .ok (.getfield 36, 3) := by decide +kernel
theorem dX6_recordKey_21 : decode cX6_recordKey 21 = .ok (.bipush 32, 2) := by decide +kernel
theorem dX6_recordKey_23 : decode cX6_recordKey 23 = .ok (.iload_n 1, 1) := by decide +kernel
theorem dX6_recordKey_24 : decode cX6_recordKey 24 = .ok (.imul, 1) := by decide +kernel
theorem dX6_recordKey_25 : decode cX6_recordKey 25 = .ok (.iload_n 2, 1) := by decide +kernel
theorem dX6_recordKey_26 : decode cX6_recordKey 26 = .ok (.iadd, 1) := by decide +kernel
theorem dX6_recordKey_27 : decode cX6_recordKey 27 = .ok (.iaload, 1) := by decide +kernel
theorem dX6_recordKey_28 : decode cX6_recordKey 28 = .ok (.iconst (-1), 1) := by decide +kernel
theorem dX6_recordKey_29 : decode cX6_recordKey 29 = .ok (.if_icmp .ne 18, 3) := by decide +kernel
theorem dX6_recordKey_32 : decode cX6_recordKey 32 = .ok (.aload_n 0, 1) := by decide +kernel
theorem dX6_recordKey_33 : decode cX6_recordKey 33 = .ok (.getfield 36, 3) := by decide +kernel
theorem dX6_recordKey_36 : decode cX6_recordKey 36 = .ok (.bipush 32, 2) := by decide +kernel
theorem dX6_recordKey_38 : decode cX6_recordKey 38 = .ok (.iload_n 1, 1) := by decide +kernel
theorem dX6_recordKey_39 : decode cX6_recordKey 39 = .ok (.imul, 1) := by decide +kernel
theorem dX6_recordKey_40 : decode cX6_recordKey 40 = .ok (.iload_n 2, 1) := by decide +kernel
theorem dX6_recordKey_41 : decode cX6_recordKey 41 = .ok (.iadd, 1) := by decide +kernel
theorem dX6_recordKey_42 : decode cX6_recordKey 42 = .ok (.aload_n 0, 1) := by decide +kernel
theorem dX6_recordKey_43 : decode cX6_recordKey 43 = .ok (.getfield 113, 3) := by decide +kernel
theorem dX6_recordKey_46 : decode cX6_recordKey 46 = .ok (.iastore, 1) := by decide +kernel
theorem dX6_recordKey_47 : decode cX6_recordKey 47 = .ok (.return_, 1) := by decide +kernel
theorem dX6_recordRange_0 : decode cX6_recordRange 0 = .ok (.iconst 4, 1) := by decide +kernel
theorem dX6_recordRange_1 : decode cX6_recordRange 1 = .ok (.bipush 24, 2) := by decide +kernel
theorem dX6_recordRange_3 : decode cX6_recordRange 3 = .ok (.iload_n 1, 1) := by decide +kernel
theorem dX6_recordRange_4 : decode cX6_recordRange 4 = .ok (.imul, 1) := by decide +kernel
theorem dX6_recordRange_5 : decode cX6_recordRange 5 = .ok (.aload_n 0, 1) := by decide +kernel
theorem dX6_recordRange_6 : decode cX6_recordRange 6 = .ok (.getfield 45, 3) := by decide +kernel
theorem dX6_recordRange_9 : decode cX6_recordRange 9 = .ok (.iload_n 1, 1) := by decide +kernel
theorem dX6_recordRange_10 : decode cX6_recordRange 10 = .ok (.iaload, 1) := by decide +kernel
theorem dX6_recordRange_11 : decode cX6_recordRange 11 = .ok (.iadd, 1) := by decide +kernel
theorem dX6_recordRange_12 : decode cX6_recordRange 12 = .ok (.imul, 1) := by decide +kernel
theorem dX6_recordRange_13 : decode cX6_recordRange 13 = .ok (.istore 5, 2) := by decide +kernel
theorem dX6_recordRange_15 : decode cX6_recordRange 15 = .ok (.aload_n 0, 1) := by decide +kernel
theorem dX6_recordRange_16 : decode cX6_recordRange 16 = .ok (.getfield 42, 3) := by decide +kernel
theorem dX6_recordRange_19 : decode cX6_recordRange 19 = .ok (.iload 5, 2) := by decide +kernel
theorem dX6_recordRange_21 : decode cX6_recordRange 21 = .ok (.iload_n 2, 1) := by decide +kernel
theorem dX6_recordRange_22 : decode cX6_recordRange 22 = .ok (.iastore, 1) := by decide +kernel
theorem dX6_recordRange_23 : decode cX6_recordRange 23 = .ok (.aload_n 0, 1) := by decide +kernel
theorem dX6_recordRange_24 : decode cX6_recordRange 24 = .ok (.getfield 42, 3) := by decide +kernel
theorem dX6_recordRange_27 : decode cX6_recordRange 27 = .ok (.iload 5, 2) := by decide +kernel
theorem dX6_recordRange_29 : decode cX6_recordRange 29 = .ok (.iconst 1, 1) := by decide +kernel
theorem dX6_recordRange_30 : decode cX6_recordRange 30 = .ok (.iadd, 1) := by decide +kernel
theorem dX6_recordRange_31 : decode cX6_recordRange 31 = .ok (.iload_n 3, 1) := by decide +kernel
theorem dX6_recordRange_32 : decode cX6_recordRange 32 = .ok (.iastore, 1) := by decide +kernel
theorem dX6_recordRange_33 : decode cX6_recordRange 33 = .ok (.aload_n 0, 1) := by decide +kernel
theorem dX6_recordRange_34 : decode cX6_recordRange 34 = .ok (.getfield 42, 3) := by decide +kernel
theorem dX6_recordRange_37 : decode cX6_recordRange 37 = .ok (.iload 5, 2) := by decide +kernel
theorem dX6_recordRange_39 : decode cX6_recordRange 39 = .ok (.iconst 2, 1) := by decide +kernel
theorem dX6_recordRange_40 : decode cX6_recordRange 40 = .ok (.iadd, 1) := by decide +kernel
theorem dX6_recordRange_41 : decode cX6_recordRange 41 = .ok (.iload 4, 2) := by decide +kernel
theorem dX6_recordRange_43 : decode cX6_recordRange 43 = .ok (.iastore, 1) := by decide +kernel
theorem dX6_recordRange_44 : decode cX6_recordRange 44 = .ok (.aload_n 0, 1) := by decide +kernel
theorem dX6_recordRange_45 : decode cX6_recordRange 45 = .ok (.getfield 42, 3) := by decide +kernel
theorem dX6_recordRange_48 : decode cX6_recordRange 48 = .ok (.iload 5, 2) := by decide +kernel
theorem dX6_recordRange_50 : decode cX6_recordRange 50 = .ok (.iconst 3, 1) := by decide +kernel
theorem dX6_recordRange_51 : decode cX6_recordRange 51 = .ok (.iadd, 1) := by decide +kernel
theorem dX6_recordRange_52 : decode cX6_recordRange 52 = .ok (.aload_n 0, 1) := by decide +kernel
theorem dX6_recordRange_53 : decode cX6_recordRange 53 = .ok (.getfield 113, 3) := by decide +kernel
theorem dX6_recordRange_56 : decode cX6_recordRange 56 = .ok (.iastore, 1) := by decide +kernel
theorem dX6_recordRange_57 : decode cX6_recordRange 57 = .ok (.aload_n 0, 1) := by decide +kernel
theorem dX6_recordRange_58 : decode cX6_recordRange 58 = .ok (.getfield 45, 3) := by decide +kernel
theorem dX6_recordRange_61 : decode cX6_recordRange 61 = .ok (.iload_n 1, 1) := by decide +kernel
theorem dX6_recordRange_62 : decode cX6_recordRange 62 = .ok (.dup2, 1) := by decide +kernel
theorem dX6_recordRange_63 : decode cX6_recordRange 63 = .ok (.iaload, 1) := by decide +kernel
theorem dX6_recordRange_64 : decode cX6_recordRange 64 = .ok (.iconst 1, 1) := by decide +kernel
theorem dX6_recordRange_65 : decode cX6_recordRange 65 = .ok (.iadd, 1) := by decide +kernel
theorem dX6_recordRange_66 : decode cX6_recordRange 66 = .ok (.iastore, 1) := by decide +kernel
theorem dX6_recordRange_67 : decode cX6_recordRange 67 = .ok (.return_, 1) := by decide +kernel
theorem dX6_list_0 : decode cX6_list 0 = .ok (.iconst 5, 1) := by decide +kernel
theorem dX6_list_1 : decode cX6_list 1 = .ok (.bipush 24, 2) := by decide +kernel
theorem dX6_list_3 : decode cX6_list 3 = .ok (.iload_n 1, 1) := by decide +kernel
theorem dX6_list_4 : decode cX6_list 4 = .ok (.imul, 1) := by decide +kernel
theorem dX6_list_5 : decode cX6_list 5 = .ok (.aload_n 0, 1) := by decide +kernel
theorem dX6_list_6 : decode cX6_list 6 = .ok (.getfield 30, 3) := by decide +kernel
theorem dX6_list_9 : decode cX6_list 9 = .ok (.iload_n 1, 1) := by decide +kernel
theorem dX6_list_10 : decode cX6_list 10 = .ok (.iaload, 1) := by decide +kernel
theorem dX6_list_11 : decode cX6_list 11 = .ok (.iadd, 1) := by decide +kernel
theorem dX6_list_12 : decode cX6_list 12 = .ok (.imul, 1) := by decide +kernel
theorem dX6_list_13 : decode cX6_list 13 = .ok (.istore 7, 2) := by decide +kernel
theorem dX6_list_15 : decode cX6_list 15 = .ok (.aload_n 0, 1) := by decide +kernel
theorem dX6_list_16 : decode cX6_list 16 = .ok (.getfield 33, 3) := by decide +kernel
theorem dX6_list_19 : decode cX6_list 19 = .ok (.iload 7, 2) := by decide +kernel
theorem dX6_list_21 : decode cX6_list 21 = .ok (.iload_n 2, 1) := by decide +kernel
theorem dX6_list_22 : decode cX6_list 22 = .ok (.iastore, 1) := by decide +kernel
theorem dX6_list_23 : decode cX6_list 23 = .ok (.aload_n 0, 1) := by decide +kernel
theorem dX6_list_24 : decode cX6_list 24 = .ok (.getfield 33, 3) := by decide +kernel
theorem dX6_list_27 : decode cX6_list 27 = .ok (.iload 7, 2) := by decide +kernel
theorem dX6_list_29 : decode cX6_list 29 = .ok (.iconst 1, 1) := by decide +kernel
theorem dX6_list_30 : decode cX6_list 30 = .ok (.iadd, 1) := by decide +kernel
theorem dX6_list_31 : decode cX6_list 31 = .ok (.iload_n 3, 1) := by decide +kernel
theorem dX6_list_32 : decode cX6_list 32 = .ok (.iastore, 1) := by decide +kernel
theorem dX6_list_33 : decode cX6_list 33 = .ok (.aload_n 0, 1) := by decide +kernel
theorem dX6_list_34 : decode cX6_list 34 = .ok (.getfield 33, 3) := by decide +kernel
theorem dX6_list_37 : decode cX6_list 37 = .ok (.iload 7, 2) := by decide +kernel
theorem dX6_list_39 : decode cX6_list 39 = .ok (.iconst 2, 1) := by decide +kernel
theorem dX6_list_40 : decode cX6_list 40 = .ok (.iadd, 1) := by decide +kernel
theorem dX6_list_41 : decode cX6_list 41 = .ok (.iload 4, 2) := by decide +kernel
theorem dX6_list_43 : decode cX6_list 43 = .ok (.iastore, 1) := by decide +kernel
theorem dX6_list_44 : decode cX6_list 44 = .ok (.aload_n 0, 1) := by decide +kernel
theorem dX6_list_45 : decode cX6_list 45 = .ok (.getfield 33, 3) := by decide +kernel
theorem dX6_list_48 : decode cX6_list 48 = .ok (.iload 7, 2) := by decide +kernel
theorem dX6_list_50 : decode cX6_list 50 = .ok (.iconst 3, 1) := by decide +kernel
theorem dX6_list_51 : decode cX6_list 51 = .ok (.iadd, 1) := by decide +kernel
theorem dX6_list_52 : decode cX6_list 52 = .ok (.iload 5, 2) := by decide +kernel
theorem dX6_list_54 : decode cX6_list 54 = .ok (.iastore, 1) := by decide +kernel
theorem dX6_list_55 : decode cX6_list 55 = .ok (.aload_n 0, 1) := by decide +kernel
theorem dX6_list_56 : decode cX6_list 56 = .ok (.getfield 33, 3) := by decide +kernel
theorem dX6_list_59 : decode cX6_list 59 = .ok (.iload 7, 2) := by decide +kernel
theorem dX6_list_61 : decode cX6_list 61 = .ok (.iconst 4, 1) := by decide +kernel
theorem dX6_list_62 : decode cX6_list 62 = .ok (.iadd, 1) := by decide +kernel
theorem dX6_list_63 : decode cX6_list 63 = .ok (.iload 6, 2) := by decide +kernel
theorem dX6_list_65 : decode cX6_list 65 = .ok (.iastore, 1) := by decide +kernel
theorem dX6_list_66 : decode cX6_list 66 = .ok (.aload_n 0, 1) := by decide +kernel
theorem dX6_list_67 : decode cX6_list 67 = .ok (.getfield 30, 3) := by decide +kernel
theorem dX6_list_70 : decode cX6_list 70 = .ok (.iload_n 1, 1) := by decide +kernel
theorem dX6_list_71 : decode cX6_list 71 = .ok (.dup2, 1) := by decide +kernel
theorem dX6_list_72 : decode cX6_list 72 = .ok (.iaload, 1) := by decide +kernel
theorem dX6_list_73 : decode cX6_list 73 = .ok (.iconst 1, 1) := by decide +kernel
theorem dX6_list_74 : decode cX6_list 74 = .ok (.iadd, 1) := by decide +kernel
theorem dX6_list_75 : decode cX6_list 75 = .ok (.iastore, 1) := by decide +kernel
theorem dX6_list_76 : decode cX6_list 76 = .ok (.return_, 1) := by decide +kernel
theorem dX6_problem_0 : decode cX6_problem 0 = .ok (.aload_n 0, 1) := by decide +kernel
theorem dX6_problem_1 : decode cX6_problem 1 = .ok (.iload_n 1, 1) := by decide +kernel
theorem dX6_problem_2 : decode cX6_problem 2 = .ok (.invokevirtual 110, 3) := by decide +kernel
theorem dX6_problem_5 : decode cX6_problem 5 = .ok (.ifCond .ne 7, 3) := by decide +kernel
theorem dX6_problem_8 : decode cX6_problem 8 = .ok (.iconst 1, 1) := by decide +kernel
theorem dX6_problem_9 : decode cX6_problem 9 = .ok (.goto 36, 3) := by decide +kernel
theorem dX6_problem_12 : decode cX6_problem 12 = .ok (.iload_n 2, 1) := by decide +kernel
theorem dX6_problem_13 : decode cX6_problem 13 = .ok (.ifCond .ne 7, 3) := by decide +kernel
theorem dX6_problem_16 : decode cX6_problem 16 = .ok (.iconst 2, 1) := by decide +kernel
theorem dX6_problem_17 : decode cX6_problem 17 = .ok (.goto 28, 3) := by decide +kernel
theorem dX6_problem_20 : decode cX6_problem 20 = .ok (.aload_n 0, 1) := by decide +kernel
theorem dX6_problem_21 : decode cX6_problem 21 = .ok (.getfield 13, 3) := by decide +kernel
theorem dX6_problem_24 : decode cX6_problem 24 = .ok (.iload_n 1, 1) := by decide +kernel
theorem dX6_problem_25 : decode cX6_problem 25 = .ok (.iaload, 1) := by decide +kernel
theorem dX6_problem_26 : decode cX6_problem 26 = .ok (.ifCond .ne 14, 3) := by decide +kernel
theorem dX6_problem_29 : decode cX6_problem 29 = .ok (.aload_n 0, 1) := by decide +kernel
theorem dX6_problem_30 : decode cX6_problem 30 = .ok (.getfield 30, 3) := by decide +kernel
theorem dX6_problem_33 : decode cX6_problem 33 = .ok (.iload_n 1, 1) := by decide +kernel
theorem dX6_problem_34 : decode cX6_problem 34 = .ok (.iaload, 1) := by decide +kernel
theorem dX6_problem_35 : decode cX6_problem 35 = .ok (.bipush 24, 2) := by decide +kernel
theorem dX6_problem_37 : decode cX6_problem 37 = .ok (.if_icmp .ne 7, 3) := by decide +kernel
theorem dX6_problem_40 : decode cX6_problem 40 = .ok (.iconst 3, 1) := by decide +kernel
theorem dX6_problem_41 : decode cX6_problem 41 = .ok (.goto 4, 3) := by decide +kernel
theorem dX6_problem_44 : decode cX6_problem 44 = .ok (.iconst 0, 1) := by decide +kernel
theorem dX6_problem_45 : decode cX6_problem 45 = .ok (.ireturn, 1) := by decide +kernel
theorem dX6_read_0 : decode cX6_read 0 = .ok (.aload_n 0, 1) := by decide +kernel
theorem dX6_read_1 : decode cX6_read 1 = .ok (.aload_n 0, 1) := by decide +kernel
theorem dX6_read_2 : decode cX6_read 2 = .ok (.iload_n 1, 1) := by decide +kernel
theorem dX6_read_3 : decode cX6_read 3 = .ok (.iload_n 2, 1) := by decide +kernel
theorem dX6_read_4 : decode cX6_read 4 = .ok (.invokestatic 85, 3) := by decide +kernel
theorem dX6_read_7 : decode cX6_read 7 = .ok (.invokevirtual 120, 3) := by decide +kernel
theorem dX6_read_10 : decode cX6_read 10 = .ok (.putfield 1, 3) := by decide +kernel
theorem dX6_read_13 : decode cX6_read 13 = .ok (.aload_n 0, 1) := by decide +kernel
theorem dX6_read_14 : decode cX6_read 14 = .ok (.getfield 1, 3) := by decide +kernel
theorem dX6_read_17 : decode cX6_read 17 = .ok (.ifCond .eq 5, 3) := by decide +kernel
theorem dX6_read_20 : decode cX6_read 20 = .ok (.iconst 0, 1) := by decide +kernel
theorem dX6_read_21 : decode cX6_read 21 = .ok (.ireturn, 1) := by decide +kernel
theorem dX6_read_22 : decode cX6_read 22 = .ok (.aload_n 0, 1) := by decide +kernel
theorem dX6_read_23 : decode cX6_read 23 = .ok (.iload_n 1, 1) := by decide +kernel
theorem dX6_read_24 : decode cX6_read 24 = .ok (.iload_n 2, 1) := by decide +kernel
theorem dX6_read_25 : decode cX6_read 25 = .ok (.invokevirtual 124, 3) := by decide +kernel
theorem dX6_read_28 : decode cX6_read 28 = .ok (.aload_n 0, 1) := by decide +kernel
theorem dX6_read_29 : decode cX6_read 29 = .ok (.iload_n 1, 1) := by decide +kernel
theorem dX6_read_30 : decode cX6_read 30 = .ok (.iload_n 2, 1) := by decide +kernel
theorem dX6_read_31 : decode cX6_read 31 = .ok (.invokevirtual 128, 3) := by decide +kernel
theorem dX6_read_34 : decode cX6_read 34 = .ok (.istore_n 3, 1) := by decide +kernel
theorem dX6_read_35 : decode cX6_read 35 = .ok (.aload_n 0, 1) := by decide +kernel
theorem dX6_read_36 : decode cX6_read 36 = .ok (.iload_n 1, 1) := by decide +kernel
theorem dX6_read_37 : decode cX6_read 37 = .ok (.iconst 0, 1) := by decide +kernel
theorem dX6_read_38 : decode cX6_read 38 = .ok (.iload_n 2, 1) := by decide +kernel
theorem dX6_read_39 : decode cX6_read 39 = .ok (.iconst 0, 1) := by decide +kernel
theorem dX6_read_40 : decode cX6_read 40 = .ok (.iconst 0, 1) := by decide +kernel
theorem dX6_read_41 : decode cX6_read 41 = .ok (.iload_n 3, 1) := by decide +kernel
theorem dX6_read_42 : decode cX6_read 42 = .ok (.invokevirtual 131, 3) := by decide +kernel
theorem dX6_read_45 : decode cX6_read 45 = .ok (.iload_n 3, 1) := by decide +kernel
theorem dX6_read_46 : decode cX6_read 46 = .ok (.ireturn, 1) := by decide +kernel
theorem dX6_counted_0 : decode cX6_counted 0 = .ok (.iconst 0, 1) := by decide +kernel
theorem dX6_counted_1 : decode cX6_counted 1 = .ok (.istore 5, 2) := by decide +kernel
theorem dX6_counted_3 : decode cX6_counted 3 = .ok (.iload_n 2, 1) := by decide +kernel
theorem dX6_counted_4 : decode cX6_counted 4 = .ok (.istore 6, 2) := by decide +kernel
theorem dX6_counted_6 : decode cX6_counted 6 = .ok (.iload 6, 2) := by decide +kernel
theorem dX6_counted_8 : decode cX6_counted 8 = .ok (.iload_n 3, 1) := by decide +kernel
theorem dX6_counted_9 : decode cX6_counted 9 = .ok (.if_icmp .gt 31, 3) := by decide +kernel
theorem dX6_counted_12 : decode cX6_counted 12 = .ok (.iload 5, 2) := by decide +kernel
theorem dX6_counted_14 : decode cX6_counted 14 = .ok (.aload_n 0, 1) := by decide +kernel
theorem dX6_counted_15 : decode cX6_counted 15 = .ok (.iload_n 1, 1) := by decide +kernel
theorem dX6_counted_16 : decode cX6_counted 16 = .ok (.iload 6, 2) := by decide +kernel
theorem dX6_counted_18 : decode cX6_counted 18 = .ok (.invokevirtual 128, 3) := by decide +kernel
theorem dX6_counted_21 : decode cX6_counted 21 = .ok (.iload 4, 2) := by decide +kernel
theorem dX6_counted_23 : decode cX6_counted 23 = .ok (.if_icmp .lt 7, 3) := by decide +kernel
theorem dX6_counted_26 : decode cX6_counted 26 = .ok (.iconst 1, 1) := by decide +kernel
theorem dX6_counted_27 : decode cX6_counted 27 = .ok (.goto 4, 3) := by decide +kernel
theorem dX6_counted_30 : decode cX6_counted 30 = .ok (.iconst 0, 1) := by decide +kernel
theorem dX6_counted_31 : decode cX6_counted 31 = .ok (.iadd, 1) := by decide +kernel
theorem dX6_counted_32 : decode cX6_counted 32 = .ok (.istore 5, 2) := by decide +kernel
theorem dX6_counted_34 : decode cX6_counted 34 = .ok (.iinc 6 1, 3) := by decide +kernel
theorem dX6_counted_37 : decode cX6_counted 37 = .ok (.goto (-31), 3) := by decide +kernel
theorem dX6_counted_40 : decode cX6_counted 40 = .ok (.iload 5, 2) := by decide +kernel
theorem dX6_counted_42 : decode cX6_counted 42 = .ok (.ireturn, 1) := by decide +kernel
theorem dX6_scan_0 : decode cX6_scan 0 = .ok (.aload_n 0, 1) := by decide +kernel
theorem dX6_scan_1 : decode cX6_scan 1 = .ok (.aload_n 0, 1) := by decide +kernel
theorem dX6_scan_2 : decode cX6_scan 2 = .ok (.iload_n 1, 1) := by decide +kernel
theorem dX6_scan_3 : decode cX6_scan 3 = .ok (.iload_n 2, 1) := by decide +kernel
theorem dX6_scan_4 : decode cX6_scan 4 = .ok (.iload_n 3, 1) := by decide +kernel
theorem dX6_scan_5 : decode cX6_scan 5 = .ok (.invokestatic 135, 3) := by decide +kernel
theorem dX6_scan_8 : decode cX6_scan 8 = .ok (.ifCond .eq 21, 3) := by decide +kernel
theorem dX6_scan_11 : decode cX6_scan 11 = .ok (.iload 4, 2) := by decide +kernel
theorem dX6_scan_13 : decode cX6_scan 13 = .ok (.sipush (-999), 3) := by decide +kernel
theorem dX6_scan_16 : decode cX6_scan 16 = .ok (.sipush 999, 3) := by decide +kernel
theorem dX6_scan_19 : decode cX6_scan 19 = .ok (.invokestatic 81, 3) := by decide +kernel
theorem dX6_scan_22 : decode cX6_scan 22 = .ok (.ifCond .eq 7, 3) := by decide +kernel
theorem dX6_scan_25 : decode cX6_scan 25 = .ok (.iconst 1, 1) := by decide +kernel
theorem dX6_scan_26 : decode cX6_scan 26 = .ok (.goto 4, 3) := by decide +kernel
theorem dX6_scan_29 : decode cX6_scan 29 = .ok (.iconst 0, 1) := by decide +kernel
theorem dX6_scan_30 : decode cX6_scan 30 = .ok (.invokevirtual 120, 3) := by decide +kernel
theorem dX6_scan_33 : decode cX6_scan 33 = .ok (.putfield 1, 3) := by decide +kernel
theorem dX6_scan_36 : decode cX6_scan 36 = .ok (.aload_n 0, 1) := by decide +kernel
theorem dX6_scan_37 : decode cX6_scan 37 = .ok (.getfield 1, 3) := by decide +kernel
theorem dX6_scan_40 : decode cX6_scan 40 = .ok (.ifCond .eq 5, 3) := by decide +kernel
theorem dX6_scan_43 : decode cX6_scan 43 = .ok (.iconst 0, 1) := by decide +kernel
theorem dX6_scan_44 : decode cX6_scan 44 = .ok (.ireturn, 1) := by decide +kernel
theorem dX6_scan_45 : decode cX6_scan 45 = .ok (.aload_n 0, 1) := by decide +kernel
theorem dX6_scan_46 : decode cX6_scan 46 = .ok (.iload_n 1, 1) := by decide +kernel
theorem dX6_scan_47 : decode cX6_scan 47 = .ok (.iload_n 2, 1) := by decide +kernel
theorem dX6_scan_48 : decode cX6_scan 48 = .ok (.iload_n 3, 1) := by decide +kernel
theorem dX6_scan_49 : decode cX6_scan 49 = .ok (.iload 4, 2) := by decide +kernel
theorem dX6_scan_51 : decode cX6_scan 51 = .ok (.invokevirtual 139, 3) := by decide +kernel
theorem dX6_scan_54 : decode cX6_scan 54 = .ok (.aload_n 0, 1) := by decide +kernel
theorem dX6_scan_55 : decode cX6_scan 55 = .ok (.iload_n 1, 1) := by decide +kernel
theorem dX6_scan_56 : decode cX6_scan 56 = .ok (.iload_n 2, 1) := by decide +kernel
theorem dX6_scan_57 : decode cX6_scan 57 = .ok (.iload_n 3, 1) := by decide +kernel
theorem dX6_scan_58 : decode cX6_scan 58 = .ok (.iload 4, 2) := by decide +kernel
theorem dX6_scan_60 : decode cX6_scan 60 = .ok (.invokevirtual 143, 3) := by decide +kernel
theorem dX6_scan_63 : decode cX6_scan 63 = .ok (.istore 5, 2) := by decide +kernel
theorem dX6_scan_65 : decode cX6_scan 65 = .ok (.aload_n 0, 1) := by decide +kernel
theorem dX6_scan_66 : decode cX6_scan 66 = .ok (.iload_n 1, 1) := by decide +kernel
theorem dX6_scan_67 : decode cX6_scan 67 = .ok (.iconst 1, 1) := by decide +kernel
theorem dX6_scan_68 : decode cX6_scan 68 = .ok (.iload_n 2, 1) := by decide +kernel
theorem dX6_scan_69 : decode cX6_scan 69 = .ok (.iload_n 3, 1) := by decide +kernel
theorem dX6_scan_70 : decode cX6_scan 70 = .ok (.iload 4, 2) := by decide +kernel
theorem dX6_scan_72 : decode cX6_scan 72 = .ok (.iload 5, 2) := by decide +kernel
theorem dX6_scan_74 : decode cX6_scan 74 = .ok (.invokevirtual 131, 3) := by decide +kernel
theorem dX6_scan_77 : decode cX6_scan 77 = .ok (.iload 5, 2) := by decide +kernel
theorem dX6_scan_79 : decode cX6_scan 79 = .ok (.ireturn, 1) := by decide +kernel
theorem dX6_summed_0 : decode cX6_summed 0 = .ok (.iconst 0, 1) := by decide +kernel
theorem dX6_summed_1 : decode cX6_summed 1 = .ok (.istore 4, 2) := by decide +kernel
theorem dX6_summed_3 : decode cX6_summed 3 = .ok (.iload_n 2, 1) := by decide +kernel
theorem dX6_summed_4 : decode cX6_summed 4 = .ok (.istore 5, 2) := by decide +kernel
theorem dX6_summed_6 : decode cX6_summed 6 = .ok (.iload 5, 2) := by decide +kernel
theorem dX6_summed_8 : decode cX6_summed 8 = .ok (.iload_n 3, 1) := by decide +kernel
theorem dX6_summed_9 : decode cX6_summed 9 = .ok (.if_icmp .gt 37, 3) := by decide +kernel
theorem dX6_summed_12 : decode cX6_summed 12 = .ok (.aload_n 0, 1) := by decide +kernel
theorem dX6_summed_13 : decode cX6_summed 13 = .ok (.iload_n 1, 1) := by decide +kernel
theorem dX6_summed_14 : decode cX6_summed 14 = .ok (.iload 5, 2) := by decide +kernel
theorem dX6_summed_16 : decode cX6_summed 16 = .ok (.invokevirtual 128, 3) := by decide +kernel
theorem dX6_summed_19 : decode cX6_summed 19 = .ok (.istore 6, 2) := by decide +kernel
theorem dX6_summed_21 : decode cX6_summed 21 = .ok (.iload 4, 2) := by decide +kernel
theorem dX6_summed_23 : decode cX6_summed 23 = .ok (.iload 6, 2) := by decide +kernel
theorem dX6_summed_25 : decode cX6_summed 25 = .ok (.sipush (-1000), 3) := by decide +kernel
theorem dX6_summed_28 : decode cX6_summed 28 = .ok (.if_icmp .ne 7, 3) := by decide +kernel
theorem dX6_summed_31 : decode cX6_summed 31 = .ok (.iconst 0, 1) := by decide +kernel
theorem dX6_summed_32 : decode cX6_summed 32 = .ok (.goto 5, 3) := by decide +kernel
theorem dX6_summed_35 : decode cX6_summed 35 = .ok (.iload 6, 2) := by decide +kernel
theorem dX6_summed_37 : decode cX6_summed 37 = .ok (.iadd, 1) := by decide +kernel
theorem dX6_summed_38 : decode cX6_summed 38 = .ok (.istore 4, 2) := by decide +kernel
theorem dX6_summed_40 : decode cX6_summed 40 = .ok (.iinc 5 1, 3) := by decide +kernel
theorem dX6_summed_43 : decode cX6_summed 43 = .ok (.goto (-37), 3) := by decide +kernel
theorem dX6_summed_46 : decode cX6_summed 46 = .ok (.iload 4, 2) := by decide +kernel
theorem dX6_summed_48 : decode cX6_summed 48 = .ok (.ireturn, 1) := by decide +kernel
theorem dX6_sum_0 : decode cX6_sum 0 = .ok (.aload_n 0, 1) := by decide +kernel
theorem dX6_sum_1 : decode cX6_sum 1 = .ok (.aload_n 0, 1) := by decide +kernel
theorem dX6_sum_2 : decode cX6_sum 2 = .ok (.iload_n 1, 1) := by decide +kernel
theorem dX6_sum_3 : decode cX6_sum 3 = .ok (.iload_n 2, 1) := by decide +kernel
theorem dX6_sum_4 : decode cX6_sum 4 = .ok (.iload_n 3, 1) := by decide +kernel
theorem dX6_sum_5 : decode cX6_sum 5 = .ok (.invokestatic 135, 3) := by decide +kernel
theorem dX6_sum_8 : decode cX6_sum 8 = .ok (.invokevirtual 120, 3) := by decide +kernel
theorem dX6_sum_11 : decode cX6_sum 11 = .ok (.putfield 1, 3) := by decide +kernel
theorem dX6_sum_14 : decode cX6_sum 14 = .ok (.aload_n 0, 1) := by decide +kernel
theorem dX6_sum_15 : decode cX6_sum 15 = .ok (.getfield 1, 3) := by decide +kernel
theorem dX6_sum_18 : decode cX6_sum 18 = .ok (.ifCond .eq 5, 3) := by decide +kernel
theorem dX6_sum_21 : decode cX6_sum 21 = .ok (.iconst 0, 1) := by decide +kernel
theorem dX6_sum_22 : decode cX6_sum 22 = .ok (.ireturn, 1) := by decide +kernel
theorem dX6_sum_23 : decode cX6_sum 23 = .ok (.aload_n 0, 1) := by decide +kernel
theorem dX6_sum_24 : decode cX6_sum 24 = .ok (.iload_n 1, 1) := by decide +kernel
theorem dX6_sum_25 : decode cX6_sum 25 = .ok (.iload_n 2, 1) := by decide +kernel
theorem dX6_sum_26 : decode cX6_sum 26 = .ok (.iload_n 3, 1) := by decide +kernel
theorem dX6_sum_27 : decode cX6_sum 27 = .ok (.sipush (-999), 3) := by decide +kernel
theorem dX6_sum_30 : decode cX6_sum 30 = .ok (.invokevirtual 139, 3) := by decide +kernel
theorem dX6_sum_33 : decode cX6_sum 33 = .ok (.aload_n 0, 1) := by decide +kernel
theorem dX6_sum_34 : decode cX6_sum 34 = .ok (.iload_n 1, 1) := by decide +kernel
theorem dX6_sum_35 : decode cX6_sum 35 = .ok (.iload_n 2, 1) := by decide +kernel
theorem dX6_sum_36 : decode cX6_sum 36 = .ok (.iload_n 3, 1) := by decide +kernel
theorem dX6_sum_37 : decode cX6_sum 37 = .ok (.invokevirtual 147, 3) := by decide +kernel
theorem dX6_sum_40 : decode cX6_sum 40 = .ok (.istore 4, 2) := by decide +kernel
theorem dX6_sum_42 : decode cX6_sum 42 = .ok (.aload_n 0, 1) := by decide +kernel
theorem dX6_sum_43 : decode cX6_sum 43 = .ok (.iload_n 1, 1) := by decide +kernel
theorem dX6_sum_44 : decode cX6_sum 44 = .ok (.iconst 2, 1) := by decide +kernel
theorem dX6_sum_45 : decode cX6_sum 45 = .ok (.iload_n 2, 1) := by decide +kernel
theorem dX6_sum_46 : decode cX6_sum 46 = .ok (.iload_n 3, 1) := by decide +kernel
theorem dX6_sum_47 : decode cX6_sum 47 = .ok (.iconst 0, 1) := by decide +kernel
theorem dX6_sum_48 : decode cX6_sum 48 = .ok (.iload 4, 2) := by decide +kernel
theorem dX6_sum_50 : decode cX6_sum 50 = .ok (.invokevirtual 131, 3) := by decide +kernel
theorem dX6_sum_53 : decode cX6_sum 53 = .ok (.iload 4, 2) := by decide +kernel
theorem dX6_sum_55 : decode cX6_sum 55 = .ok (.ireturn, 1) := by decide +kernel
theorem dX6_write_0 : decode cX6_write 0 = .ok (.aload_n 0, 1) := by decide +kernel
theorem dX6_write_1 : decode cX6_write 1 = .ok (.aload_n 0, 1) := by decide +kernel
theorem dX6_write_2 : decode cX6_write 2 = .ok (.iload_n 1, 1) := by decide +kernel
theorem dX6_write_3 : decode cX6_write 3 = .ok (.iload_n 2, 1) := by decide +kernel
theorem dX6_write_4 : decode cX6_write 4 = .ok (.invokestatic 85, 3) := by decide +kernel
theorem dX6_write_7 : decode cX6_write 7 = .ok (.ifCond .eq 20, 3) := by decide +kernel
theorem dX6_write_10 : decode cX6_write 10 = .ok (.iload_n 3, 1) := by decide +kernel
theorem dX6_write_11 : decode cX6_write 11 = .ok (.sipush (-999), 3) := by decide +kernel
theorem dX6_write_14 : decode cX6_write 14 = .ok (.sipush 999, 3) := by decide +kernel
theorem dX6_write_17 : decode cX6_write 17 = .ok (.invokestatic 81, 3) := by decide +kernel
theorem dX6_write_20 : decode cX6_write 20 = .ok (.ifCond .eq 7, 3) := by decide +kernel
theorem dX6_write_23 : decode cX6_write 23 = .ok (.iconst 1, 1) := by decide +kernel
theorem dX6_write_24 : decode cX6_write 24 = .ok (.goto 4, 3) := by decide +kernel
theorem dX6_write_27 : decode cX6_write 27 = .ok (.iconst 0, 1) := by decide +kernel
theorem dX6_write_28 : decode cX6_write 28 = .ok (.invokevirtual 120, 3) := by decide +kernel
theorem dX6_write_31 : decode cX6_write 31 = .ok (.putfield 1, 3) := by decide +kernel
theorem dX6_write_34 : decode cX6_write 34 = .ok (.aload_n 0, 1) := by decide +kernel
theorem dX6_write_35 : decode cX6_write 35 = .ok (.getfield 1, 3) := by decide +kernel
theorem dX6_write_38 : decode cX6_write 38 = .ok (.ifCond .ne 25, 3) := by decide +kernel
theorem dX6_write_41 : decode cX6_write 41 = .ok (.aload_n 0, 1) := by decide +kernel
theorem dX6_write_42 : decode cX6_write 42 = .ok (.getfield 39, 3) := by decide +kernel
theorem dX6_write_45 : decode cX6_write 45 = .ok (.bipush 32, 2) := by decide +kernel
theorem dX6_write_47 : decode cX6_write 47 = .ok (.iload_n 1, 1) := by decide +kernel
theorem dX6_write_48 : decode cX6_write 48 = .ok (.imul, 1) := by decide +kernel
theorem dX6_write_49 : decode cX6_write 49 = .ok (.iload_n 2, 1) := by decide +kernel
theorem dX6_write_50 : decode cX6_write 50 = .ok (.iadd, 1) := by decide +kernel
theorem dX6_write_51 : decode cX6_write 51 = .ok (.iload_n 3, 1) := by decide +kernel
theorem dX6_write_52 : decode cX6_write 52 = .ok (.iastore, 1) := by decide +kernel
theorem dX6_write_53 : decode cX6_write 53 = .ok (.aload_n 0, 1) := by decide +kernel
theorem dX6_write_54 : decode cX6_write 54 = .ok (.iload_n 1, 1) := by decide +kernel
theorem dX6_write_55 : decode cX6_write 55 = .ok (.iconst 3, 1) := by decide +kernel
theorem dX6_write_56 : decode cX6_write 56 = .ok (.iload_n 2, 1) := by decide +kernel
theorem dX6_write_57 : decode cX6_write 57 = .ok (.iload_n 3, 1) := by decide +kernel
theorem dX6_write_58 : decode cX6_write 58 = .ok (.iconst 0, 1) := by decide +kernel
theorem dX6_write_59 : decode cX6_write 59 = .ok (.iconst 0, 1) := by decide +kernel
theorem dX6_write_60 : decode cX6_write 60 = .ok (.invokevirtual 131, 3) := by decide +kernel
theorem dX6_write_63 : decode cX6_write 63 = .ok (.return_, 1) := by decide +kernel
theorem dX6_remove_0 : decode cX6_remove 0 = .ok (.aload_n 0, 1) := by decide +kernel
theorem dX6_remove_1 : decode cX6_remove 1 = .ok (.aload_n 0, 1) := by decide +kernel
theorem dX6_remove_2 : decode cX6_remove 2 = .ok (.iload_n 1, 1) := by decide +kernel
theorem dX6_remove_3 : decode cX6_remove 3 = .ok (.iload_n 2, 1) := by decide +kernel
theorem dX6_remove_4 : decode cX6_remove 4 = .ok (.invokestatic 85, 3) := by decide +kernel
theorem dX6_remove_7 : decode cX6_remove 7 = .ok (.invokevirtual 120, 3) := by decide +kernel
theorem dX6_remove_10 : decode cX6_remove 10 = .ok (.putfield 1, 3) := by decide +kernel
theorem dX6_remove_13 : decode cX6_remove 13 = .ok (.aload_n 0, 1) := by decide +kernel
theorem dX6_remove_14 : decode cX6_remove 14 = .ok (.getfield 1, 3) := by decide +kernel
theorem dX6_remove_17 : decode cX6_remove 17 = .ok (.ifCond .ne 27, 3) := by decide +kernel
theorem dX6_remove_20 : decode cX6_remove 20 = .ok (.aload_n 0, 1) := by decide +kernel
theorem dX6_remove_21 : decode cX6_remove 21 = .ok (.getfield 39, 3) := by decide +kernel
theorem dX6_remove_24 : decode cX6_remove 24 = .ok (.bipush 32, 2) := by decide +kernel
theorem dX6_remove_26 : decode cX6_remove 26 = .ok (.iload_n 1, 1) := by decide +kernel
theorem dX6_remove_27 : decode cX6_remove 27 = .ok (.imul, 1) := by decide +kernel
theorem dX6_remove_28 : decode cX6_remove 28 = .ok (.iload_n 2, 1) := by decide +kernel
theorem dX6_remove_29 : decode cX6_remove 29 = .ok (.iadd, 1) := by decide +kernel
theorem dX6_remove_30 : decode cX6_remove 30 = .ok (.sipush (-1000), 3) := by decide +kernel
theorem dX6_remove_33 : decode cX6_remove 33 = .ok (.iastore, 1) := by decide +kernel
theorem dX6_remove_34 : decode cX6_remove 34 = .ok (.aload_n 0, 1) := by decide +kernel
theorem dX6_remove_35 : decode cX6_remove 35 = .ok (.iload_n 1, 1) := by decide +kernel
theorem dX6_remove_36 : decode cX6_remove 36 = .ok (.iconst 4, 1) := by decide +kernel
theorem dX6_remove_37 : decode cX6_remove 37 = .ok (.iload_n 2, 1) := by decide +kernel
theorem dX6_remove_38 : decode cX6_remove 38 = .ok (.iconst 0, 1) := by decide +kernel
theorem dX6_remove_39 : decode cX6_remove 39 = .ok (.iconst 0, 1) := by decide +kernel
theorem dX6_remove_40 : decode cX6_remove 40 = .ok (.iconst 0, 1) := by decide +kernel
theorem dX6_remove_41 : decode cX6_remove 41 = .ok (.invokevirtual 131, 3) := by decide +kernel
theorem dX6_remove_44 : decode cX6_remove 44 = .ok (.return_, 1) := by decide +kernel
theorem dX6_addedTo_0 : decode cX6_addedTo 0 = .ok (.iload_n 1, 1) := by decide +kernel
theorem dX6_addedTo_1 : decode cX6_addedTo 1 = .ok (.sipush (-1000), 3) := by decide +kernel
theorem dX6_addedTo_4 : decode cX6_addedTo 4 = .ok (.if_icmp .ne 7, 3) := by decide +kernel
theorem dX6_addedTo_7 : decode cX6_addedTo 7 = .ok (.iconst 0, 1) := by decide +kernel
theorem dX6_addedTo_8 : decode cX6_addedTo 8 = .ok (.goto 4, 3) := by decide +kernel
theorem dX6_addedTo_11 : decode cX6_addedTo 11 = .ok (.iload_n 1, 1) := by decide +kernel
theorem dX6_addedTo_12 : decode cX6_addedTo 12 = .ok (.iload_n 2, 1) := by decide +kernel
theorem dX6_addedTo_13 : decode cX6_addedTo 13 = .ok (.iadd, 1) := by decide +kernel
theorem dX6_addedTo_14 : decode cX6_addedTo 14 = .ok (.ireturn, 1) := by decide +kernel
theorem dX6_add_0 : decode cX6_add 0 = .ok (.aload_n 0, 1) := by decide +kernel
theorem dX6_add_1 : decode cX6_add 1 = .ok (.aload_n 0, 1) := by decide +kernel
theorem dX6_add_2 : decode cX6_add 2 = .ok (.iload_n 1, 1) := by decide +kernel
theorem dX6_add_3 : decode cX6_add 3 = .ok (.iload_n 2, 1) := by decide +kernel
theorem dX6_add_4 : decode cX6_add 4 = .ok (.invokestatic 85, 3) := by decide +kernel
theorem dX6_add_7 : decode cX6_add 7 = .ok (.ifCond .eq 20, 3) := by decide +kernel
theorem dX6_add_10 : decode cX6_add 10 = .ok (.iload_n 3, 1) := by decide +kernel
theorem dX6_add_11 : decode cX6_add 11 = .ok (.sipush (-999), 3) := by decide +kernel
theorem dX6_add_14 : decode cX6_add 14 = .ok (.sipush 999, 3) := by decide +kernel
theorem dX6_add_17 : decode cX6_add 17 = .ok (.invokestatic 81, 3) := by decide +kernel
theorem dX6_add_20 : decode cX6_add 20 = .ok (.ifCond .eq 7, 3) := by decide +kernel
theorem dX6_add_23 : decode cX6_add 23 = .ok (.iconst 1, 1) := by decide +kernel
theorem dX6_add_24 : decode cX6_add 24 = .ok (.goto 4, 3) := by decide +kernel
theorem dX6_add_27 : decode cX6_add 27 = .ok (.iconst 0, 1) := by decide +kernel
theorem dX6_add_28 : decode cX6_add 28 = .ok (.invokevirtual 120, 3) := by decide +kernel
theorem dX6_add_31 : decode cX6_add 31 = .ok (.putfield 1, 3) := by decide +kernel
theorem dX6_add_34 : decode cX6_add 34 = .ok (.aload_n 0, 1) := by decide +kernel
theorem dX6_add_35 : decode cX6_add 35 = .ok (.getfield 1, 3) := by decide +kernel
theorem dX6_add_38 : decode cX6_add 38 = .ok (.ifCond .eq 5, 3) := by decide +kernel
theorem dX6_add_41 : decode cX6_add 41 = .ok (.iconst 0, 1) := by decide +kernel
theorem dX6_add_42 : decode cX6_add 42 = .ok (.ireturn, 1) := by decide +kernel
theorem dX6_add_43 : decode cX6_add 43 = .ok (.aload_n 0, 1) := by decide +kernel
theorem dX6_add_44 : decode cX6_add 44 = .ok (.aload_n 0, 1) := by decide +kernel
theorem dX6_add_45 : decode cX6_add 45 = .ok (.iload_n 1, 1) := by decide +kernel
theorem dX6_add_46 : decode cX6_add 46 = .ok (.iload_n 2, 1) := by decide +kernel
theorem dX6_add_47 : decode cX6_add 47 = .ok (.invokevirtual 128, 3) := by decide +kernel
theorem dX6_add_50 : decode cX6_add 50 = .ok (.iload_n 3, 1) := by decide +kernel
theorem dX6_add_51 : decode cX6_add 51 = .ok (.invokevirtual 151, 3) := by decide +kernel
theorem dX6_add_54 : decode cX6_add 54 = .ok (.istore 4, 2) := by decide +kernel
theorem dX6_add_56 : decode cX6_add 56 = .ok (.iload 4, 2) := by decide +kernel
theorem dX6_add_58 : decode cX6_add 58 = .ok (.sipush (-999), 3) := by decide +kernel
theorem dX6_add_61 : decode cX6_add 61 = .ok (.sipush 999, 3) := by decide +kernel
theorem dX6_add_64 : decode cX6_add 64 = .ok (.invokestatic 81, 3) := by decide +kernel
theorem dX6_add_67 : decode cX6_add 67 = .ok (.ifCond .ne 9, 3) := by decide +kernel
theorem dX6_add_70 : decode cX6_add 70 = .ok (.aload_n 0, 1) := by decide +kernel
theorem dX6_add_71 : decode cX6_add 71 = .ok (.iconst 4, 1) := by decide +kernel
theorem dX6_add_72 : decode cX6_add 72 = .ok (.invokevirtual 107, 3) := by decide +kernel
theorem dX6_add_75 : decode cX6_add 75 = .ok (.ireturn, 1) := by decide +kernel
theorem dX6_add_76 : decode cX6_add 76 = .ok (.aload_n 0, 1) := by decide +kernel
theorem dX6_add_77 : decode cX6_add 77 = .ok (.iload_n 1, 1) := by decide +kernel
theorem dX6_add_78 : decode cX6_add 78 = .ok (.iload_n 2, 1) := by decide +kernel
theorem dX6_add_79 : decode cX6_add 79 = .ok (.invokevirtual 124, 3) := by decide +kernel
theorem dX6_add_82 : decode cX6_add 82 = .ok (.aload_n 0, 1) := by decide +kernel
theorem dX6_add_83 : decode cX6_add 83 = .ok (.getfield 39, 3) := by decide +kernel
theorem dX6_add_86 : decode cX6_add 86 = .ok (.bipush 32, 2) := by decide +kernel
theorem dX6_add_88 : decode cX6_add 88 = .ok (.iload_n 1, 1) := by decide +kernel
theorem dX6_add_89 : decode cX6_add 89 = .ok (.imul, 1) := by decide +kernel
theorem dX6_add_90 : decode cX6_add 90 = .ok (.iload_n 2, 1) := by decide +kernel
theorem dX6_add_91 : decode cX6_add 91 = .ok (.iadd, 1) := by decide +kernel
theorem dX6_add_92 : decode cX6_add 92 = .ok (.iload 4, 2) := by decide +kernel
theorem dX6_add_94 : decode cX6_add 94 = .ok (.iastore, 1) := by decide +kernel
theorem dX6_add_95 : decode cX6_add 95 = .ok (.aload_n 0, 1) := by decide +kernel
theorem dX6_add_96 : decode cX6_add 96 = .ok (.iload_n 1, 1) := by decide +kernel
theorem dX6_add_97 : decode cX6_add 97 = .ok (.iconst 5, 1) := by decide +kernel
theorem dX6_add_98 : decode cX6_add 98 = .ok (.iload_n 2, 1) := by decide +kernel
theorem dX6_add_99 : decode cX6_add 99 = .ok (.iload_n 3, 1) := by decide +kernel
theorem dX6_add_100 : decode cX6_add 100 = .ok (.iconst 0, 1) := by decide +kernel
theorem dX6_add_101 : decode cX6_add 101 = .ok (.iload 4, 2) := by decide +kernel
theorem dX6_add_103 : decode cX6_add 103 = .ok (.invokevirtual 131, 3) := by decide +kernel
theorem dX6_add_106 : decode cX6_add 106 = .ok (.iload 4, 2) := by decide +kernel
theorem dX6_add_108 : decode cX6_add 108 = .ok (.ireturn, 1) := by decide +kernel
theorem dX6_touches_0 : decode cX6_touches 0 = .ok (.iload_n 2, 1) := by decide +kernel
theorem dX6_touches_1 : decode cX6_touches 1 = .ok (.aload_n 0, 1) := by decide +kernel
theorem dX6_touches_2 : decode cX6_touches 2 = .ok (.getfield 42, 3) := by decide +kernel
theorem dX6_touches_5 : decode cX6_touches 5 = .ok (.iload_n 1, 1) := by decide +kernel
theorem dX6_touches_6 : decode cX6_touches 6 = .ok (.iaload, 1) := by decide +kernel
theorem dX6_touches_7 : decode cX6_touches 7 = .ok (.aload_n 0, 1) := by decide +kernel
theorem dX6_touches_8 : decode cX6_touches 8 = .ok (.getfield 42, 3) := by decide +kernel
theorem dX6_touches_11 : decode cX6_touches 11 = .ok (.iload_n 1, 1) := by decide +kernel
theorem dX6_touches_12 : decode cX6_touches 12 = .ok (.iconst 1, 1) := by decide +kernel
theorem dX6_touches_13 : decode cX6_touches 13 = .ok (.iadd, 1) := by decide +kernel
theorem dX6_touches_14 : decode cX6_touches 14 = .ok (.iaload, 1) := by decide +kernel
theorem dX6_touches_15 : decode cX6_touches 15 = .ok (.invokestatic 81, 3) := by decide +kernel
theorem dX6_touches_18 : decode cX6_touches 18 = .ok (.ifCond .eq 32, 3) := by decide +kernel
theorem dX6_touches_21 : decode cX6_touches 21 = .ok (.iload_n 3, 1) := by decide +kernel
theorem dX6_touches_22 : decode cX6_touches 22 = .ok (.aload_n 0, 1) := by decide +kernel
theorem dX6_touches_23 : decode cX6_touches 23 = .ok (.getfield 42, 3) := by decide +kernel
theorem dX6_touches_26 : decode cX6_touches 26 = .ok (.iload_n 1, 1) := by decide +kernel
theorem dX6_touches_27 : decode cX6_touches 27 = .ok (.iconst 2, 1) := by decide +kernel
theorem dX6_touches_28 : decode cX6_touches 28 = .ok (.iadd, 1) := by decide +kernel
theorem dX6_touches_29 : decode cX6_touches 29 = .ok (.iaload, 1) := by decide +kernel
theorem dX6_touches_30 : decode cX6_touches 30 = .ok (.if_icmp .ge 16, 3) := by decide +kernel
theorem dX6_touches_33 : decode cX6_touches 33 = .ok (.iload 4, 2) := by decide +kernel
theorem dX6_touches_35 : decode cX6_touches 35 = .ok (.aload_n 0, 1) := by decide +kernel
theorem dX6_touches_36 : decode cX6_touches 36 = .ok (.getfield 42, 3) := by decide +kernel
theorem dX6_touches_39 : decode cX6_touches 39 = .ok (.iload_n 1, 1) := by decide +kernel
theorem dX6_touches_40 : decode cX6_touches 40 = .ok (.iconst 2, 1) := by decide +kernel
theorem dX6_touches_41 : decode cX6_touches 41 = .ok (.iadd, 1) := by decide +kernel
theorem dX6_touches_42 : decode cX6_touches 42 = .ok (.iaload, 1) := by decide +kernel
theorem dX6_touches_43 : decode cX6_touches 43 = .ok (.if_icmp .lt 7, 3) := by decide +kernel
theorem dX6_touches_46 : decode cX6_touches 46 = .ok (.iconst 1, 1) := by decide +kernel
theorem dX6_touches_47 : decode cX6_touches 47 = .ok (.goto 4, 3) := by decide +kernel
theorem dX6_touches_50 : decode cX6_touches 50 = .ok (.iconst 0, 1) := by decide +kernel
theorem dX6_touches_51 : decode cX6_touches 51 = .ok (.ireturn, 1) := by decide +kernel
theorem dX6_touchesAny_0 : decode cX6_touchesAny 0 = .ok (.iconst 0, 1) := by decide +kernel
theorem dX6_touchesAny_1 : decode cX6_touchesAny 1 = .ok (.istore 6, 2) := by decide +kernel
theorem dX6_touchesAny_3 : decode cX6_touchesAny 3 = .ok (.iconst 0, 1) := by decide +kernel
theorem dX6_touchesAny_4 : decode cX6_touchesAny 4 = .ok (.istore 7, 2) := by decide +kernel
theorem dX6_touchesAny_6 : decode cX6_touchesAny 6 = .ok (.iload 7, 2) := by decide +kernel
theorem dX6_touchesAny_8 : decode cX6_touchesAny 8 = .ok (.aload_n 0, 1) := by decide +kernel
theorem dX6_touchesAny_9 : decode cX6_touchesAny 9 = .ok (.getfield 45, 3) := by decide +kernel
theorem dX6_touchesAny_12 : decode cX6_touchesAny 12 = .ok (.iload_n 1, 1) := by decide +kernel
theorem dX6_touchesAny_13 : decode cX6_touchesAny 13 = .ok (.iaload, 1) := by decide +kernel
theorem dX6_touchesAny_14 : decode cX6_touchesAny 14 = .ok (.if_icmp .ge 59, 3) := by decide +kernel
theorem dX6_touchesAny_17 : decode cX6_touchesAny 17 = .ok (.iconst 4, 1) := by decide +kernel
theorem dX6_touchesAny_18 : decode cX6_touchesAny 18 = .ok (.bipush 24, 2) := by decide +kernel
theorem dX6_touchesAny_20 : decode cX6_touchesAny 20 = .ok (.iload_n 1, 1) := by decide +kernel
theorem dX6_touchesAny_21 : decode cX6_touchesAny 21 = .ok (.imul, 1) := by decide +kernel
theorem dX6_touchesAny_22 : decode cX6_touchesAny 22 = .ok (.iload 7, 2) := by decide +kernel
theorem dX6_touchesAny_24 : decode cX6_touchesAny 24 = .ok (.iadd, 1) := by decide +kernel
theorem dX6_touchesAny_25 : decode cX6_touchesAny 25 = .ok (.imul, 1) := by decide +kernel
theorem dX6_touchesAny_26 : decode cX6_touchesAny 26 = .ok (.istore 8, 2) := by decide +kernel
theorem dX6_touchesAny_28 : decode cX6_touchesAny 28 = .ok (.iload 6, 2) := by decide +kernel
theorem dX6_touchesAny_30 : decode cX6_touchesAny 30 = .ok (.ifCond .ne 30, 3) := by decide +kernel
theorem dX6_touchesAny_33 : decode cX6_touchesAny 33 = .ok (.aload_n 0, 1) := by decide +kernel
theorem dX6_touchesAny_34 : decode cX6_touchesAny 34 = .ok (.getfield 42, 3) := by decide +kernel
theorem dX6_touchesAny_37 : decode cX6_touchesAny 37 = .ok (.iload 8, 2) := by decide +kernel
theorem dX6_touchesAny_39 : decode cX6_touchesAny 39 = .ok (.iconst 3, 1) := by decide +kernel
theorem dX6_touchesAny_40 : decode cX6_touchesAny 40 = .ok (.iadd, 1) := by decide +kernel
theorem dX6_touchesAny_41 : decode cX6_touchesAny 41 = .ok (.iaload, 1) := by decide +kernel
theorem dX6_touchesAny_42 : decode cX6_touchesAny 42 = .ok (.iload_n 2, 1) := by decide +kernel
theorem dX6_touchesAny_43 : decode cX6_touchesAny 43 = .ok (.if_icmp .ge 21, 3) := by decide +kernel
theorem dX6_touchesAny_46 : decode cX6_touchesAny 46 = .ok (.aload_n 0, 1) := by decide +kernel
theorem dX6_touchesAny_47 : decode cX6_touchesAny 47 = .ok (.iload 8, 2) := by decide +kernel
theorem dX6_touchesAny_49 : decode cX6_touchesAny 49 = .ok (.iload_n 3, 1) := by decide +kernel
theorem dX6_touchesAny_50 : decode cX6_touchesAny 50 = .ok (.iload 4, 2) := by decide +kernel
theorem dX6_touchesAny_52 : decode cX6_touchesAny 52 = .ok (.iload 5, 2) := by decide +kernel
theorem dX6_touchesAny_54 : decode cX6_touchesAny 54 = .ok (.invokevirtual 154, 3) := by decide +kernel
theorem dX6_touchesAny_57 : decode cX6_touchesAny 57 = .ok (.ifCond .eq 7, 3) := by decide +kernel
theorem dX6_touchesAny_60 : decode cX6_touchesAny 60 = .ok (.iconst 1, 1) := by decide +kernel
theorem dX6_touchesAny_61 : decode cX6_touchesAny 61 = .ok (.goto 4, 3) := by decide +kernel
theorem dX6_touchesAny_64 : decode cX6_touchesAny 64 = .ok (.iconst 0, 1) := by decide +kernel
theorem dX6_touchesAny_65 : decode cX6_touchesAny 65 = .ok (.istore 6, 2) := by decide +kernel
theorem dX6_touchesAny_67 : decode cX6_touchesAny 67 = .ok (.iinc 7 1, 3) := by decide +kernel
theorem dX6_touchesAny_70 : decode cX6_touchesAny 70 = .ok (.goto (-64), 3) := by decide +kernel
theorem dX6_touchesAny_73 : decode cX6_touchesAny 73 = .ok (.iload 6, 2) := by decide +kernel
theorem dX6_touchesAny_75 : decode cX6_touchesAny 75 = .ok (.ireturn, 1) := by decide +kernel
theorem dX6_conflicts_0 : decode cX6_conflicts 0 = .ok (.iconst 0, 1) := by decide +kernel
theorem dX6_conflicts_1 : decode cX6_conflicts 1 = .ok (.istore_n 3, 1) := by decide +kernel
theorem dX6_conflicts_2 : decode cX6_conflicts 2 = .ok (.iconst 0, 1) := by decide +kernel
theorem dX6_conflicts_3 : decode cX6_conflicts 3 = .ok (.istore 4, 2) := by decide +kernel
theorem dX6_conflicts_5 : decode cX6_conflicts 5 = .ok (.iload 4, 2) := by decide +kernel
theorem dX6_conflicts_7 : decode cX6_conflicts 7 = .ok (.bipush 32, 2) := by decide +kernel
theorem dX6_conflicts_9 : decode cX6_conflicts 9 = .ok (.if_icmp .ge 81, 3) := by decide +kernel
theorem dX6_conflicts_12 : decode cX6_conflicts 12 = .ok (.aload_n 0, 1) := by decide +kernel
theorem dX6_conflicts_13 : decode cX6_conflicts 13 = .ok (.getfield 39, 3) := by decide +kernel
theorem dX6_conflicts_16 : decode cX6_conflicts 16 = .ok (.bipush 32, 2) := by decide +kernel
theorem dX6_conflicts_18 : decode cX6_conflicts 18 = .ok (.iload_n 1, 1) := by decide +kernel
theorem dX6_conflicts_19 : decode cX6_conflicts 19 = .ok (.imul, 1) := by decide +kernel
theorem dX6_conflicts_20 : decode cX6_conflicts 20 = .ok (.iload 4, 2) := by decide +kernel
theorem dX6_conflicts_22 : decode cX6_conflicts 22 = .ok (.iadd, 1) := by decide +kernel
theorem dX6_conflicts_23 : decode cX6_conflicts 23 = .ok (.iaload, 1) := by decide +kernel
theorem dX6_conflicts_24 : decode cX6_conflicts 24 = .ok (.istore 5, 2) := by decide +kernel
theorem dX6_conflicts_26 : decode cX6_conflicts 26 = .ok (.iload_n 3, 1) := by decide +kernel
theorem dX6_conflicts_27 : decode cX6_conflicts 27 = .ok (.ifCond .ne 51, 3) := by decide +kernel
theorem dX6_conflicts_30 : decode cX6_conflicts 30 = .ok (.iload 5, 2) := by decide +kernel
theorem dX6_conflicts_32 : decode cX6_conflicts 32 = .ok (.sipush (-5000), 3) := by decide +kernel
theorem dX6_conflicts_35 : decode cX6_conflicts 35 = .ok (.if_icmp .eq 47, 3) := by decide +kernel
theorem dX6_conflicts_38 : decode cX6_conflicts 38 = .ok (.aload_n 0, 1) := by decide +kernel
theorem dX6_conflicts_39 : decode cX6_conflicts 39 = .ok (.getfield 36, 3) := by decide +kernel
theorem dX6_conflicts_42 : decode cX6_conflicts 42 = .ok (.bipush 32, 2) := by decide +kernel
theorem dX6_conflicts_44 : decode cX6_conflicts 44 = .ok (.iload_n 2, 1) := by decide +kernel
theorem dX6_conflicts_45 : decode cX6_conflicts 45 = .ok (.imul, 1) := by decide +kernel
theorem dX6_conflicts_46 : decode cX6_conflicts 46 = .ok (.iload 4, 2) := by decide +kernel
theorem dX6_conflicts_48 : decode cX6_conflicts 48 = .ok (.iadd, 1) := by decide +kernel
theorem dX6_conflicts_49 : decode cX6_conflicts 49 = .ok (.iaload, 1) := by decide +kernel
theorem dX6_conflicts_50 : decode cX6_conflicts 50 = .ok (.iconst (-1), 1) := by decide +kernel
theorem dX6_conflicts_51 : decode cX6_conflicts 51 = .ok (.if_icmp .ne 27, 3) := by decide +kernel
theorem dX6_conflicts_54 : decode cX6_conflicts 54 = .ok (.aload_n 0, 1) := by decide +kernel
theorem dX6_conflicts_55 : decode cX6_conflicts 55 = .ok (.iload_n 2, 1) := by decide +kernel
theorem dX6_conflicts_56 : decode cX6_conflicts 56 = .ok (.bipush 61, 2) := by decide +kernel
theorem dX6_conflicts_58 : decode cX6_conflicts 58 = .ok (.iload 4, 2) := by decide +kernel
theorem dX6_conflicts_60 : decode cX6_conflicts 60 = .ok (.aload_n 0, 1) := by decide +kernel
theorem dX6_conflicts_61 : decode cX6_conflicts 61 = .ok (.aload_n 0, 1) := by decide +kernel
theorem dX6_conflicts_62 : decode cX6_conflicts 62 = .ok (.getfield 113, 3) := by decide +kernel
theorem dX6_conflicts_65 : decode cX6_conflicts 65 = .ok (.iload 4, 2) := by decide +kernel
theorem dX6_conflicts_67 : decode cX6_conflicts 67 = .ok (.invokevirtual 116, 3) := by decide +kernel
theorem dX6_conflicts_70 : decode cX6_conflicts 70 = .ok (.iload 5, 2) := by decide +kernel
theorem dX6_conflicts_72 : decode cX6_conflicts 72 = .ok (.invokevirtual 158, 3) := by decide +kernel
theorem dX6_conflicts_75 : decode cX6_conflicts 75 = .ok (.ifCond .eq 7, 3) := by decide +kernel
theorem dX6_conflicts_78 : decode cX6_conflicts 78 = .ok (.iconst 1, 1) := by decide +kernel
theorem dX6_conflicts_79 : decode cX6_conflicts 79 = .ok (.goto 4, 3) := by decide +kernel
theorem dX6_conflicts_82 : decode cX6_conflicts 82 = .ok (.iconst 0, 1) := by decide +kernel
theorem dX6_conflicts_83 : decode cX6_conflicts 83 = .ok (.istore_n 3, 1) := by decide +kernel
theorem dX6_conflicts_84 : decode cX6_conflicts 84 = .ok (.iinc 4 1, 3) := by decide +kernel
theorem dX6_conflicts_87 : decode cX6_conflicts 87 = .ok (.goto (-82), 3) := by decide +kernel
theorem dX6_conflicts_90 : decode cX6_conflicts 90 = .ok (.iload_n 3, 1) := by decide +kernel
theorem dX6_conflicts_91 : decode cX6_conflicts 91 = .ok (.ireturn, 1) := by decide +kernel
theorem dX6_isRival_0 : decode cX6_isRival 0 = .ok (.iload_n 2, 1) := by decide +kernel
theorem dX6_isRival_1 : decode cX6_isRival 1 = .ok (.iload_n 1, 1) := by decide +kernel
theorem dX6_isRival_2 : decode cX6_isRival 2 = .ok (.if_icmp .eq 25, 3) := by decide +kernel
theorem dX6_isRival_5 : decode cX6_isRival 5 = .ok (.aload_n 0, 1) := by decide +kernel
theorem dX6_isRival_6 : decode cX6_isRival 6 = .ok (.getfield 13, 3) := by decide +kernel
theorem dX6_isRival_9 : decode cX6_isRival 9 = .ok (.iload_n 2, 1) := by decide +kernel
theorem dX6_isRival_10 : decode cX6_isRival 10 = .ok (.iaload, 1) := by decide +kernel
theorem dX6_isRival_11 : decode cX6_isRival 11 = .ok (.ifCond .ne 16, 3) := by decide +kernel
theorem dX6_isRival_14 : decode cX6_isRival 14 = .ok (.aload_n 0, 1) := by decide +kernel
theorem dX6_isRival_15 : decode cX6_isRival 15 = .ok (.iload_n 1, 1) := by decide +kernel
theorem dX6_isRival_16 : decode cX6_isRival 16 = .ok (.iload_n 2, 1) := by decide +kernel
theorem dX6_isRival_17 : decode cX6_isRival 17 = .ok (.invokevirtual 162, 3) := by decide +kernel
theorem dX6_isRival_20 : decode cX6_isRival 20 = .ok (.ifCond .eq 7, 3) := by decide +kernel
theorem dX6_isRival_23 : decode cX6_isRival 23 = .ok (.iconst 1, 1) := by decide +kernel
theorem dX6_isRival_24 : decode cX6_isRival 24 = .ok (.goto 4, 3) := by decide +kernel
theorem dX6_isRival_27 : decode cX6_isRival 27 = .ok (.iconst 0, 1) := by decide +kernel
theorem dX6_isRival_28 : decode cX6_isRival 28 = .ok (.ireturn, 1) := by decide +kernel
theorem dX6_countRivals_0 : decode cX6_countRivals 0 = .ok (.iconst 0, 1) := by decide +kernel
theorem dX6_countRivals_1 : decode cX6_countRivals 1 = .ok (.istore_n 2, 1) := by decide +kernel
theorem dX6_countRivals_2 : decode cX6_countRivals 2 = .ok (.iconst 0, 1) := by decide +kernel
theorem dX6_countRivals_3 : decode cX6_countRivals 3 = .ok (.istore_n 3, 1) := by decide +kernel
theorem dX6_countRivals_4 : decode cX6_countRivals 4 = .ok (.iload_n 3, 1) := by decide +kernel
theorem dX6_countRivals_5 : decode cX6_countRivals 5 = .ok (.aload_n 0, 1) := by decide +kernel
theorem dX6_countRivals_6 : decode cX6_countRivals 6 = .ok (.getfield 78, 3) := by decide +kernel
theorem dX6_countRivals_9 : decode cX6_countRivals 9 = .ok (.if_icmp .ge 26, 3) := by decide +kernel
theorem dX6_countRivals_12 : decode cX6_countRivals 12 = .ok (.iload_n 2, 1) := by decide +kernel
theorem dX6_countRivals_13 : decode cX6_countRivals 13 = .ok (.aload_n 0, 1) := by decide +kernel
theorem dX6_countRivals_14 : decode cX6_countRivals 14 = .ok (.iload_n 1, 1) := by decide +kernel
theorem dX6_countRivals_15 : decode cX6_countRivals 15 = .ok (.iload_n 3, 1) := by decide +kernel
theorem dX6_countRivals_16 : decode cX6_countRivals 16 = .ok (.invokevirtual 165, 3) := by decide +kernel
theorem dX6_countRivals_19 : decode cX6_countRivals 19 = .ok (.ifCond .eq 7, 3) := by decide +kernel
theorem dX6_countRivals_22 : decode cX6_countRivals 22 = .ok (.iconst 1, 1) := by decide +kernel
theorem dX6_countRivals_23 : decode cX6_countRivals 23 = .ok (.goto 4, 3) := by decide +kernel
theorem dX6_countRivals_26 : decode cX6_countRivals 26 = .ok (.iconst 0, 1) := by decide +kernel
theorem dX6_countRivals_27 : decode cX6_countRivals 27 = .ok (.iadd, 1) := by decide +kernel
theorem dX6_countRivals_28 : decode cX6_countRivals 28 = .ok (.istore_n 2, 1) := by decide +kernel
theorem dX6_countRivals_29 : decode cX6_countRivals 29 = .ok (.iinc 3 1, 3) := by decide +kernel
theorem dX6_countRivals_32 : decode cX6_countRivals 32 = .ok (.goto (-28), 3) := by decide +kernel
theorem dX6_countRivals_35 : decode cX6_countRivals 35 = .ok (.iload_n 2, 1) := by decide +kernel
theorem dX6_countRivals_36 : decode cX6_countRivals 36 = .ok (.ireturn, 1) := by decide +kernel
theorem dX6_hasWritten_0 : decode cX6_hasWritten 0 = .ok (.aload_n 0, 1) := by decide +kernel
theorem dX6_hasWritten_1 : decode cX6_hasWritten 1 = .ok (.getfield 39, 3) := by decide +kernel
theorem dX6_hasWritten_4 : decode cX6_hasWritten 4 = .ok (.bipush 32, 2) := by decide +kernel
theorem dX6_hasWritten_6 : decode cX6_hasWritten 6 = .ok (.aload_n 0, 1) := by decide +kernel
theorem dX6_hasWritten_7 : decode cX6_hasWritten 7 = .ok (.getfield 54, 3) := by decide +kernel
theorem dX6_hasWritten_10 : decode cX6_hasWritten 10 = .ok (.iload_n 1, 1) := by decide +kernel
theorem dX6_hasWritten_11 : decode cX6_hasWritten 11 = .ok (.iaload, 1) := by decide +kernel
theorem dX6_hasWritten_12 : decode cX6_hasWritten 12 = .ok (.imul, 1) := by decide +kernel
theorem dX6_hasWritten_13 : decode cX6_hasWritten 13 = .ok (.iload_n 2, 1) := by decide +kernel
theorem dX6_hasWritten_14 : decode cX6_hasWritten 14 = .ok (.iadd, 1) := by decide +kernel
theorem dX6_hasWritten_15 : decode cX6_hasWritten 15 = .ok (.iaload, 1) := by decide +kernel
theorem dX6_hasWritten_16 : decode cX6_hasWritten 16 = .ok (.sipush (-5000), 3) := by decide +kernel
theorem dX6_hasWritten_19 : decode cX6_hasWritten 19 = .ok (.if_icmp .eq 7, 3) := by decide +kernel
theorem dX6_hasWritten_22 : decode cX6_hasWritten 22 = .ok (.iconst 1, 1) := by decide +kernel
theorem dX6_hasWritten_23 : decode cX6_hasWritten 23 = .ok (.goto 4, 3) := by decide +kernel
theorem dX6_hasWritten_26 : decode cX6_hasWritten 26 = .ok (.iconst 0, 1) := by decide +kernel
theorem dX6_hasWritten_27 : decode cX6_hasWritten 27 = .ok (.ireturn, 1) := by decide +kernel
theorem dX6_staleness_0 : decode cX6_staleness 0 = .ok (.iconst 0, 1) := by decide +kernel
theorem dX6_staleness_1 : decode cX6_staleness 1 = .ok (.istore_n 2, 1) := by decide +kernel
theorem dX6_staleness_2 : decode cX6_staleness 2 = .ok (.iconst 0, 1) := by decide +kernel
theorem dX6_staleness_3 : decode cX6_staleness 3 = .ok (.istore_n 3, 1) := by decide +kernel
theorem dX6_staleness_4 : decode cX6_staleness 4 = .ok (.iconst 1, 1) := by decide +kernel
theorem dX6_staleness_5 : decode cX6_staleness 5 = .ok (.istore 4, 2) := by decide +kernel
theorem dX6_staleness_7 : decode cX6_staleness 7 = .ok (.iload 4, 2) := by decide +kernel
theorem dX6_staleness_9 : decode cX6_staleness 9 = .ok (.aload_n 0, 1) := by decide +kernel
theorem dX6_staleness_10 : decode cX6_staleness 10 = .ok (.getfield 113, 3) := by decide +kernel
theorem dX6_staleness_13 : decode cX6_staleness 13 = .ok (.if_icmp .gt 122, 3) := by decide +kernel
theorem dX6_staleness_16 : decode cX6_staleness 16 = .ok (.iconst 0, 1) := by decide +kernel
theorem dX6_staleness_17 : decode cX6_staleness 17 = .ok (.istore 5, 2) := by decide +kernel
theorem dX6_staleness_19 : decode cX6_staleness 19 = .ok (.iload 5, 2) := by decide +kernel
theorem dX6_staleness_21 : decode cX6_staleness 21 = .ok (.bipush 32, 2) := by decide +kernel
theorem dX6_staleness_23 : decode cX6_staleness 23 = .ok (.if_icmp .ge 106, 3) := by decide +kernel
theorem dX6_staleness_26 : decode cX6_staleness 26 = .ok (.aload_n 0, 1) := by decide +kernel
theorem dX6_staleness_27 : decode cX6_staleness 27 = .ok (.getfield 36, 3) := by decide +kernel
theorem dX6_staleness_30 : decode cX6_staleness 30 = .ok (.bipush 32, 2) := by decide +kernel
theorem dX6_staleness_32 : decode cX6_staleness 32 = .ok (.iload_n 1, 1) := by decide +kernel
theorem dX6_staleness_33 : decode cX6_staleness 33 = .ok (.imul, 1) := by decide +kernel
theorem dX6_staleness_34 : decode cX6_staleness 34 = .ok (.iload 5, 2) := by decide +kernel
theorem dX6_staleness_36 : decode cX6_staleness 36 = .ok (.iadd, 1) := by decide +kernel
theorem dX6_staleness_37 : decode cX6_staleness 37 = .ok (.iaload, 1) := by decide +kernel
theorem dX6_staleness_38 : decode cX6_staleness 38 = .ok (.istore 6, 2) := by decide +kernel
theorem dX6_staleness_40 : decode cX6_staleness 40 = .ok (.aload_n 0, 1) := by decide +kernel
theorem dX6_staleness_41 : decode cX6_staleness 41 = .ok (.iload 4, 2) := by decide +kernel
theorem dX6_staleness_43 : decode cX6_staleness 43 = .ok (.iload 5, 2) := by decide +kernel
theorem dX6_staleness_45 : decode cX6_staleness 45 = .ok (.invokevirtual 168, 3) := by decide +kernel
theorem dX6_staleness_48 : decode cX6_staleness 48 = .ok (.istore 7, 2) := by decide +kernel
theorem dX6_staleness_50 : decode cX6_staleness 50 = .ok (.iload_n 3, 1) := by decide +kernel
theorem dX6_staleness_51 : decode cX6_staleness 51 = .ok (.ifCond .ne 21, 3) := by decide +kernel
theorem dX6_staleness_54 : decode cX6_staleness 54 = .ok (.iload 7, 2) := by decide +kernel
theorem dX6_staleness_56 : decode cX6_staleness 56 = .ok (.ifCond .eq 20, 3) := by decide +kernel
theorem dX6_staleness_59 : decode cX6_staleness 59 = .ok (.iload 6, 2) := by decide +kernel
theorem dX6_staleness_61 : decode cX6_staleness 61 = .ok (.iconst (-1), 1) := by decide +kernel
theorem dX6_staleness_62 : decode cX6_staleness 62 = .ok (.if_icmp .eq 14, 3) := by decide +kernel
theorem dX6_staleness_65 : decode cX6_staleness 65 = .ok (.iload 6, 2) := by decide +kernel
theorem dX6_staleness_67 : decode cX6_staleness 67 = .ok (.iload 4, 2) := by decide +kernel
theorem dX6_staleness_69 : decode cX6_staleness 69 = .ok (.if_icmp .ge 7, 3) := by decide +kernel
theorem dX6_staleness_72 : decode cX6_staleness 72 = .ok (.iconst 1, 1) := by decide +kernel
theorem dX6_staleness_73 : decode cX6_staleness 73 = .ok (.goto 4, 3) := by decide +kernel
theorem dX6_staleness_76 : decode cX6_staleness 76 = .ok (.iconst 0, 1) := by decide +kernel
theorem dX6_staleness_77 : decode cX6_staleness 77 = .ok (.istore_n 3, 1) := by decide +kernel
theorem dX6_staleness_78 : decode cX6_staleness 78 = .ok (.iload_n 2, 1) := by decide +kernel
theorem dX6_staleness_79 : decode cX6_staleness 79 = .ok (.ifCond .ne 38, 3) := by decide +kernel
theorem dX6_staleness_82 : decode cX6_staleness 82 = .ok (.iload 7, 2) := by decide +kernel
theorem dX6_staleness_84 : decode cX6_staleness 84 = .ok (.ifCond .eq 37, 3) := by decide +kernel
theorem dX6_staleness_87 : decode cX6_staleness 87 = .ok (.aload_n 0, 1) := by decide +kernel
theorem dX6_staleness_88 : decode cX6_staleness 88 = .ok (.iload_n 1, 1) := by decide +kernel
theorem dX6_staleness_89 : decode cX6_staleness 89 = .ok (.iload 4, 2) := by decide +kernel
theorem dX6_staleness_91 : decode cX6_staleness 91 = .ok (.iload 5, 2) := by decide +kernel
theorem dX6_staleness_93 : decode cX6_staleness 93 = .ok (.aload_n 0, 1) := by decide +kernel
theorem dX6_staleness_94 : decode cX6_staleness 94 = .ok (.iload 4, 2) := by decide +kernel
theorem dX6_staleness_96 : decode cX6_staleness 96 = .ok (.iconst 1, 1) := by decide +kernel
theorem dX6_staleness_97 : decode cX6_staleness 97 = .ok (.isub, 1) := by decide +kernel
theorem dX6_staleness_98 : decode cX6_staleness 98 = .ok (.iload 5, 2) := by decide +kernel
theorem dX6_staleness_100 : decode cX6_staleness 100 = .ok (.invokevirtual 116, 3) := by decide +kernel
theorem dX6_staleness_103 : decode cX6_staleness 103 = .ok (.aload_n 0, 1) := by decide +kernel
theorem dX6_staleness_104 : decode cX6_staleness 104 = .ok (.iload 4, 2) := by decide +kernel
theorem dX6_staleness_106 : decode cX6_staleness 106 = .ok (.iload 5, 2) := by decide +kernel
theorem dX6_staleness_108 : decode cX6_staleness 108 = .ok (.invokevirtual 116, 3) := by decide +kernel
theorem dX6_staleness_111 : decode cX6_staleness 111 = .ok (.invokevirtual 158, 3) := by decide +kernel
theorem dX6_staleness_114 : decode cX6_staleness 114 = .ok (.ifCond .eq 7, 3) := by decide +kernel
theorem dX6_staleness_117 : decode cX6_staleness 117 = .ok (.iconst 1, 1) := by decide +kernel
theorem dX6_staleness_118 : decode cX6_staleness 118 = .ok (.goto 4, 3) := by decide +kernel
theorem dX6_staleness_121 : decode cX6_staleness 121 = .ok (.iconst 0, 1) := by decide +kernel
theorem dX6_staleness_122 : decode cX6_staleness 122 = .ok (.istore_n 2, 1) := by decide +kernel
theorem dX6_staleness_123 : decode cX6_staleness 123 = .ok (.iinc 5 1, 3) := by decide +kernel
theorem dX6_staleness_126 : decode cX6_staleness 126 = .ok (.goto (-107), 3) := by decide +kernel
theorem dX6_staleness_129 : decode cX6_staleness 129 = .ok (.iinc 4 1, 3) := by decide +kernel
theorem dX6_staleness_132 : decode cX6_staleness 132 = .ok (.goto (-125), 3) := by decide +kernel
theorem dX6_staleness_135 : decode cX6_staleness 135 = .ok (.iload_n 3, 1) := by decide +kernel
theorem dX6_staleness_136 : decode cX6_staleness 136 = .ok (.ifCond .eq 7, 3) := by decide +kernel
theorem dX6_staleness_139 : decode cX6_staleness 139 = .ok (.iconst 1, 1) := by decide +kernel
theorem dX6_staleness_140 : decode cX6_staleness 140 = .ok (.goto 12, 3) := by decide +kernel
theorem dX6_staleness_143 : decode cX6_staleness 143 = .ok (.iload_n 2, 1) := by decide +kernel
theorem dX6_staleness_144 : decode cX6_staleness 144 = .ok (.ifCond .eq 7, 3) := by decide +kernel
theorem dX6_staleness_147 : decode cX6_staleness 147 = .ok (.iconst 2, 1) := by decide +kernel
theorem dX6_staleness_148 : decode cX6_staleness 148 = .ok (.goto 4, 3) := by decide +kernel
theorem dX6_staleness_151 : decode cX6_staleness 151 = .ok (.iconst 0, 1) := by decide +kernel
theorem dX6_staleness_152 : decode cX6_staleness 152 = .ok (.ireturn, 1) := by decide +kernel
theorem dX6_activeProblem_0 : decode cX6_activeProblem 0 = .ok (.aload_n 0, 1) := by decide +kernel
theorem dX6_activeProblem_1 : decode cX6_activeProblem 1 = .ok (.iload_n 1, 1) := by decide +kernel
theorem dX6_activeProblem_2 : decode cX6_activeProblem 2 = .ok (.invokevirtual 110, 3) := by decide +kernel
theorem dX6_activeProblem_5 : decode cX6_activeProblem 5 = .ok (.ifCond .ne 7, 3) := by decide +kernel
theorem dX6_activeProblem_8 : decode cX6_activeProblem 8 = .ok (.iconst 1, 1) := by decide +kernel
theorem dX6_activeProblem_9 : decode cX6_activeProblem 9 = .ok (.goto 17, 3) := by decide +kernel
theorem dX6_activeProblem_12 : decode cX6_activeProblem 12 = .ok (.aload_n 0, 1) := by decide +kernel
theorem dX6_activeProblem_13 : decode cX6_activeProblem 13 = .ok (.getfield 13, 3) := by decide +kernel
theorem dX6_activeProblem_16 : decode cX6_activeProblem 16 = .ok (.iload_n 1, 1) := by decide +kernel
theorem dX6_activeProblem_17 : decode cX6_activeProblem 17 = .ok (.iaload, 1) := by decide +kernel
theorem dX6_activeProblem_18 : decode cX6_activeProblem 18 = .ok (.ifCond .eq 7, 3) := by decide +kernel
theorem dX6_activeProblem_21 : decode cX6_activeProblem 21 = .ok (.iconst 2, 1) := by decide +kernel
theorem dX6_activeProblem_22 : decode cX6_activeProblem 22 = .ok (.goto 4, 3) := by decide +kernel
theorem dX6_activeProblem_25 : decode cX6_activeProblem 25 = .ok (.iconst 0, 1) := by decide +kernel
theorem dX6_activeProblem_26 : decode cX6_activeProblem 26 = .ok (.ireturn, 1) := by decide +kernel
theorem dX6_isStale_0 : decode cX6_isStale 0 = .ok (.aload_n 0, 1) := by decide +kernel
theorem dX6_isStale_1 : decode cX6_isStale 1 = .ok (.aload_n 0, 1) := by decide +kernel
theorem dX6_isStale_2 : decode cX6_isStale 2 = .ok (.iload_n 1, 1) := by decide +kernel
theorem dX6_isStale_3 : decode cX6_isStale 3 = .ok (.invokevirtual 171, 3) := by decide +kernel
theorem dX6_isStale_6 : decode cX6_isStale 6 = .ok (.putfield 1, 3) := by decide +kernel
theorem dX6_isStale_9 : decode cX6_isStale 9 = .ok (.aload_n 0, 1) := by decide +kernel
theorem dX6_isStale_10 : decode cX6_isStale 10 = .ok (.getfield 1, 3) := by decide +kernel
theorem dX6_isStale_13 : decode cX6_isStale 13 = .ok (.ifCond .ne 15, 3) := by decide +kernel
theorem dX6_isStale_16 : decode cX6_isStale 16 = .ok (.aload_n 0, 1) := by decide +kernel
theorem dX6_isStale_17 : decode cX6_isStale 17 = .ok (.iload_n 1, 1) := by decide +kernel
theorem dX6_isStale_18 : decode cX6_isStale 18 = .ok (.invokevirtual 174, 3) := by decide +kernel
theorem dX6_isStale_21 : decode cX6_isStale 21 = .ok (.ifCond .le 7, 3) := by decide +kernel
theorem dX6_isStale_24 : decode cX6_isStale 24 = .ok (.iconst 1, 1) := by decide +kernel
theorem dX6_isStale_25 : decode cX6_isStale 25 = .ok (.goto 4, 3) := by decide +kernel
theorem dX6_isStale_28 : decode cX6_isStale 28 = .ok (.iconst 0, 1) := by decide +kernel
theorem dX6_isStale_29 : decode cX6_isStale 29 = .ok (.ireturn, 1) := by decide +kernel
theorem dX6_rivals_0 : decode cX6_rivals 0 = .ok (.aload_n 0, 1) := by decide +kernel
theorem dX6_rivals_1 : decode cX6_rivals 1 = .ok (.aload_n 0, 1) := by decide +kernel
theorem dX6_rivals_2 : decode cX6_rivals 2 = .ok (.iload_n 1, 1) := by decide +kernel
theorem dX6_rivals_3 : decode cX6_rivals 3 = .ok (.invokevirtual 171, 3) := by decide +kernel
theorem dX6_rivals_6 : decode cX6_rivals 6 = .ok (.putfield 1, 3) := by decide +kernel
theorem dX6_rivals_9 : decode cX6_rivals 9 = .ok (.aload_n 0, 1) := by decide +kernel
theorem dX6_rivals_10 : decode cX6_rivals 10 = .ok (.getfield 1, 3) := by decide +kernel
theorem dX6_rivals_13 : decode cX6_rivals 13 = .ok (.ifCond .ne 11, 3) := by decide +kernel
theorem dX6_rivals_16 : decode cX6_rivals 16 = .ok (.aload_n 0, 1) := by decide +kernel
theorem dX6_rivals_17 : decode cX6_rivals 17 = .ok (.iload_n 1, 1) := by decide +kernel
theorem dX6_rivals_18 : decode cX6_rivals 18 = .ok (.invokevirtual 177, 3) := by decide +kernel
theorem dX6_rivals_21 : decode cX6_rivals 21 = .ok (.goto 4, 3) := by decide +kernel
theorem dX6_rivals_24 : decode cX6_rivals 24 = .ok (.iconst 0, 1) := by decide +kernel
theorem dX6_rivals_25 : decode cX6_rivals 25 = .ok (.ireturn, 1) := by decide +kernel
theorem dX6_endWith_0 : decode cX6_endWith 0 = .ok (.aload_n 0, 1) := by decide +kernel
theorem dX6_endWith_1 : decode cX6_endWith 1 = .ok (.getfield 13, 3) := by decide +kernel
theorem dX6_endWith_4 : decode cX6_endWith 4 = .ok (.iload_n 1, 1) := by decide +kernel
theorem dX6_endWith_5 : decode cX6_endWith 5 = .ok (.iconst 2, 1) := by decide +kernel
theorem dX6_endWith_6 : decode cX6_endWith 6 = .ok (.iastore, 1) := by decide +kernel
theorem dX6_endWith_7 : decode cX6_endWith 7 = .ok (.aload_n 0, 1) := by decide +kernel
theorem dX6_endWith_8 : decode cX6_endWith 8 = .ok (.getfield 20, 3) := by decide +kernel
theorem dX6_endWith_11 : decode cX6_endWith 11 = .ok (.iload_n 1, 1) := by decide +kernel
theorem dX6_endWith_12 : decode cX6_endWith 12 = .ok (.iload_n 2, 1) := by decide +kernel
theorem dX6_endWith_13 : decode cX6_endWith 13 = .ok (.iastore, 1) := by decide +kernel
theorem dX6_endWith_14 : decode cX6_endWith 14 = .ok (.aload_n 0, 1) := by decide +kernel
theorem dX6_endWith_15 : decode cX6_endWith 15 = .ok (.aload_n 0, 1) := by decide +kernel
theorem dX6_endWith_16 : decode cX6_endWith 16 = .ok (.getfield 48, 3) := by decide +kernel
theorem dX6_endWith_19 : decode cX6_endWith 19 = .ok (.iload_n 1, 1) := by decide +kernel
theorem dX6_endWith_20 : decode cX6_endWith 20 = .ok (.if_icmp .ne 7, 3) := by decide +kernel
theorem dX6_endWith_23 : decode cX6_endWith 23 = .ok (.iconst (-1), 1) := by decide +kernel
theorem dX6_endWith_24 : decode cX6_endWith 24 = .ok (.goto 7, 3) := by decide +kernel
theorem dX6_endWith_27 : decode cX6_endWith 27 = .ok (.aload_n 0, 1) := by decide +kernel
theorem dX6_endWith_28 : decode cX6_endWith 28 = .ok (.getfield 48, 3) := by decide +kernel
theorem dX6_endWith_31 : decode cX6_endWith 31 = .ok (.putfield 48, 3) := by decide +kernel
theorem dX6_endWith_34 : decode cX6_endWith 34 = .ok (.return_, 1) := by decide +kernel
theorem dX6_loses_0 : decode cX6_loses 0 = .ok (.aload_n 0, 1) := by decide +kernel
theorem dX6_loses_1 : decode cX6_loses 1 = .ok (.getfield 96, 3) := by decide +kernel
theorem dX6_loses_4 : decode cX6_loses 4 = .ok (.ifCond .ne 7, 3) := by decide +kernel
theorem dX6_loses_7 : decode cX6_loses 7 = .ok (.iconst 1, 1) := by decide +kernel
theorem dX6_loses_8 : decode cX6_loses 8 = .ok (.goto 4, 3) := by decide +kernel
theorem dX6_loses_11 : decode cX6_loses 11 = .ok (.iconst 0, 1) := by decide +kernel
theorem dX6_loses_12 : decode cX6_loses 12 = .ok (.istore_n 2, 1) := by decide +kernel
theorem dX6_loses_13 : decode cX6_loses 13 = .ok (.iconst 0, 1) := by decide +kernel
theorem dX6_loses_14 : decode cX6_loses 14 = .ok (.istore_n 3, 1) := by decide +kernel
theorem dX6_loses_15 : decode cX6_loses 15 = .ok (.iload_n 3, 1) := by decide +kernel
theorem dX6_loses_16 : decode cX6_loses 16 = .ok (.aload_n 0, 1) := by decide +kernel
theorem dX6_loses_17 : decode cX6_loses 17 = .ok (.getfield 78, 3) := by decide +kernel
theorem dX6_loses_20 : decode cX6_loses 20 = .ok (.if_icmp .ge 51, 3) := by decide +kernel
theorem dX6_loses_23 : decode cX6_loses 23 = .ok (.iload_n 2, 1) := by decide +kernel
theorem dX6_loses_24 : decode cX6_loses 24 = .ok (.ifCond .ne 35, 3) := by decide +kernel
theorem dX6_loses_27 : decode cX6_loses 27 = .ok (.aload_n 0, 1) := by decide +kernel
theorem dX6_loses_28 : decode cX6_loses 28 = .ok (.getfield 96, 3) := by decide +kernel
theorem dX6_loses_31 : decode cX6_loses 31 = .ok (.iconst 2, 1) := by decide +kernel
theorem dX6_loses_32 : decode cX6_loses 32 = .ok (.if_icmp .ne 31, 3) := by decide +kernel
theorem dX6_loses_35 : decode cX6_loses 35 = .ok (.aload_n 0, 1) := by decide +kernel
theorem dX6_loses_36 : decode cX6_loses 36 = .ok (.iload_n 1, 1) := by decide +kernel
theorem dX6_loses_37 : decode cX6_loses 37 = .ok (.iload_n 3, 1) := by decide +kernel
theorem dX6_loses_38 : decode cX6_loses 38 = .ok (.invokevirtual 165, 3) := by decide +kernel
theorem dX6_loses_41 : decode cX6_loses 41 = .ok (.ifCond .eq 22, 3) := by decide +kernel
theorem dX6_loses_44 : decode cX6_loses 44 = .ok (.aload_n 0, 1) := by decide +kernel
theorem dX6_loses_45 : decode cX6_loses 45 = .ok (.getfield 30, 3) := by decide +kernel
theorem dX6_loses_48 : decode cX6_loses 48 = .ok (.iload_n 3, 1) := by decide +kernel
theorem dX6_loses_49 : decode cX6_loses 49 = .ok (.iaload, 1) := by decide +kernel
theorem dX6_loses_50 : decode cX6_loses 50 = .ok (.aload_n 0, 1) := by decide +kernel
theorem dX6_loses_51 : decode cX6_loses 51 = .ok (.getfield 30, 3) := by decide +kernel
theorem dX6_loses_54 : decode cX6_loses 54 = .ok (.iload_n 1, 1) := by decide +kernel
theorem dX6_loses_55 : decode cX6_loses 55 = .ok (.iaload, 1) := by decide +kernel
theorem dX6_loses_56 : decode cX6_loses 56 = .ok (.if_icmp .le 7, 3) := by decide +kernel
theorem dX6_loses_59 : decode cX6_loses 59 = .ok (.iconst 1, 1) := by decide +kernel
theorem dX6_loses_60 : decode cX6_loses 60 = .ok (.goto 4, 3) := by decide +kernel
theorem dX6_loses_63 : decode cX6_loses 63 = .ok (.iconst 0, 1) := by decide +kernel
theorem dX6_loses_64 : decode cX6_loses 64 = .ok (.istore_n 2, 1) := by decide +kernel
theorem dX6_loses_65 : decode cX6_loses 65 = .ok (.iinc 3 1, 3) := by decide +kernel
theorem dX6_loses_68 : decode cX6_loses 68 = .ok (.goto (-53), 3) := by decide +kernel
theorem dX6_loses_71 : decode cX6_loses 71 = .ok (.iload_n 2, 1) := by decide +kernel
theorem dX6_loses_72 : decode cX6_loses 72 = .ok (.ireturn, 1) := by decide +kernel
theorem dX6_isViolated_0 : decode cX6_isViolated 0 = .ok (.iconst 4, 1) := by decide +kernel
theorem dX6_isViolated_1 : decode cX6_isViolated 1 = .ok (.iload_n 1, 1) := by decide +kernel
theorem dX6_isViolated_2 : decode cX6_isViolated 2 = .ok (.imul, 1) := by decide +kernel
theorem dX6_isViolated_3 : decode cX6_isViolated 3 = .ok (.istore_n 3, 1) := by decide +kernel
theorem dX6_isViolated_4 : decode cX6_isViolated 4 = .ok (.iconst 0, 1) := by decide +kernel
theorem dX6_isViolated_5 : decode cX6_isViolated 5 = .ok (.istore 4, 2) := by decide +kernel
theorem dX6_isViolated_7 : decode cX6_isViolated 7 = .ok (.iconst 0, 1) := by decide +kernel
theorem dX6_isViolated_8 : decode cX6_isViolated 8 = .ok (.istore 5, 2) := by decide +kernel
theorem dX6_isViolated_10 : decode cX6_isViolated 10 = .ok (.aload_n 0, 1) := by decide +kernel
theorem dX6_isViolated_11 : decode cX6_isViolated 11 = .ok (.getfield 60, 3) := by decide +kernel
theorem dX6_isViolated_14 : decode cX6_isViolated 14 = .ok (.iload_n 3, 1) := by decide +kernel
theorem dX6_isViolated_15 : decode cX6_isViolated 15 = .ok (.iconst 1, 1) := by decide +kernel
theorem dX6_isViolated_16 : decode cX6_isViolated 16 = .ok (.iadd, 1) := by decide +kernel
theorem dX6_isViolated_17 : decode cX6_isViolated 17 = .ok (.iaload, 1) := by decide +kernel
theorem dX6_isViolated_18 : decode cX6_isViolated 18 = .ok (.istore 6, 2) := by decide +kernel
theorem dX6_isViolated_20 : decode cX6_isViolated 20 = .ok (.iload 6, 2) := by decide +kernel
theorem dX6_isViolated_22 : decode cX6_isViolated 22 = .ok (.aload_n 0, 1) := by decide +kernel
theorem dX6_isViolated_23 : decode cX6_isViolated 23 = .ok (.getfield 60, 3) := by decide +kernel
theorem dX6_isViolated_26 : decode cX6_isViolated 26 = .ok (.iload_n 3, 1) := by decide +kernel
theorem dX6_isViolated_27 : decode cX6_isViolated 27 = .ok (.iconst 2, 1) := by decide +kernel
theorem dX6_isViolated_28 : decode cX6_isViolated 28 = .ok (.iadd, 1) := by decide +kernel
theorem dX6_isViolated_29 : decode cX6_isViolated 29 = .ok (.iaload, 1) := by decide +kernel
theorem dX6_isViolated_30 : decode cX6_isViolated 30 = .ok (.if_icmp .gt 73, 3) := by decide +kernel
theorem dX6_isViolated_33 : decode cX6_isViolated 33 = .ok (.iload_n 2, 1) := by decide +kernel
theorem dX6_isViolated_34 : decode cX6_isViolated 34 = .ok (.iconst (-1), 1) := by decide +kernel
theorem dX6_isViolated_35 : decode cX6_isViolated 35 = .ok (.if_icmp .ne 16, 3) := by decide +kernel
theorem dX6_isViolated_38 : decode cX6_isViolated 38 = .ok (.aload_n 0, 1) := by decide +kernel
theorem dX6_isViolated_39 : decode cX6_isViolated 39 = .ok (.aload_n 0, 1) := by decide +kernel
theorem dX6_isViolated_40 : decode cX6_isViolated 40 = .ok (.getfield 113, 3) := by decide +kernel
theorem dX6_isViolated_43 : decode cX6_isViolated 43 = .ok (.iload 6, 2) := by decide +kernel
theorem dX6_isViolated_45 : decode cX6_isViolated 45 = .ok (.invokevirtual 116, 3) := by decide +kernel
theorem dX6_isViolated_48 : decode cX6_isViolated 48 = .ok (.goto 10, 3) := by decide +kernel
theorem dX6_isViolated_51 : decode cX6_isViolated 51 = .ok (.aload_n 0, 1) := by decide +kernel
theorem dX6_isViolated_52 : decode cX6_isViolated 52 = .ok (.iload_n 2, 1) := by decide +kernel
theorem dX6_isViolated_53 : decode cX6_isViolated 53 = .ok (.iload 6, 2) := by decide +kernel
theorem dX6_isViolated_55 : decode cX6_isViolated 55 = .ok (.invokevirtual 128, 3) := by decide +kernel
theorem dX6_isViolated_58 : decode cX6_isViolated 58 = .ok (.istore 7, 2) := by decide +kernel
theorem dX6_isViolated_60 : decode cX6_isViolated 60 = .ok (.iload 4, 2) := by decide +kernel
theorem dX6_isViolated_62 : decode cX6_isViolated 62 = .ok (.iload 7, 2) := by decide +kernel
theorem dX6_isViolated_64 : decode cX6_isViolated 64 = .ok (.sipush (-1000), 3) := by decide +kernel
theorem dX6_isViolated_67 : decode cX6_isViolated 67 = .ok (.if_icmp .ne 7, 3) := by decide +kernel
theorem dX6_isViolated_70 : decode cX6_isViolated 70 = .ok (.iconst 0, 1) := by decide +kernel
theorem dX6_isViolated_71 : decode cX6_isViolated 71 = .ok (.goto 5, 3) := by decide +kernel
theorem dX6_isViolated_74 : decode cX6_isViolated 74 = .ok (.iload 7, 2) := by decide +kernel
theorem dX6_isViolated_76 : decode cX6_isViolated 76 = .ok (.iadd, 1) := by decide +kernel
theorem dX6_isViolated_77 : decode cX6_isViolated 77 = .ok (.istore 4, 2) := by decide +kernel
theorem dX6_isViolated_79 : decode cX6_isViolated 79 = .ok (.iload 5, 2) := by decide +kernel
theorem dX6_isViolated_81 : decode cX6_isViolated 81 = .ok (.iload 7, 2) := by decide +kernel
theorem dX6_isViolated_83 : decode cX6_isViolated 83 = .ok (.sipush (-1000), 3) := by decide +kernel
theorem dX6_isViolated_86 : decode cX6_isViolated 86 = .ok (.if_icmp .ne 7, 3) := by decide +kernel
theorem dX6_isViolated_89 : decode cX6_isViolated 89 = .ok (.iconst 0, 1) := by decide +kernel
theorem dX6_isViolated_90 : decode cX6_isViolated 90 = .ok (.goto 4, 3) := by decide +kernel
theorem dX6_isViolated_93 : decode cX6_isViolated 93 = .ok (.iconst 1, 1) := by decide +kernel
theorem dX6_isViolated_94 : decode cX6_isViolated 94 = .ok (.iadd, 1) := by decide +kernel
theorem dX6_isViolated_95 : decode cX6_isViolated 95 = .ok (.istore 5, 2) := by decide +kernel
theorem dX6_isViolated_97 : decode cX6_isViolated 97 = .ok (.iinc 6 1, 3) := by decide +kernel
theorem dX6_isViolated_100 : decode cX6_isViolated 100 = .ok (.goto (-80), 3) := by decide +kernel
theorem dX6_isViolated_103 : decode cX6_isViolated 103 = .ok (.aload_n 0, 1) := by decide +kernel
theorem dX6_isViolated_104 : decode cX6_isViolated 104 = .ok (.getfield 60, 3) := by decide +kernel
theorem dX6_isViolated_107 : decode cX6_isViolated 107 = .ok (.iload_n 3, 1) := by decide +kernel
theorem dX6_isViolated_108 : decode cX6_isViolated 108 = .ok (.iconst 3, 1) := by decide +kernel
theorem dX6_isViolated_109 : decode cX6_isViolated 109 = .ok (.iadd, 1) := by decide +kernel
theorem dX6_isViolated_110 : decode cX6_isViolated 110 = .ok (.iaload, 1) := by decide +kernel
theorem dX6_isViolated_111 : decode cX6_isViolated 111 = .ok (.istore 6, 2) := by decide +kernel
theorem dX6_isViolated_113 : decode cX6_isViolated 113 = .ok (.aload_n 0, 1) := by decide +kernel
theorem dX6_isViolated_114 : decode cX6_isViolated 114 = .ok (.getfield 60, 3) := by decide +kernel
theorem dX6_isViolated_117 : decode cX6_isViolated 117 = .ok (.iload_n 3, 1) := by decide +kernel
theorem dX6_isViolated_118 : decode cX6_isViolated 118 = .ok (.iaload, 1) := by decide +kernel
theorem dX6_isViolated_119 : decode cX6_isViolated 119 = .ok (.ifCond .ne 18, 3) := by decide +kernel
theorem dX6_isViolated_122 : decode cX6_isViolated 122 = .ok (.iload 4, 2) := by decide +kernel
theorem dX6_isViolated_124 : decode cX6_isViolated 124 = .ok (.iload 6, 2) := by decide +kernel
theorem dX6_isViolated_126 : decode cX6_isViolated 126 = .ok (.if_icmp .ge 7, 3) := by decide +kernel
theorem dX6_isViolated_129 : decode cX6_isViolated 129 = .ok (.iconst 1, 1) := by decide +kernel
theorem dX6_isViolated_130 : decode cX6_isViolated 130 = .ok (.goto 44, 3) := by decide +kernel
theorem dX6_isViolated_133 : decode cX6_isViolated 133 = .ok (.iconst 0, 1) := by decide +kernel
theorem dX6_isViolated_134 : decode cX6_isViolated 134 = .ok (.goto 40, 3) := by decide +kernel
theorem dX6_isViolated_137 : decode cX6_isViolated 137 = .ok (.aload_n 0, 1) := by decide +kernel
theorem dX6_isViolated_138 : decode cX6_isViolated 138 = .ok (.getfield 60, 3) := by decide +kernel
theorem dX6_isViolated_141 : decode cX6_isViolated 141 = .ok (.iload_n 3, 1) := by decide +kernel
theorem dX6_isViolated_142 : decode cX6_isViolated 142 = .ok (.iaload, 1) := by decide +kernel
theorem dX6_isViolated_143 : decode cX6_isViolated 143 = .ok (.iconst 1, 1) := by decide +kernel
theorem dX6_isViolated_144 : decode cX6_isViolated 144 = .ok (.if_icmp .ne 18, 3) := by decide +kernel
theorem dX6_isViolated_147 : decode cX6_isViolated 147 = .ok (.iload 4, 2) := by decide +kernel
theorem dX6_isViolated_149 : decode cX6_isViolated 149 = .ok (.iload 6, 2) := by decide +kernel
theorem dX6_isViolated_151 : decode cX6_isViolated 151 = .ok (.if_icmp .le 7, 3) := by decide +kernel
theorem dX6_isViolated_154 : decode cX6_isViolated 154 = .ok (.iconst 1, 1) := by decide +kernel
theorem dX6_isViolated_155 : decode cX6_isViolated 155 = .ok (.goto 19, 3) := by decide +kernel
theorem dX6_isViolated_158 : decode cX6_isViolated 158 = .ok (.iconst 0, 1) := by decide +kernel
theorem dX6_isViolated_159 : decode cX6_isViolated 159 = .ok (.goto 15, 3) := by decide +kernel
theorem dX6_isViolated_162 : decode cX6_isViolated 162 = .ok (.iload 5, 2) := by decide +kernel
theorem dX6_isViolated_164 : decode cX6_isViolated 164 = .ok (.iload 6, 2) := by decide +kernel
theorem dX6_isViolated_166 : decode cX6_isViolated 166 = .ok (.if_icmp .le 7, 3) := by decide +kernel
theorem dX6_isViolated_169 : decode cX6_isViolated 169 = .ok (.iconst 1, 1) := by decide +kernel
theorem dX6_isViolated_170 : decode cX6_isViolated 170 = .ok (.goto 4, 3) := by decide +kernel
theorem dX6_isViolated_173 : decode cX6_isViolated 173 = .ok (.iconst 0, 1) := by decide +kernel
theorem dX6_isViolated_174 : decode cX6_isViolated 174 = .ok (.ireturn, 1) := by decide +kernel
theorem dX6_violates_0 : decode cX6_violates 0 = .ok (.iconst 0, 1) := by decide +kernel
theorem dX6_violates_1 : decode cX6_violates 1 = .ok (.istore_n 2, 1) := by decide +kernel
theorem dX6_violates_2 : decode cX6_violates 2 = .ok (.iconst 0, 1) := by decide +kernel
theorem dX6_violates_3 : decode cX6_violates 3 = .ok (.istore_n 3, 1) := by decide +kernel
theorem dX6_violates_4 : decode cX6_violates 4 = .ok (.iload_n 3, 1) := by decide +kernel
theorem dX6_violates_5 : decode cX6_violates 5 = .ok (.aload_n 0, 1) := by decide +kernel
theorem dX6_violates_6 : decode cX6_violates 6 = .ok (.getfield 180, 3) := by decide +kernel
theorem dX6_violates_9 : decode cX6_violates 9 = .ok (.if_icmp .ge 28, 3) := by decide +kernel
theorem dX6_violates_12 : decode cX6_violates 12 = .ok (.iload_n 2, 1) := by decide +kernel
theorem dX6_violates_13 : decode cX6_violates 13 = .ok (.ifCond .ne 12, 3) := by decide +kernel
theorem dX6_violates_16 : decode cX6_violates 16 = .ok (.aload_n 0, 1) := by decide +kernel
theorem dX6_violates_17 : decode cX6_violates 17 = .ok (.iload_n 3, 1) := by decide +kernel
theorem dX6_violates_18 : decode cX6_violates 18 = .ok (.iload_n 1, 1) := by decide +kernel
theorem dX6_violates_19 : decode cX6_violates 19 = .ok (.invokevirtual 183, 3) := by decide +kernel
theorem dX6_violates_22 : decode cX6_violates 22 = .ok (.ifCond .eq 7, 3) := by decide +kernel
theorem dX6_violates_25 : decode cX6_violates 25 = .ok (.iconst 1, 1) := by decide +kernel
theorem dX6_violates_26 : decode cX6_violates 26 = .ok (.goto 4, 3) := by decide +kernel
theorem dX6_violates_29 : decode cX6_violates 29 = .ok (.iconst 0, 1) := by decide +kernel
theorem dX6_violates_30 : decode cX6_violates 30 = .ok (.istore_n 2, 1) := by decide +kernel
theorem dX6_violates_31 : decode cX6_violates 31 = .ok (.iinc 3 1, 3) := by decide +kernel
theorem dX6_violates_34 : decode cX6_violates 34 = .ok (.goto (-30), 3) := by decide +kernel
theorem dX6_violates_37 : decode cX6_violates 37 = .ok (.iload_n 2, 1) := by decide +kernel
theorem dX6_violates_38 : decode cX6_violates 38 = .ok (.ireturn, 1) := by decide +kernel
theorem dX6_doCommit_0 : decode cX6_doCommit 0 = .ok (.aload_n 0, 1) := by decide +kernel
theorem dX6_doCommit_1 : decode cX6_doCommit 1 = .ok (.getfield 48, 3) := by decide +kernel
theorem dX6_doCommit_4 : decode cX6_doCommit 4 = .ok (.iconst (-1), 1) := by decide +kernel
theorem dX6_doCommit_5 : decode cX6_doCommit 5 = .ok (.if_icmp .eq 25, 3) := by decide +kernel
theorem dX6_doCommit_8 : decode cX6_doCommit 8 = .ok (.aload_n 0, 1) := by decide +kernel
theorem dX6_doCommit_9 : decode cX6_doCommit 9 = .ok (.getfield 48, 3) := by decide +kernel
theorem dX6_doCommit_12 : decode cX6_doCommit 12 = .ok (.iload_n 1, 1) := by decide +kernel
theorem dX6_doCommit_13 : decode cX6_doCommit 13 = .ok (.if_icmp .eq 17, 3) := by decide +kernel
theorem dX6_doCommit_16 : decode cX6_doCommit 16 = .ok (.aload_n 0, 1) := by decide +kernel
theorem dX6_doCommit_17 : decode cX6_doCommit 17 = .ok (.iload_n 1, 1) := by decide +kernel
theorem dX6_doCommit_18 : decode cX6_doCommit 18 = .ok (.aload_n 0, 1) := by decide +kernel
theorem dX6_doCommit_19 : decode cX6_doCommit 19 = .ok (.getfield 48, 3) := by decide +kernel
theorem dX6_doCommit_22 : decode cX6_doCommit 22 = .ok (.invokevirtual 162, 3) := by decide +kernel
theorem dX6_doCommit_25 : decode cX6_doCommit 25 = .ok (.ifCond .eq 5, 3) := by decide +kernel
theorem dX6_doCommit_28 : decode cX6_doCommit 28 = .ok (.iconst (-1), 1) := by decide +kernel
theorem dX6_doCommit_29 : decode cX6_doCommit 29 = .ok (.ireturn, 1) := by decide +kernel
theorem dX6_doCommit_30 : decode cX6_doCommit 30 = .ok (.aload_n 0, 1) := by decide +kernel
theorem dX6_doCommit_31 : decode cX6_doCommit 31 = .ok (.getfield 93, 3) := by decide +kernel
theorem dX6_doCommit_34 : decode cX6_doCommit 34 = .ok (.ifCond .ne 11, 3) := by decide +kernel
theorem dX6_doCommit_37 : decode cX6_doCommit 37 = .ok (.aload_n 0, 1) := by decide +kernel
theorem dX6_doCommit_38 : decode cX6_doCommit 38 = .ok (.iload_n 1, 1) := by decide +kernel
theorem dX6_doCommit_39 : decode cX6_doCommit 39 = .ok (.invokevirtual 174, 3) := by decide +kernel
theorem dX6_doCommit_42 : decode cX6_doCommit 42 = .ok (.goto 4, 3) := by decide +kernel
theorem dX6_doCommit_45 : decode cX6_doCommit 45 = .ok (.iconst 0, 1) := by decide +kernel
theorem dX6_doCommit_46 : decode cX6_doCommit 46 = .ok (.istore_n 2, 1) := by decide +kernel
theorem dX6_doCommit_47 : decode cX6_doCommit 47 = .ok (.aload_n 0, 1) := by decide +kernel
theorem dX6_doCommit_48 : decode cX6_doCommit 48 = .ok (.getfield 93, 3) := by decide +kernel
theorem dX6_doCommit_51 : decode cX6_doCommit 51 = .ok (.iconst 1, 1) := by decide +kernel
theorem dX6_doCommit_52 : decode cX6_doCommit 52 = .ok (.if_icmp .ne 31, 3) := by decide +kernel
theorem dX6_doCommit_55 : decode cX6_doCommit 55 = .ok (.aload_n 0, 1) := by decide +kernel
theorem dX6_doCommit_56 : decode cX6_doCommit 56 = .ok (.getfield 48, 3) := by decide +kernel
theorem dX6_doCommit_59 : decode cX6_doCommit 59 = .ok (.iload_n 1, 1) := by decide +kernel
theorem dX6_doCommit_60 : decode cX6_doCommit 60 = .ok (.if_icmp .eq 23, 3) := by decide +kernel
theorem dX6_doCommit_63 : decode cX6_doCommit 63 = .ok (.aload_n 0, 1) := by decide +kernel
theorem dX6_doCommit_64 : decode cX6_doCommit 64 = .ok (.iload_n 1, 1) := by decide +kernel
theorem dX6_doCommit_65 : decode cX6_doCommit 65 = .ok (.invokevirtual 177, 3) := by decide +kernel
theorem dX6_doCommit_68 : decode cX6_doCommit 68 = .ok (.ifCond .le 15, 3) := by decide +kernel
theorem dX6_doCommit_71 : decode cX6_doCommit 71 = .ok (.aload_n 0, 1) := by decide +kernel
theorem dX6_doCommit_72 : decode cX6_doCommit 72 = .ok (.iload_n 1, 1) := by decide +kernel
theorem dX6_doCommit_73 : decode cX6_doCommit 73 = .ok (.invokevirtual 186, 3) := by decide +kernel
theorem dX6_doCommit_76 : decode cX6_doCommit 76 = .ok (.ifCond .eq 7, 3) := by decide +kernel
theorem dX6_doCommit_79 : decode cX6_doCommit 79 = .ok (.iconst 1, 1) := by decide +kernel
theorem dX6_doCommit_80 : decode cX6_doCommit 80 = .ok (.goto 4, 3) := by decide +kernel
theorem dX6_doCommit_83 : decode cX6_doCommit 83 = .ok (.iconst 0, 1) := by decide +kernel
theorem dX6_doCommit_84 : decode cX6_doCommit 84 = .ok (.istore_n 3, 1) := by decide +kernel
theorem dX6_doCommit_85 : decode cX6_doCommit 85 = .ok (.iload_n 2, 1) := by decide +kernel
theorem dX6_doCommit_86 : decode cX6_doCommit 86 = .ok (.ifCond .le 7, 3) := by decide +kernel
theorem dX6_doCommit_89 : decode cX6_doCommit 89 = .ok (.iload_n 2, 1) := by decide +kernel
theorem dX6_doCommit_90 : decode cX6_doCommit 90 = .ok (.goto 24, 3) := by decide +kernel
theorem dX6_doCommit_93 : decode cX6_doCommit 93 = .ok (.iload_n 3, 1) := by decide +kernel
theorem dX6_doCommit_94 : decode cX6_doCommit 94 = .ok (.ifCond .eq 7, 3) := by decide +kernel
theorem dX6_doCommit_97 : decode cX6_doCommit 97 = .ok (.iconst 3, 1) := by decide +kernel
theorem dX6_doCommit_98 : decode cX6_doCommit 98 = .ok (.goto 16, 3) := by decide +kernel
theorem dX6_doCommit_101 : decode cX6_doCommit 101 = .ok (.aload_n 0, 1) := by decide +kernel
theorem dX6_doCommit_102 : decode cX6_doCommit 102 = .ok (.iload_n 1, 1) := by decide +kernel
theorem dX6_doCommit_103 : decode cX6_doCommit 103 = .ok (.invokevirtual 189, 3) := by decide +kernel
theorem dX6_doCommit_106 : decode cX6_doCommit 106 = .ok (.ifCond .eq 7, 3) := by decide +kernel
theorem dX6_doCommit_109 : decode cX6_doCommit 109 = .ok (.iconst 4, 1) := by decide +kernel
theorem dX6_doCommit_110 : decode cX6_doCommit 110 = .ok (.goto 4, 3) := by decide +kernel
theorem dX6_doCommit_113 : decode cX6_doCommit 113 = .ok (.iconst 0, 1) := by decide +kernel
theorem dX6_doCommit_114 : decode cX6_doCommit 114 = .ok (.istore 4, 2) := by decide +kernel
theorem dX6_doCommit_116 : decode cX6_doCommit 116 = .ok (.iload 4, 2) := by decide +kernel
theorem dX6_doCommit_118 : decode cX6_doCommit 118 = .ok (.ifCond .le 13, 3) := by decide +kernel
theorem dX6_doCommit_121 : decode cX6_doCommit 121 = .ok (.aload_n 0, 1) := by decide +kernel
theorem dX6_doCommit_122 : decode cX6_doCommit 122 = .ok (.iload_n 1, 1) := by decide +kernel
theorem dX6_doCommit_123 : decode cX6_doCommit 123 = .ok (.iload 4, 2) := by decide +kernel
theorem dX6_doCommit_125 : decode cX6_doCommit 125 = .ok (.invokevirtual 192, 3) := by decide +kernel
theorem dX6_doCommit_128 : decode cX6_doCommit 128 = .ok (.bipush (-2), 2) := by decide +kernel
theorem dX6_doCommit_130 : decode cX6_doCommit 130 = .ok (.ireturn, 1) := by decide +kernel
theorem dX6_doCommit_131 : decode cX6_doCommit 131 = .ok (.iconst 0, 1) := by decide +kernel
theorem dX6_doCommit_132 : decode cX6_doCommit 132 = .ok (.istore 5, 2) := by decide +kernel
theorem dX6_doCommit_134 : decode cX6_doCommit 134 = .ok (.iload 5, 2) := by decide +kernel
theorem dX6_doCommit_136 : decode cX6_doCommit 136 = .ok (.aload_n 0, 1) := by decide +kernel
theorem dX6_doCommit_137 : decode cX6_doCommit 137 = .ok (.getfield 78, 3) := by decide +kernel
theorem dX6_doCommit_140 : decode cX6_doCommit 140 = .ok (.if_icmp .ge 34, 3) := by decide +kernel
theorem dX6_doCommit_143 : decode cX6_doCommit 143 = .ok (.aload_n 0, 1) := by decide +kernel
theorem dX6_doCommit_144 : decode cX6_doCommit 144 = .ok (.getfield 93, 3) := by decide +kernel
theorem dX6_doCommit_147 : decode cX6_doCommit 147 = .ok (.iconst 1, 1) := by decide +kernel
theorem dX6_doCommit_148 : decode cX6_doCommit 148 = .ok (.if_icmp .ne 26, 3) := by decide +kernel
theorem dX6_doCommit_151 : decode cX6_doCommit 151 = .ok (.aload_n 0, 1) := by decide +kernel
theorem dX6_doCommit_152 : decode cX6_doCommit 152 = .ok (.iload_n 1, 1) := by decide +kernel
theorem dX6_doCommit_153 : decode cX6_doCommit 153 = .ok (.iload 5, 2) := by decide +kernel
theorem dX6_doCommit_155 : decode cX6_doCommit 155 = .ok (.invokevirtual 165, 3) := by decide +kernel
theorem dX6_doCommit_158 : decode cX6_doCommit 158 = .ok (.ifCond .eq 10, 3) := by decide +kernel
theorem dX6_doCommit_161 : decode cX6_doCommit 161 = .ok (.aload_n 0, 1) := by decide +kernel
theorem dX6_doCommit_162 : decode cX6_doCommit 162 = .ok (.iload 5, 2) := by decide +kernel
theorem dX6_doCommit_164 : decode cX6_doCommit 164 = .ok (.iconst 3, 1) := by decide +kernel
theorem dX6_doCommit_165 : decode cX6_doCommit 165 = .ok (.invokevirtual 192, 3) := by decide +kernel
theorem dX6_doCommit_168 : decode cX6_doCommit 168 = .ok (.iinc 5 1, 3) := by decide +kernel
theorem dX6_doCommit_171 : decode cX6_doCommit 171 = .ok (.goto (-37), 3) := by decide +kernel
theorem dX6_doCommit_174 : decode cX6_doCommit 174 = .ok (.iconst 0, 1) := by decide +kernel
theorem dX6_doCommit_175 : decode cX6_doCommit 175 = .ok (.istore 5, 2) := by decide +kernel
theorem dX6_doCommit_177 : decode cX6_doCommit 177 = .ok (.iload 5, 2) := by decide +kernel
theorem dX6_doCommit_179 : decode cX6_doCommit 179 = .ok (.bipush 32, 2) := by decide +kernel
theorem dX6_doCommit_181 : decode cX6_doCommit 181 = .ok (.if_icmp .ge 33, 3) := by decide +kernel
theorem dX6_doCommit_184 : decode cX6_doCommit 184 = .ok (.aload_n 0, 1) := by decide +kernel
theorem dX6_doCommit_185 : decode cX6_doCommit 185 = .ok (.getfield 51, 3) := by decide +kernel
theorem dX6_doCommit_188 : decode cX6_doCommit 188 = .ok (.bipush 32, 2) := by decide +kernel
theorem dX6_doCommit_190 : decode cX6_doCommit 190 = .ok (.aload_n 0, 1) := by decide +kernel
theorem dX6_doCommit_191 : decode cX6_doCommit 191 = .ok (.getfield 113, 3) := by decide +kernel
theorem dX6_doCommit_194 : decode cX6_doCommit 194 = .ok (.iconst 1, 1) := by decide +kernel
theorem dX6_doCommit_195 : decode cX6_doCommit 195 = .ok (.iadd, 1) := by decide +kernel
theorem dX6_doCommit_196 : decode cX6_doCommit 196 = .ok (.imul, 1) := by decide +kernel
theorem dX6_doCommit_197 : decode cX6_doCommit 197 = .ok (.iload 5, 2) := by decide +kernel
theorem dX6_doCommit_199 : decode cX6_doCommit 199 = .ok (.iadd, 1) := by decide +kernel
theorem dX6_doCommit_200 : decode cX6_doCommit 200 = .ok (.aload_n 0, 1) := by decide +kernel
theorem dX6_doCommit_201 : decode cX6_doCommit 201 = .ok (.iload_n 1, 1) := by decide +kernel
theorem dX6_doCommit_202 : decode cX6_doCommit 202 = .ok (.iload 5, 2) := by decide +kernel
theorem dX6_doCommit_204 : decode cX6_doCommit 204 = .ok (.invokevirtual 128, 3) := by decide +kernel
theorem dX6_doCommit_207 : decode cX6_doCommit 207 = .ok (.iastore, 1) := by decide +kernel
theorem dX6_doCommit_208 : decode cX6_doCommit 208 = .ok (.iinc 5 1, 3) := by decide +kernel
theorem dX6_doCommit_211 : decode cX6_doCommit 211 = .ok (.goto (-34), 3) := by decide +kernel
theorem dX6_doCommit_214 : decode cX6_doCommit 214 = .ok (.aload_n 0, 1) := by decide +kernel
theorem dX6_doCommit_215 : decode cX6_doCommit 215 = .ok (.dup, 1) := by decide +kernel
theorem dX6_doCommit_216 : decode cX6_doCommit 216 = .ok (.getfield 113, 3) := by decide +kernel
theorem dX6_doCommit_219 : decode cX6_doCommit 219 = .ok (.iconst 1, 1) := by decide +kernel
theorem dX6_doCommit_220 : decode cX6_doCommit 220 = .ok (.iadd, 1) := by decide +kernel
theorem dX6_doCommit_221 : decode cX6_doCommit 221 = .ok (.putfield 113, 3) := by decide +kernel
theorem dX6_doCommit_224 : decode cX6_doCommit 224 = .ok (.aload_n 0, 1) := by decide +kernel
theorem dX6_doCommit_225 : decode cX6_doCommit 225 = .ok (.getfield 54, 3) := by decide +kernel
theorem dX6_doCommit_228 : decode cX6_doCommit 228 = .ok (.aload_n 0, 1) := by decide +kernel
theorem dX6_doCommit_229 : decode cX6_doCommit 229 = .ok (.getfield 113, 3) := by decide +kernel
theorem dX6_doCommit_232 : decode cX6_doCommit 232 = .ok (.iload_n 1, 1) := by decide +kernel
theorem dX6_doCommit_233 : decode cX6_doCommit 233 = .ok (.iastore, 1) := by decide +kernel
theorem dX6_doCommit_234 : decode cX6_doCommit 234 = .ok (.aload_n 0, 1) := by decide +kernel
theorem dX6_doCommit_235 : decode cX6_doCommit 235 = .ok (.getfield 23, 3) := by decide +kernel
theorem dX6_doCommit_238 : decode cX6_doCommit 238 = .ok (.iload_n 1, 1) := by decide +kernel
theorem dX6_doCommit_239 : decode cX6_doCommit 239 = .ok (.aload_n 0, 1) := by decide +kernel
theorem dX6_doCommit_240 : decode cX6_doCommit 240 = .ok (.getfield 113, 3) := by decide +kernel
theorem dX6_doCommit_243 : decode cX6_doCommit 243 = .ok (.iastore, 1) := by decide +kernel
theorem dX6_doCommit_244 : decode cX6_doCommit 244 = .ok (.aload_n 0, 1) := by decide +kernel
theorem dX6_doCommit_245 : decode cX6_doCommit 245 = .ok (.getfield 13, 3) := by decide +kernel
theorem dX6_doCommit_248 : decode cX6_doCommit 248 = .ok (.iload_n 1, 1) := by decide +kernel
theorem dX6_doCommit_249 : decode cX6_doCommit 249 = .ok (.iconst 1, 1) := by decide +kernel
theorem dX6_doCommit_250 : decode cX6_doCommit 250 = .ok (.iastore, 1) := by decide +kernel
theorem dX6_doCommit_251 : decode cX6_doCommit 251 = .ok (.aload_n 0, 1) := by decide +kernel
theorem dX6_doCommit_252 : decode cX6_doCommit 252 = .ok (.aload_n 0, 1) := by decide +kernel
theorem dX6_doCommit_253 : decode cX6_doCommit 253 = .ok (.getfield 48, 3) := by decide +kernel
theorem dX6_doCommit_256 : decode cX6_doCommit 256 = .ok (.iload_n 1, 1) := by decide +kernel
theorem dX6_doCommit_257 : decode cX6_doCommit 257 = .ok (.if_icmp .ne 7, 3) := by decide +kernel
theorem dX6_doCommit_260 : decode cX6_doCommit 260 = .ok (.iconst (-1), 1) := by decide +kernel
theorem dX6_doCommit_261 : decode cX6_doCommit 261 = .ok (.goto 7, 3) := by decide +kernel
theorem dX6_doCommit_264 : decode cX6_doCommit 264 = .ok (.aload_n 0, 1) := by decide +kernel
theorem dX6_doCommit_265 : decode cX6_doCommit 265 = .ok (.getfield 48, 3) := by decide +kernel
theorem dX6_doCommit_268 : decode cX6_doCommit 268 = .ok (.putfield 48, 3) := by decide +kernel
theorem dX6_doCommit_271 : decode cX6_doCommit 271 = .ok (.aload_n 0, 1) := by decide +kernel
theorem dX6_doCommit_272 : decode cX6_doCommit 272 = .ok (.getfield 113, 3) := by decide +kernel
theorem dX6_doCommit_275 : decode cX6_doCommit 275 = .ok (.ireturn, 1) := by decide +kernel
theorem dX6_commit_0 : decode cX6_commit 0 = .ok (.aload_n 0, 1) := by decide +kernel
theorem dX6_commit_1 : decode cX6_commit 1 = .ok (.aload_n 0, 1) := by decide +kernel
theorem dX6_commit_2 : decode cX6_commit 2 = .ok (.iload_n 1, 1) := by decide +kernel
theorem dX6_commit_3 : decode cX6_commit 3 = .ok (.invokevirtual 110, 3) := by decide +kernel
theorem dX6_commit_6 : decode cX6_commit 6 = .ok (.ifCond .ne 7, 3) := by decide +kernel
theorem dX6_commit_9 : decode cX6_commit 9 = .ok (.iconst 1, 1) := by decide +kernel
theorem dX6_commit_10 : decode cX6_commit 10 = .ok (.goto 26, 3) := by decide +kernel
theorem dX6_commit_13 : decode cX6_commit 13 = .ok (.aload_n 0, 1) := by decide +kernel
theorem dX6_commit_14 : decode cX6_commit 14 = .ok (.getfield 13, 3) := by decide +kernel
theorem dX6_commit_17 : decode cX6_commit 17 = .ok (.iload_n 1, 1) := by decide +kernel
theorem dX6_commit_18 : decode cX6_commit 18 = .ok (.iaload, 1) := by decide +kernel
theorem dX6_commit_19 : decode cX6_commit 19 = .ok (.ifCond .ne 12, 3) := by decide +kernel
theorem dX6_commit_22 : decode cX6_commit 22 = .ok (.aload_n 0, 1) := by decide +kernel
theorem dX6_commit_23 : decode cX6_commit 23 = .ok (.getfield 113, 3) := by decide +kernel
theorem dX6_commit_26 : decode cX6_commit 26 = .ok (.bipush 60, 2) := by decide +kernel
theorem dX6_commit_28 : decode cX6_commit 28 = .ok (.if_icmp .ne 7, 3) := by decide +kernel
theorem dX6_commit_31 : decode cX6_commit 31 = .ok (.iconst 2, 1) := by decide +kernel
theorem dX6_commit_32 : decode cX6_commit 32 = .ok (.goto 4, 3) := by decide +kernel
theorem dX6_commit_35 : decode cX6_commit 35 = .ok (.iconst 0, 1) := by decide +kernel
theorem dX6_commit_36 : decode cX6_commit 36 = .ok (.putfield 1, 3) := by decide +kernel
theorem dX6_commit_39 : decode cX6_commit 39 = .ok (.aload_n 0, 1) := by decide +kernel
theorem dX6_commit_40 : decode cX6_commit 40 = .ok (.getfield 1, 3) := by decide +kernel
theorem dX6_commit_43 : decode cX6_commit 43 = .ok (.ifCond .ne 11, 3) := by decide +kernel
theorem dX6_commit_46 : decode cX6_commit 46 = .ok (.aload_n 0, 1) := by decide +kernel
theorem dX6_commit_47 : decode cX6_commit 47 = .ok (.iload_n 1, 1) := by decide +kernel
theorem dX6_commit_48 : decode cX6_commit 48 = .ok (.invokevirtual 195, 3) := by decide +kernel
theorem dX6_commit_51 : decode cX6_commit 51 = .ok (.goto 4, 3) := by decide +kernel
theorem dX6_commit_54 : decode cX6_commit 54 = .ok (.iconst 0, 1) := by decide +kernel
theorem dX6_commit_55 : decode cX6_commit 55 = .ok (.ireturn, 1) := by decide +kernel
theorem dX6_abort_0 : decode cX6_abort 0 = .ok (.aload_n 0, 1) := by decide +kernel
theorem dX6_abort_1 : decode cX6_abort 1 = .ok (.aload_n 0, 1) := by decide +kernel
theorem dX6_abort_2 : decode cX6_abort 2 = .ok (.iload_n 1, 1) := by decide +kernel
theorem dX6_abort_3 : decode cX6_abort 3 = .ok (.invokevirtual 171, 3) := by decide +kernel
theorem dX6_abort_6 : decode cX6_abort 6 = .ok (.putfield 1, 3) := by decide +kernel
theorem dX6_abort_9 : decode cX6_abort 9 = .ok (.aload_n 0, 1) := by decide +kernel
theorem dX6_abort_10 : decode cX6_abort 10 = .ok (.getfield 1, 3) := by decide +kernel
theorem dX6_abort_13 : decode cX6_abort 13 = .ok (.ifCond .ne 9, 3) := by decide +kernel
theorem dX6_abort_16 : decode cX6_abort 16 = .ok (.aload_n 0, 1) := by decide +kernel
theorem dX6_abort_17 : decode cX6_abort 17 = .ok (.iload_n 1, 1) := by decide +kernel
theorem dX6_abort_18 : decode cX6_abort 18 = .ok (.iconst 5, 1) := by decide +kernel
theorem dX6_abort_19 : decode cX6_abort 19 = .ok (.invokevirtual 192, 3) := by decide +kernel
theorem dX6_abort_22 : decode cX6_abort 22 = .ok (.return_, 1) := by decide +kernel
theorem dX6_clock_0 : decode cX6_clock 0 = .ok (.aload_n 0, 1) := by decide +kernel
theorem dX6_clock_1 : decode cX6_clock 1 = .ok (.iconst 0, 1) := by decide +kernel
theorem dX6_clock_2 : decode cX6_clock 2 = .ok (.putfield 1, 3) := by decide +kernel
theorem dX6_clock_5 : decode cX6_clock 5 = .ok (.aload_n 0, 1) := by decide +kernel
theorem dX6_clock_6 : decode cX6_clock 6 = .ok (.getfield 113, 3) := by decide +kernel
theorem dX6_clock_9 : decode cX6_clock 9 = .ok (.ireturn, 1) := by decide +kernel
theorem dX6_transactionCount_0 : decode cX6_transactionCount 0 = .ok (.aload_n 0, 1) := by decide +kernel
theorem dX6_transactionCount_1 : decode cX6_transactionCount 1 = .ok (.iconst 0, 1) := by decide +kernel
theorem dX6_transactionCount_2 : decode cX6_transactionCount 2 = .ok (.putfield 1, 3) := by decide +kernel
theorem dX6_transactionCount_5 : decode cX6_transactionCount 5 = .ok (.aload_n 0, 1) := by decide +kernel
theorem dX6_transactionCount_6 : decode cX6_transactionCount 6 = .ok (.getfield 78, 3) := by decide +kernel
theorem dX6_transactionCount_9 : decode cX6_transactionCount 9 = .ok (.ireturn, 1) := by decide +kernel
theorem dX6_activeCount_0 : decode cX6_activeCount 0 = .ok (.aload_n 0, 1) := by decide +kernel
theorem dX6_activeCount_1 : decode cX6_activeCount 1 = .ok (.iconst 0, 1) := by decide +kernel
theorem dX6_activeCount_2 : decode cX6_activeCount 2 = .ok (.putfield 1, 3) := by decide +kernel
theorem dX6_activeCount_5 : decode cX6_activeCount 5 = .ok (.aload_n 0, 1) := by decide +kernel
theorem dX6_activeCount_6 : decode cX6_activeCount 6 = .ok (.invokevirtual 89, 3) := by decide +kernel
theorem dX6_activeCount_9 : decode cX6_activeCount 9 = .ok (.ireturn, 1) := by decide +kernel
theorem dX6_ticketHolder_0 : decode cX6_ticketHolder 0 = .ok (.aload_n 0, 1) := by decide +kernel
theorem dX6_ticketHolder_1 : decode cX6_ticketHolder 1 = .ok (.iconst 0, 1) := by decide +kernel
theorem dX6_ticketHolder_2 : decode cX6_ticketHolder 2 = .ok (.putfield 1, 3) := by decide +kernel
theorem dX6_ticketHolder_5 : decode cX6_ticketHolder 5 = .ok (.aload_n 0, 1) := by decide +kernel
theorem dX6_ticketHolder_6 : decode cX6_ticketHolder 6 = .ok (.getfield 48, 3) := by decide +kernel
theorem dX6_ticketHolder_9 : decode cX6_ticketHolder 9 = .ok (.iconst (-1), 1) := by decide +kernel
theorem dX6_ticketHolder_10 : decode cX6_ticketHolder 10 = .ok (.if_icmp .ne 11, 3) := by decide +kernel
theorem dX6_ticketHolder_13 : decode cX6_ticketHolder 13 = .ok (.aload_n 0, 1) := by decide +kernel
theorem dX6_ticketHolder_14 : decode cX6_ticketHolder 14 = .ok (.iconst 1, 1) := by decide +kernel
theorem dX6_ticketHolder_15 : decode cX6_ticketHolder 15 = .ok (.invokevirtual 107, 3) := by decide +kernel
theorem dX6_ticketHolder_18 : decode cX6_ticketHolder 18 = .ok (.goto 7, 3) := by decide +kernel
theorem dX6_ticketHolder_21 : decode cX6_ticketHolder 21 = .ok (.aload_n 0, 1) := by decide +kernel
theorem dX6_ticketHolder_22 : decode cX6_ticketHolder 22 = .ok (.getfield 48, 3) := by decide +kernel
theorem dX6_ticketHolder_25 : decode cX6_ticketHolder 25 = .ok (.ireturn, 1) := by decide +kernel
theorem dX6_state_0 : decode cX6_state 0 = .ok (.aload_n 0, 1) := by decide +kernel
theorem dX6_state_1 : decode cX6_state 1 = .ok (.iconst 0, 1) := by decide +kernel
theorem dX6_state_2 : decode cX6_state 2 = .ok (.putfield 1, 3) := by decide +kernel
theorem dX6_state_5 : decode cX6_state 5 = .ok (.aload_n 0, 1) := by decide +kernel
theorem dX6_state_6 : decode cX6_state 6 = .ok (.iload_n 1, 1) := by decide +kernel
theorem dX6_state_7 : decode cX6_state 7 = .ok (.invokevirtual 110, 3) := by decide +kernel
theorem dX6_state_10 : decode cX6_state 10 = .ok (.ifCond .eq 12, 3) := by decide +kernel
theorem dX6_state_13 : decode cX6_state 13 = .ok (.aload_n 0, 1) := by decide +kernel
theorem dX6_state_14 : decode cX6_state 14 = .ok (.getfield 13, 3) := by decide +kernel
theorem dX6_state_17 : decode cX6_state 17 = .ok (.iload_n 1, 1) := by decide +kernel
theorem dX6_state_18 : decode cX6_state 18 = .ok (.iaload, 1) := by decide +kernel
theorem dX6_state_19 : decode cX6_state 19 = .ok (.goto 8, 3) := by decide +kernel
theorem dX6_state_22 : decode cX6_state 22 = .ok (.aload_n 0, 1) := by decide +kernel
theorem dX6_state_23 : decode cX6_state 23 = .ok (.iconst 1, 1) := by decide +kernel
theorem dX6_state_24 : decode cX6_state 24 = .ok (.invokevirtual 107, 3) := by decide +kernel
theorem dX6_state_27 : decode cX6_state 27 = .ok (.ireturn, 1) := by decide +kernel
theorem dX6_attempt_0 : decode cX6_attempt 0 = .ok (.aload_n 0, 1) := by decide +kernel
theorem dX6_attempt_1 : decode cX6_attempt 1 = .ok (.iconst 0, 1) := by decide +kernel
theorem dX6_attempt_2 : decode cX6_attempt 2 = .ok (.putfield 1, 3) := by decide +kernel
theorem dX6_attempt_5 : decode cX6_attempt 5 = .ok (.aload_n 0, 1) := by decide +kernel
theorem dX6_attempt_6 : decode cX6_attempt 6 = .ok (.iload_n 1, 1) := by decide +kernel
theorem dX6_attempt_7 : decode cX6_attempt 7 = .ok (.invokevirtual 110, 3) := by decide +kernel
theorem dX6_attempt_10 : decode cX6_attempt 10 = .ok (.ifCond .eq 12, 3) := by decide +kernel
theorem dX6_attempt_13 : decode cX6_attempt 13 = .ok (.aload_n 0, 1) := by decide +kernel
theorem dX6_attempt_14 : decode cX6_attempt 14 = .ok (.getfield 17, 3) := by decide +kernel
theorem dX6_attempt_17 : decode cX6_attempt 17 = .ok (.iload_n 1, 1) := by decide +kernel
theorem dX6_attempt_18 : decode cX6_attempt 18 = .ok (.iaload, 1) := by decide +kernel
theorem dX6_attempt_19 : decode cX6_attempt 19 = .ok (.goto 8, 3) := by decide +kernel
theorem dX6_attempt_22 : decode cX6_attempt 22 = .ok (.aload_n 0, 1) := by decide +kernel
theorem dX6_attempt_23 : decode cX6_attempt 23 = .ok (.iconst 1, 1) := by decide +kernel
theorem dX6_attempt_24 : decode cX6_attempt 24 = .ok (.invokevirtual 107, 3) := by decide +kernel
theorem dX6_attempt_27 : decode cX6_attempt 27 = .ok (.ireturn, 1) := by decide +kernel
theorem dX6_reason_0 : decode cX6_reason 0 = .ok (.aload_n 0, 1) := by decide +kernel
theorem dX6_reason_1 : decode cX6_reason 1 = .ok (.iconst 0, 1) := by decide +kernel
theorem dX6_reason_2 : decode cX6_reason 2 = .ok (.putfield 1, 3) := by decide +kernel
theorem dX6_reason_5 : decode cX6_reason 5 = .ok (.aload_n 0, 1) := by decide +kernel
theorem dX6_reason_6 : decode cX6_reason 6 = .ok (.iload_n 1, 1) := by decide +kernel
theorem dX6_reason_7 : decode cX6_reason 7 = .ok (.invokevirtual 110, 3) := by decide +kernel
theorem dX6_reason_10 : decode cX6_reason 10 = .ok (.ifCond .ne 11, 3) := by decide +kernel
theorem dX6_reason_13 : decode cX6_reason 13 = .ok (.aload_n 0, 1) := by decide +kernel
theorem dX6_reason_14 : decode cX6_reason 14 = .ok (.iconst 1, 1) := by decide +kernel
theorem dX6_reason_15 : decode cX6_reason 15 = .ok (.invokevirtual 107, 3) := by decide +kernel
theorem dX6_reason_18 : decode cX6_reason 18 = .ok (.goto 27, 3) := by decide +kernel
theorem dX6_reason_21 : decode cX6_reason 21 = .ok (.aload_n 0, 1) := by decide +kernel
theorem dX6_reason_22 : decode cX6_reason 22 = .ok (.getfield 13, 3) := by decide +kernel
theorem dX6_reason_25 : decode cX6_reason 25 = .ok (.iload_n 1, 1) := by decide +kernel
theorem dX6_reason_26 : decode cX6_reason 26 = .ok (.iaload, 1) := by decide +kernel
theorem dX6_reason_27 : decode cX6_reason 27 = .ok (.iconst 2, 1) := by decide +kernel
theorem dX6_reason_28 : decode cX6_reason 28 = .ok (.if_icmp .eq 11, 3) := by decide +kernel
theorem dX6_reason_31 : decode cX6_reason 31 = .ok (.aload_n 0, 1) := by decide +kernel
theorem dX6_reason_32 : decode cX6_reason 32 = .ok (.iconst 2, 1) := by decide +kernel
theorem dX6_reason_33 : decode cX6_reason 33 = .ok (.invokevirtual 107, 3) := by decide +kernel
theorem dX6_reason_36 : decode cX6_reason 36 = .ok (.goto 9, 3) := by decide +kernel
theorem dX6_reason_39 : decode cX6_reason 39 = .ok (.aload_n 0, 1) := by decide +kernel
theorem dX6_reason_40 : decode cX6_reason 40 = .ok (.getfield 20, 3) := by decide +kernel
theorem dX6_reason_43 : decode cX6_reason 43 = .ok (.iload_n 1, 1) := by decide +kernel
theorem dX6_reason_44 : decode cX6_reason 44 = .ok (.iaload, 1) := by decide +kernel
theorem dX6_reason_45 : decode cX6_reason 45 = .ok (.ireturn, 1) := by decide +kernel
theorem dX6_commitOf_0 : decode cX6_commitOf 0 = .ok (.aload_n 0, 1) := by decide +kernel
theorem dX6_commitOf_1 : decode cX6_commitOf 1 = .ok (.iconst 0, 1) := by decide +kernel
theorem dX6_commitOf_2 : decode cX6_commitOf 2 = .ok (.putfield 1, 3) := by decide +kernel
theorem dX6_commitOf_5 : decode cX6_commitOf 5 = .ok (.aload_n 0, 1) := by decide +kernel
theorem dX6_commitOf_6 : decode cX6_commitOf 6 = .ok (.iload_n 1, 1) := by decide +kernel
theorem dX6_commitOf_7 : decode cX6_commitOf 7 = .ok (.invokevirtual 110, 3) := by decide +kernel
theorem dX6_commitOf_10 : decode cX6_commitOf 10 = .ok (.ifCond .ne 11, 3) := by decide +kernel
theorem dX6_commitOf_13 : decode cX6_commitOf 13 = .ok (.aload_n 0, 1) := by decide +kernel
theorem dX6_commitOf_14 : decode cX6_commitOf 14 = .ok (.iconst 1, 1) := by decide +kernel
theorem dX6_commitOf_15 : decode cX6_commitOf 15 = .ok (.invokevirtual 107, 3) := by decide +kernel
theorem dX6_commitOf_18 : decode cX6_commitOf 18 = .ok (.goto 27, 3) := by decide +kernel
theorem dX6_commitOf_21 : decode cX6_commitOf 21 = .ok (.aload_n 0, 1) := by decide +kernel
theorem dX6_commitOf_22 : decode cX6_commitOf 22 = .ok (.getfield 13, 3) := by decide +kernel
theorem dX6_commitOf_25 : decode cX6_commitOf 25 = .ok (.iload_n 1, 1) := by decide +kernel
theorem dX6_commitOf_26 : decode cX6_commitOf 26 = .ok (.iaload, 1) := by decide +kernel
theorem dX6_commitOf_27 : decode cX6_commitOf 27 = .ok (.iconst 1, 1) := by decide +kernel
theorem dX6_commitOf_28 : decode cX6_commitOf 28 = .ok (.if_icmp .eq 11, 3) := by decide +kernel
theorem dX6_commitOf_31 : decode cX6_commitOf 31 = .ok (.aload_n 0, 1) := by decide +kernel
theorem dX6_commitOf_32 : decode cX6_commitOf 32 = .ok (.iconst 2, 1) := by decide +kernel
theorem dX6_commitOf_33 : decode cX6_commitOf 33 = .ok (.invokevirtual 107, 3) := by decide +kernel
theorem dX6_commitOf_36 : decode cX6_commitOf 36 = .ok (.goto 9, 3) := by decide +kernel
theorem dX6_commitOf_39 : decode cX6_commitOf 39 = .ok (.aload_n 0, 1) := by decide +kernel
theorem dX6_commitOf_40 : decode cX6_commitOf 40 = .ok (.getfield 23, 3) := by decide +kernel
theorem dX6_commitOf_43 : decode cX6_commitOf 43 = .ok (.iload_n 1, 1) := by decide +kernel
theorem dX6_commitOf_44 : decode cX6_commitOf 44 = .ok (.iaload, 1) := by decide +kernel
theorem dX6_commitOf_45 : decode cX6_commitOf 45 = .ok (.ireturn, 1) := by decide +kernel
theorem dX6_operationCount_0 : decode cX6_operationCount 0 = .ok (.aload_n 0, 1) := by decide +kernel
theorem dX6_operationCount_1 : decode cX6_operationCount 1 = .ok (.iconst 0, 1) := by decide +kernel
theorem dX6_operationCount_2 : decode cX6_operationCount 2 = .ok (.putfield 1, 3) := by decide +kernel
theorem dX6_operationCount_5 : decode cX6_operationCount 5 = .ok (.aload_n 0, 1) := by decide +kernel
theorem dX6_operationCount_6 : decode cX6_operationCount 6 = .ok (.iload_n 1, 1) := by decide +kernel
theorem dX6_operationCount_7 : decode cX6_operationCount 7 = .ok (.invokevirtual 110, 3) := by decide +kernel
theorem dX6_operationCount_10 : decode cX6_operationCount 10 = .ok (.ifCond .eq 12, 3) := by decide +kernel
theorem dX6_operationCount_13 : decode cX6_operationCount 13 = .ok (.aload_n 0, 1) := by decide +kernel
theorem dX6_operationCount_14 : decode cX6_operationCount 14 = .ok (.getfield 30, 3) := by decide +kernel
theorem dX6_operationCount_17 : decode cX6_operationCount 17 = .ok (.iload_n 1, 1) := by decide +kernel
theorem dX6_operationCount_18 : decode cX6_operationCount 18 = .ok (.iaload, 1) := by decide +kernel
theorem dX6_operationCount_19 : decode cX6_operationCount 19 = .ok (.goto 8, 3) := by decide +kernel
theorem dX6_operationCount_22 : decode cX6_operationCount 22 = .ok (.aload_n 0, 1) := by decide +kernel
theorem dX6_operationCount_23 : decode cX6_operationCount 23 = .ok (.iconst 1, 1) := by decide +kernel
theorem dX6_operationCount_24 : decode cX6_operationCount 24 = .ok (.invokevirtual 107, 3) := by decide +kernel
theorem dX6_operationCount_27 : decode cX6_operationCount 27 = .ok (.ireturn, 1) := by decide +kernel
theorem dX6_recordedKeys_0 : decode cX6_recordedKeys 0 = .ok (.aload_n 0, 1) := by decide +kernel
theorem dX6_recordedKeys_1 : decode cX6_recordedKeys 1 = .ok (.iconst 0, 1) := by decide +kernel
theorem dX6_recordedKeys_2 : decode cX6_recordedKeys 2 = .ok (.putfield 1, 3) := by decide +kernel
theorem dX6_recordedKeys_5 : decode cX6_recordedKeys 5 = .ok (.aload_n 0, 1) := by decide +kernel
theorem dX6_recordedKeys_6 : decode cX6_recordedKeys 6 = .ok (.iload_n 1, 1) := by decide +kernel
theorem dX6_recordedKeys_7 : decode cX6_recordedKeys 7 = .ok (.invokevirtual 110, 3) := by decide +kernel
theorem dX6_recordedKeys_10 : decode cX6_recordedKeys 10 = .ok (.ifCond .ne 9, 3) := by decide +kernel
theorem dX6_recordedKeys_13 : decode cX6_recordedKeys 13 = .ok (.aload_n 0, 1) := by decide +kernel
theorem dX6_recordedKeys_14 : decode cX6_recordedKeys 14 = .ok (.iconst 1, 1) := by decide +kernel
theorem dX6_recordedKeys_15 : decode cX6_recordedKeys 15 = .ok (.invokevirtual 107, 3) := by decide +kernel
theorem dX6_recordedKeys_18 : decode cX6_recordedKeys 18 = .ok (.ireturn, 1) := by decide +kernel
theorem dX6_recordedKeys_19 : decode cX6_recordedKeys 19 = .ok (.iconst 0, 1) := by decide +kernel
theorem dX6_recordedKeys_20 : decode cX6_recordedKeys 20 = .ok (.istore_n 2, 1) := by decide +kernel
theorem dX6_recordedKeys_21 : decode cX6_recordedKeys 21 = .ok (.iconst 0, 1) := by decide +kernel
theorem dX6_recordedKeys_22 : decode cX6_recordedKeys 22 = .ok (.istore_n 3, 1) := by decide +kernel
theorem dX6_recordedKeys_23 : decode cX6_recordedKeys 23 = .ok (.iload_n 3, 1) := by decide +kernel
theorem dX6_recordedKeys_24 : decode cX6_recordedKeys 24 = .ok (.bipush 32, 2) := by decide +kernel
theorem dX6_recordedKeys_26 : decode cX6_recordedKeys 26 = .ok (.if_icmp .ge 34, 3) := by decide +kernel
theorem dX6_recordedKeys_29 : decode cX6_recordedKeys 29 = .ok (.iload_n 2, 1) := by decide +kernel
theorem dX6_recordedKeys_30 : decode cX6_recordedKeys 30 = .ok (.aload_n 0, 1) := by decide +kernel
theorem dX6_recordedKeys_31 : decode cX6_recordedKeys 31 = .ok (.getfield 36, 3) := by decide +kernel
theorem dX6_recordedKeys_34 : decode cX6_recordedKeys 34 = .ok (.bipush 32, 2) := by decide +kernel
theorem dX6_recordedKeys_36 : decode cX6_recordedKeys 36 = .ok (.iload_n 1, 1) := by decide +kernel
theorem dX6_recordedKeys_37 : decode cX6_recordedKeys 37 = .ok (.imul, 1) := by decide +kernel
theorem dX6_recordedKeys_38 : decode cX6_recordedKeys 38 = .ok (.iload_n 3, 1) := by decide +kernel
theorem dX6_recordedKeys_39 : decode cX6_recordedKeys 39 = .ok (.iadd, 1) := by decide +kernel
theorem dX6_recordedKeys_40 : decode cX6_recordedKeys 40 = .ok (.iaload, 1) := by decide +kernel
theorem dX6_recordedKeys_41 : decode cX6_recordedKeys 41 = .ok (.iconst (-1), 1) := by decide +kernel
theorem dX6_recordedKeys_42 : decode cX6_recordedKeys 42 = .ok (.if_icmp .ne 7, 3) := by decide +kernel
theorem dX6_recordedKeys_45 : decode cX6_recordedKeys 45 = .ok (.iconst 0, 1) := by decide +kernel
theorem dX6_recordedKeys_46 : decode cX6_recordedKeys 46 = .ok (.goto 6, 3) := by decide +kernel
theorem dX6_recordedKeys_49 : decode cX6_recordedKeys 49 = .ok (.iconst 1, 1) := by decide +kernel
theorem dX6_recordedKeys_50 : decode cX6_recordedKeys 50 = .ok (.iload_n 3, 1) := by decide +kernel
theorem dX6_recordedKeys_51 : decode cX6_recordedKeys 51 = .ok (.ishl, 1) := by decide +kernel
theorem dX6_recordedKeys_52 : decode cX6_recordedKeys 52 = .ok (.ior, 1) := by decide +kernel
theorem dX6_recordedKeys_53 : decode cX6_recordedKeys 53 = .ok (.istore_n 2, 1) := by decide +kernel
theorem dX6_recordedKeys_54 : decode cX6_recordedKeys 54 = .ok (.iinc 3 1, 3) := by decide +kernel
theorem dX6_recordedKeys_57 : decode cX6_recordedKeys 57 = .ok (.goto (-34), 3) := by decide +kernel
theorem dX6_recordedKeys_60 : decode cX6_recordedKeys 60 = .ok (.iload_n 2, 1) := by decide +kernel
theorem dX6_recordedKeys_61 : decode cX6_recordedKeys 61 = .ok (.ireturn, 1) := by decide +kernel
theorem dX6_predicateCount_0 : decode cX6_predicateCount 0 = .ok (.aload_n 0, 1) := by decide +kernel
theorem dX6_predicateCount_1 : decode cX6_predicateCount 1 = .ok (.iconst 0, 1) := by decide +kernel
theorem dX6_predicateCount_2 : decode cX6_predicateCount 2 = .ok (.putfield 1, 3) := by decide +kernel
theorem dX6_predicateCount_5 : decode cX6_predicateCount 5 = .ok (.aload_n 0, 1) := by decide +kernel
theorem dX6_predicateCount_6 : decode cX6_predicateCount 6 = .ok (.iload_n 1, 1) := by decide +kernel
theorem dX6_predicateCount_7 : decode cX6_predicateCount 7 = .ok (.invokevirtual 110, 3) := by decide +kernel
theorem dX6_predicateCount_10 : decode cX6_predicateCount 10 = .ok (.ifCond .eq 12, 3) := by decide +kernel
theorem dX6_predicateCount_13 : decode cX6_predicateCount 13 = .ok (.aload_n 0, 1) := by decide +kernel
theorem dX6_predicateCount_14 : decode cX6_predicateCount 14 = .ok (.getfield 45, 3) := by decide +kernel
theorem dX6_predicateCount_17 : decode cX6_predicateCount 17 = .ok (.iload_n 1, 1) := by decide +kernel
theorem dX6_predicateCount_18 : decode cX6_predicateCount 18 = .ok (.iaload, 1) := by decide +kernel
theorem dX6_predicateCount_19 : decode cX6_predicateCount 19 = .ok (.goto 8, 3) := by decide +kernel
theorem dX6_predicateCount_22 : decode cX6_predicateCount 22 = .ok (.aload_n 0, 1) := by decide +kernel
theorem dX6_predicateCount_23 : decode cX6_predicateCount 23 = .ok (.iconst 1, 1) := by decide +kernel
theorem dX6_predicateCount_24 : decode cX6_predicateCount 24 = .ok (.invokevirtual 107, 3) := by decide +kernel
theorem dX6_predicateCount_27 : decode cX6_predicateCount 27 = .ok (.ireturn, 1) := by decide +kernel
theorem dX6_writtenKeys_0 : decode cX6_writtenKeys 0 = .ok (.aload_n 0, 1) := by decide +kernel
theorem dX6_writtenKeys_1 : decode cX6_writtenKeys 1 = .ok (.iconst 0, 1) := by decide +kernel
theorem dX6_writtenKeys_2 : decode cX6_writtenKeys 2 = .ok (.putfield 1, 3) := by decide +kernel
theorem dX6_writtenKeys_5 : decode cX6_writtenKeys 5 = .ok (.aload_n 0, 1) := by decide +kernel
theorem dX6_writtenKeys_6 : decode cX6_writtenKeys 6 = .ok (.iload_n 1, 1) := by decide +kernel
theorem dX6_writtenKeys_7 : decode cX6_writtenKeys 7 = .ok (.invokevirtual 110, 3) := by decide +kernel
theorem dX6_writtenKeys_10 : decode cX6_writtenKeys 10 = .ok (.ifCond .ne 9, 3) := by decide +kernel
theorem dX6_writtenKeys_13 : decode cX6_writtenKeys 13 = .ok (.aload_n 0, 1) := by decide +kernel
theorem dX6_writtenKeys_14 : decode cX6_writtenKeys 14 = .ok (.iconst 1, 1) := by decide +kernel
theorem dX6_writtenKeys_15 : decode cX6_writtenKeys 15 = .ok (.invokevirtual 107, 3) := by decide +kernel
theorem dX6_writtenKeys_18 : decode cX6_writtenKeys 18 = .ok (.ireturn, 1) := by decide +kernel
theorem dX6_writtenKeys_19 : decode cX6_writtenKeys 19 = .ok (.iconst 0, 1) := by decide +kernel
theorem dX6_writtenKeys_20 : decode cX6_writtenKeys 20 = .ok (.istore_n 2, 1) := by decide +kernel
theorem dX6_writtenKeys_21 : decode cX6_writtenKeys 21 = .ok (.iconst 0, 1) := by decide +kernel
theorem dX6_writtenKeys_22 : decode cX6_writtenKeys 22 = .ok (.istore_n 3, 1) := by decide +kernel
theorem dX6_writtenKeys_23 : decode cX6_writtenKeys 23 = .ok (.iload_n 3, 1) := by decide +kernel
theorem dX6_writtenKeys_24 : decode cX6_writtenKeys 24 = .ok (.bipush 32, 2) := by decide +kernel
theorem dX6_writtenKeys_26 : decode cX6_writtenKeys 26 = .ok (.if_icmp .ge 36, 3) := by decide +kernel
theorem dX6_writtenKeys_29 : decode cX6_writtenKeys 29 = .ok (.iload_n 2, 1) := by decide +kernel
theorem dX6_writtenKeys_30 : decode cX6_writtenKeys 30 = .ok (.aload_n 0, 1) := by decide +kernel
theorem dX6_writtenKeys_31 : decode cX6_writtenKeys 31 = .ok (.getfield 39, 3) := by decide +kernel
theorem dX6_writtenKeys_34 : decode cX6_writtenKeys 34 = .ok (.bipush 32, 2) := by decide +kernel
theorem dX6_writtenKeys_36 : decode cX6_writtenKeys 36 = .ok (.iload_n 1, 1) := by decide +kernel
theorem dX6_writtenKeys_37 : decode cX6_writtenKeys 37 = .ok (.imul, 1) := by decide +kernel
theorem dX6_writtenKeys_38 : decode cX6_writtenKeys 38 = .ok (.iload_n 3, 1) := by decide +kernel
theorem dX6_writtenKeys_39 : decode cX6_writtenKeys 39 = .ok (.iadd, 1) := by decide +kernel
theorem dX6_writtenKeys_40 : decode cX6_writtenKeys 40 = .ok (.iaload, 1) := by decide +kernel
theorem dX6_writtenKeys_41 : decode cX6_writtenKeys 41 = .ok (.sipush (-5000), 3) := by decide +kernel
theorem dX6_writtenKeys_44 : decode cX6_writtenKeys 44 = .ok (.if_icmp .ne 7, 3) := by decide +kernel
theorem dX6_writtenKeys_47 : decode cX6_writtenKeys 47 = .ok (.iconst 0, 1) := by decide +kernel
theorem dX6_writtenKeys_48 : decode cX6_writtenKeys 48 = .ok (.goto 6, 3) := by decide +kernel
theorem dX6_writtenKeys_51 : decode cX6_writtenKeys 51 = .ok (.iconst 1, 1) := by decide +kernel
theorem dX6_writtenKeys_52 : decode cX6_writtenKeys 52 = .ok (.iload_n 3, 1) := by decide +kernel
theorem dX6_writtenKeys_53 : decode cX6_writtenKeys 53 = .ok (.ishl, 1) := by decide +kernel
theorem dX6_writtenKeys_54 : decode cX6_writtenKeys 54 = .ok (.ior, 1) := by decide +kernel
theorem dX6_writtenKeys_55 : decode cX6_writtenKeys 55 = .ok (.istore_n 2, 1) := by decide +kernel
theorem dX6_writtenKeys_56 : decode cX6_writtenKeys 56 = .ok (.iinc 3 1, 3) := by decide +kernel
theorem dX6_writtenKeys_59 : decode cX6_writtenKeys 59 = .ok (.goto (-36), 3) := by decide +kernel
theorem dX6_writtenKeys_62 : decode cX6_writtenKeys 62 = .ok (.iload_n 2, 1) := by decide +kernel
theorem dX6_writtenKeys_63 : decode cX6_writtenKeys 63 = .ok (.ireturn, 1) := by decide +kernel
theorem dX6_value_0 : decode cX6_value 0 = .ok (.aload_n 0, 1) := by decide +kernel
theorem dX6_value_1 : decode cX6_value 1 = .ok (.iconst 0, 1) := by decide +kernel
theorem dX6_value_2 : decode cX6_value 2 = .ok (.putfield 1, 3) := by decide +kernel
theorem dX6_value_5 : decode cX6_value 5 = .ok (.iload_n 1, 1) := by decide +kernel
theorem dX6_value_6 : decode cX6_value 6 = .ok (.invokestatic 85, 3) := by decide +kernel
theorem dX6_value_9 : decode cX6_value 9 = .ok (.ifCond .eq 15, 3) := by decide +kernel
theorem dX6_value_12 : decode cX6_value 12 = .ok (.aload_n 0, 1) := by decide +kernel
theorem dX6_value_13 : decode cX6_value 13 = .ok (.aload_n 0, 1) := by decide +kernel
theorem dX6_value_14 : decode cX6_value 14 = .ok (.getfield 113, 3) := by decide +kernel
theorem dX6_value_17 : decode cX6_value 17 = .ok (.iload_n 1, 1) := by decide +kernel
theorem dX6_value_18 : decode cX6_value 18 = .ok (.invokevirtual 116, 3) := by decide +kernel
theorem dX6_value_21 : decode cX6_value 21 = .ok (.goto 8, 3) := by decide +kernel
theorem dX6_value_24 : decode cX6_value 24 = .ok (.aload_n 0, 1) := by decide +kernel
theorem dX6_value_25 : decode cX6_value 25 = .ok (.iconst 1, 1) := by decide +kernel
theorem dX6_value_26 : decode cX6_value 26 = .ok (.invokevirtual 107, 3) := by decide +kernel
theorem dX6_value_29 : decode cX6_value 29 = .ok (.ireturn, 1) := by decide +kernel
theorem dX6_valueAt_0 : decode cX6_valueAt 0 = .ok (.aload_n 0, 1) := by decide +kernel
theorem dX6_valueAt_1 : decode cX6_valueAt 1 = .ok (.iconst 0, 1) := by decide +kernel
theorem dX6_valueAt_2 : decode cX6_valueAt 2 = .ok (.putfield 1, 3) := by decide +kernel
theorem dX6_valueAt_5 : decode cX6_valueAt 5 = .ok (.iload_n 1, 1) := by decide +kernel
theorem dX6_valueAt_6 : decode cX6_valueAt 6 = .ok (.invokestatic 85, 3) := by decide +kernel
theorem dX6_valueAt_9 : decode cX6_valueAt 9 = .ok (.ifCond .ne 11, 3) := by decide +kernel
theorem dX6_valueAt_12 : decode cX6_valueAt 12 = .ok (.aload_n 0, 1) := by decide +kernel
theorem dX6_valueAt_13 : decode cX6_valueAt 13 = .ok (.iconst 1, 1) := by decide +kernel
theorem dX6_valueAt_14 : decode cX6_valueAt 14 = .ok (.invokevirtual 107, 3) := by decide +kernel
theorem dX6_valueAt_17 : decode cX6_valueAt 17 = .ok (.goto 29, 3) := by decide +kernel
theorem dX6_valueAt_20 : decode cX6_valueAt 20 = .ok (.iload_n 2, 1) := by decide +kernel
theorem dX6_valueAt_21 : decode cX6_valueAt 21 = .ok (.iconst 0, 1) := by decide +kernel
theorem dX6_valueAt_22 : decode cX6_valueAt 22 = .ok (.aload_n 0, 1) := by decide +kernel
theorem dX6_valueAt_23 : decode cX6_valueAt 23 = .ok (.getfield 113, 3) := by decide +kernel
theorem dX6_valueAt_26 : decode cX6_valueAt 26 = .ok (.invokestatic 81, 3) := by decide +kernel
theorem dX6_valueAt_29 : decode cX6_valueAt 29 = .ok (.ifCond .ne 11, 3) := by decide +kernel
theorem dX6_valueAt_32 : decode cX6_valueAt 32 = .ok (.aload_n 0, 1) := by decide +kernel
theorem dX6_valueAt_33 : decode cX6_valueAt 33 = .ok (.iconst 2, 1) := by decide +kernel
theorem dX6_valueAt_34 : decode cX6_valueAt 34 = .ok (.invokevirtual 107, 3) := by decide +kernel
theorem dX6_valueAt_37 : decode cX6_valueAt 37 = .ok (.goto 9, 3) := by decide +kernel
theorem dX6_valueAt_40 : decode cX6_valueAt 40 = .ok (.aload_n 0, 1) := by decide +kernel
theorem dX6_valueAt_41 : decode cX6_valueAt 41 = .ok (.iload_n 2, 1) := by decide +kernel
theorem dX6_valueAt_42 : decode cX6_valueAt 42 = .ok (.iload_n 1, 1) := by decide +kernel
theorem dX6_valueAt_43 : decode cX6_valueAt 43 = .ok (.invokevirtual 116, 3) := by decide +kernel
theorem dX6_valueAt_46 : decode cX6_valueAt 46 = .ok (.ireturn, 1) := by decide +kernel
theorem dX6_lastWriter_0 : decode cX6_lastWriter 0 = .ok (.iconst 0, 1) := by decide +kernel
theorem dX6_lastWriter_1 : decode cX6_lastWriter 1 = .ok (.istore_n 3, 1) := by decide +kernel
theorem dX6_lastWriter_2 : decode cX6_lastWriter 2 = .ok (.iconst 1, 1) := by decide +kernel
theorem dX6_lastWriter_3 : decode cX6_lastWriter 3 = .ok (.istore 4, 2) := by decide +kernel
theorem dX6_lastWriter_5 : decode cX6_lastWriter 5 = .ok (.iload 4, 2) := by decide +kernel
theorem dX6_lastWriter_7 : decode cX6_lastWriter 7 = .ok (.iload_n 2, 1) := by decide +kernel
theorem dX6_lastWriter_8 : decode cX6_lastWriter 8 = .ok (.if_icmp .ge 26, 3) := by decide +kernel
theorem dX6_lastWriter_11 : decode cX6_lastWriter 11 = .ok (.aload_n 0, 1) := by decide +kernel
theorem dX6_lastWriter_12 : decode cX6_lastWriter 12 = .ok (.iload 4, 2) := by decide +kernel
theorem dX6_lastWriter_14 : decode cX6_lastWriter 14 = .ok (.iload_n 1, 1) := by decide +kernel
theorem dX6_lastWriter_15 : decode cX6_lastWriter 15 = .ok (.invokevirtual 168, 3) := by decide +kernel
theorem dX6_lastWriter_18 : decode cX6_lastWriter 18 = .ok (.ifCond .eq 8, 3) := by decide +kernel
theorem dX6_lastWriter_21 : decode cX6_lastWriter 21 = .ok (.iload 4, 2) := by decide +kernel
theorem dX6_lastWriter_23 : decode cX6_lastWriter 23 = .ok (.goto 4, 3) := by decide +kernel
theorem dX6_lastWriter_26 : decode cX6_lastWriter 26 = .ok (.iload_n 3, 1) := by decide +kernel
theorem dX6_lastWriter_27 : decode cX6_lastWriter 27 = .ok (.istore_n 3, 1) := by decide +kernel
theorem dX6_lastWriter_28 : decode cX6_lastWriter 28 = .ok (.iinc 4 1, 3) := by decide +kernel
theorem dX6_lastWriter_31 : decode cX6_lastWriter 31 = .ok (.goto (-26), 3) := by decide +kernel
theorem dX6_lastWriter_34 : decode cX6_lastWriter 34 = .ok (.iload_n 3, 1) := by decide +kernel
theorem dX6_lastWriter_35 : decode cX6_lastWriter 35 = .ok (.ireturn, 1) := by decide +kernel
theorem dX6_writerOf_0 : decode cX6_writerOf 0 = .ok (.aload_n 0, 1) := by decide +kernel
theorem dX6_writerOf_1 : decode cX6_writerOf 1 = .ok (.iconst 0, 1) := by decide +kernel
theorem dX6_writerOf_2 : decode cX6_writerOf 2 = .ok (.putfield 1, 3) := by decide +kernel
theorem dX6_writerOf_5 : decode cX6_writerOf 5 = .ok (.iload_n 1, 1) := by decide +kernel
theorem dX6_writerOf_6 : decode cX6_writerOf 6 = .ok (.invokestatic 85, 3) := by decide +kernel
theorem dX6_writerOf_9 : decode cX6_writerOf 9 = .ok (.ifCond .eq 17, 3) := by decide +kernel
theorem dX6_writerOf_12 : decode cX6_writerOf 12 = .ok (.aload_n 0, 1) := by decide +kernel
theorem dX6_writerOf_13 : decode cX6_writerOf 13 = .ok (.iload_n 1, 1) := by decide +kernel
theorem dX6_writerOf_14 : decode cX6_writerOf 14 = .ok (.aload_n 0, 1) := by decide +kernel
theorem dX6_writerOf_15 : decode cX6_writerOf 15 = .ok (.getfield 113, 3) := by decide +kernel
theorem dX6_writerOf_18 : decode cX6_writerOf 18 = .ok (.iconst 1, 1) := by decide +kernel
theorem dX6_writerOf_19 : decode cX6_writerOf 19 = .ok (.iadd, 1) := by decide +kernel
theorem dX6_writerOf_20 : decode cX6_writerOf 20 = .ok (.invokevirtual 198, 3) := by decide +kernel
theorem dX6_writerOf_23 : decode cX6_writerOf 23 = .ok (.goto 8, 3) := by decide +kernel
theorem dX6_writerOf_26 : decode cX6_writerOf 26 = .ok (.aload_n 0, 1) := by decide +kernel
theorem dX6_writerOf_27 : decode cX6_writerOf 27 = .ok (.iconst 1, 1) := by decide +kernel
theorem dX6_writerOf_28 : decode cX6_writerOf 28 = .ok (.invokevirtual 107, 3) := by decide +kernel
theorem dX6_writerOf_31 : decode cX6_writerOf 31 = .ok (.ireturn, 1) := by decide +kernel
theorem dX6_isCommit_0 : decode cX6_isCommit 0 = .ok (.iload_n 1, 1) := by decide +kernel
theorem dX6_isCommit_1 : decode cX6_isCommit 1 = .ok (.iconst 1, 1) := by decide +kernel
theorem dX6_isCommit_2 : decode cX6_isCommit 2 = .ok (.aload_n 0, 1) := by decide +kernel
theorem dX6_isCommit_3 : decode cX6_isCommit 3 = .ok (.getfield 113, 3) := by decide +kernel
theorem dX6_isCommit_6 : decode cX6_isCommit 6 = .ok (.invokestatic 81, 3) := by decide +kernel
theorem dX6_isCommit_9 : decode cX6_isCommit 9 = .ok (.ireturn, 1) := by decide +kernel
theorem dX6_transactionOf_0 : decode cX6_transactionOf 0 = .ok (.aload_n 0, 1) := by decide +kernel
theorem dX6_transactionOf_1 : decode cX6_transactionOf 1 = .ok (.iconst 0, 1) := by decide +kernel
theorem dX6_transactionOf_2 : decode cX6_transactionOf 2 = .ok (.putfield 1, 3) := by decide +kernel
theorem dX6_transactionOf_5 : decode cX6_transactionOf 5 = .ok (.aload_n 0, 1) := by decide +kernel
theorem dX6_transactionOf_6 : decode cX6_transactionOf 6 = .ok (.iload_n 1, 1) := by decide +kernel
theorem dX6_transactionOf_7 : decode cX6_transactionOf 7 = .ok (.invokevirtual 201, 3) := by decide +kernel
theorem dX6_transactionOf_10 : decode cX6_transactionOf 10 = .ok (.ifCond .eq 12, 3) := by decide +kernel
theorem dX6_transactionOf_13 : decode cX6_transactionOf 13 = .ok (.aload_n 0, 1) := by decide +kernel
theorem dX6_transactionOf_14 : decode cX6_transactionOf 14 = .ok (.getfield 54, 3) := by decide +kernel
theorem dX6_transactionOf_17 : decode cX6_transactionOf 17 = .ok (.iload_n 1, 1) := by decide +kernel
theorem dX6_transactionOf_18 : decode cX6_transactionOf 18 = .ok (.iaload, 1) := by decide +kernel
theorem dX6_transactionOf_19 : decode cX6_transactionOf 19 = .ok (.goto 8, 3) := by decide +kernel
theorem dX6_transactionOf_22 : decode cX6_transactionOf 22 = .ok (.aload_n 0, 1) := by decide +kernel
theorem dX6_transactionOf_23 : decode cX6_transactionOf 23 = .ok (.iconst 1, 1) := by decide +kernel
theorem dX6_transactionOf_24 : decode cX6_transactionOf 24 = .ok (.invokevirtual 107, 3) := by decide +kernel
theorem dX6_transactionOf_27 : decode cX6_transactionOf 27 = .ok (.ireturn, 1) := by decide +kernel
theorem dX6_dependencyOf_0 : decode cX6_dependencyOf 0 = .ok (.aload_n 0, 1) := by decide +kernel
theorem dX6_dependencyOf_1 : decode cX6_dependencyOf 1 = .ok (.getfield 54, 3) := by decide +kernel
theorem dX6_dependencyOf_4 : decode cX6_dependencyOf 4 = .ok (.iload_n 1, 1) := by decide +kernel
theorem dX6_dependencyOf_5 : decode cX6_dependencyOf 5 = .ok (.iaload, 1) := by decide +kernel
theorem dX6_dependencyOf_6 : decode cX6_dependencyOf 6 = .ok (.istore_n 3, 1) := by decide +kernel
theorem dX6_dependencyOf_7 : decode cX6_dependencyOf 7 = .ok (.aload_n 0, 1) := by decide +kernel
theorem dX6_dependencyOf_8 : decode cX6_dependencyOf 8 = .ok (.getfield 54, 3) := by decide +kernel
theorem dX6_dependencyOf_11 : decode cX6_dependencyOf 11 = .ok (.iload_n 2, 1) := by decide +kernel
theorem dX6_dependencyOf_12 : decode cX6_dependencyOf 12 = .ok (.iaload, 1) := by decide +kernel
theorem dX6_dependencyOf_13 : decode cX6_dependencyOf 13 = .ok (.istore 4, 2) := by decide +kernel
theorem dX6_dependencyOf_15 : decode cX6_dependencyOf 15 = .ok (.iconst 0, 1) := by decide +kernel
theorem dX6_dependencyOf_16 : decode cX6_dependencyOf 16 = .ok (.istore 5, 2) := by decide +kernel
theorem dX6_dependencyOf_18 : decode cX6_dependencyOf 18 = .ok (.iconst 0, 1) := by decide +kernel
theorem dX6_dependencyOf_19 : decode cX6_dependencyOf 19 = .ok (.istore 6, 2) := by decide +kernel
theorem dX6_dependencyOf_21 : decode cX6_dependencyOf 21 = .ok (.iconst 0, 1) := by decide +kernel
theorem dX6_dependencyOf_22 : decode cX6_dependencyOf 22 = .ok (.istore 7, 2) := by decide +kernel
theorem dX6_dependencyOf_24 : decode cX6_dependencyOf 24 = .ok (.iconst 0, 1) := by decide +kernel
theorem dX6_dependencyOf_25 : decode cX6_dependencyOf 25 = .ok (.istore 8, 2) := by decide +kernel
theorem dX6_dependencyOf_27 : decode cX6_dependencyOf 27 = .ok (.iload 8, 2) := by decide +kernel
theorem dX6_dependencyOf_29 : decode cX6_dependencyOf 29 = .ok (.bipush 32, 2) := by decide +kernel
theorem dX6_dependencyOf_31 : decode cX6_dependencyOf 31 = .ok (.if_icmp .ge 156, 3) := by decide +kernel
theorem dX6_dependencyOf_34 : decode cX6_dependencyOf 34 = .ok (.aload_n 0, 1) := by decide +kernel
theorem dX6_dependencyOf_35 : decode cX6_dependencyOf 35 = .ok (.iload_n 2, 1) := by decide +kernel
theorem dX6_dependencyOf_36 : decode cX6_dependencyOf 36 = .ok (.iload 8, 2) := by decide +kernel
theorem dX6_dependencyOf_38 : decode cX6_dependencyOf 38 = .ok (.invokevirtual 168, 3) := by decide +kernel
theorem dX6_dependencyOf_41 : decode cX6_dependencyOf 41 = .ok (.istore 9, 2) := by decide +kernel
theorem dX6_dependencyOf_43 : decode cX6_dependencyOf 43 = .ok (.iload 5, 2) := by decide +kernel
theorem dX6_dependencyOf_45 : decode cX6_dependencyOf 45 = .ok (.ifCond .ne 41, 3) := by decide +kernel
theorem dX6_dependencyOf_48 : decode cX6_dependencyOf 48 = .ok (.aload_n 0, 1) := by decide +kernel
theorem dX6_dependencyOf_49 : decode cX6_dependencyOf 49 = .ok (.iload_n 1, 1) := by decide +kernel
theorem dX6_dependencyOf_50 : decode cX6_dependencyOf 50 = .ok (.iload 8, 2) := by decide +kernel
theorem dX6_dependencyOf_52 : decode cX6_dependencyOf 52 = .ok (.invokevirtual 168, 3) := by decide +kernel
theorem dX6_dependencyOf_55 : decode cX6_dependencyOf 55 = .ok (.ifCond .eq 35, 3) := by decide +kernel
theorem dX6_dependencyOf_58 : decode cX6_dependencyOf 58 = .ok (.aload_n 0, 1) := by decide +kernel
theorem dX6_dependencyOf_59 : decode cX6_dependencyOf 59 = .ok (.getfield 36, 3) := by decide +kernel
theorem dX6_dependencyOf_62 : decode cX6_dependencyOf 62 = .ok (.bipush 32, 2) := by decide +kernel
theorem dX6_dependencyOf_64 : decode cX6_dependencyOf 64 = .ok (.iload 4, 2) := by decide +kernel
theorem dX6_dependencyOf_66 : decode cX6_dependencyOf 66 = .ok (.imul, 1) := by decide +kernel
theorem dX6_dependencyOf_67 : decode cX6_dependencyOf 67 = .ok (.iload 8, 2) := by decide +kernel
theorem dX6_dependencyOf_69 : decode cX6_dependencyOf 69 = .ok (.iadd, 1) := by decide +kernel
theorem dX6_dependencyOf_70 : decode cX6_dependencyOf 70 = .ok (.iaload, 1) := by decide +kernel
theorem dX6_dependencyOf_71 : decode cX6_dependencyOf 71 = .ok (.iconst (-1), 1) := by decide +kernel
theorem dX6_dependencyOf_72 : decode cX6_dependencyOf 72 = .ok (.if_icmp .eq 18, 3) := by decide +kernel
theorem dX6_dependencyOf_75 : decode cX6_dependencyOf 75 = .ok (.aload_n 0, 1) := by decide +kernel
theorem dX6_dependencyOf_76 : decode cX6_dependencyOf 76 = .ok (.iload 8, 2) := by decide +kernel
theorem dX6_dependencyOf_78 : decode cX6_dependencyOf 78 = .ok (.iload_n 2, 1) := by decide +kernel
theorem dX6_dependencyOf_79 : decode cX6_dependencyOf 79 = .ok (.invokevirtual 198, 3) := by decide +kernel
theorem dX6_dependencyOf_82 : decode cX6_dependencyOf 82 = .ok (.iload_n 1, 1) := by decide +kernel
theorem dX6_dependencyOf_83 : decode cX6_dependencyOf 83 = .ok (.if_icmp .ne 7, 3) := by decide +kernel
theorem dX6_dependencyOf_86 : decode cX6_dependencyOf 86 = .ok (.iconst 1, 1) := by decide +kernel
theorem dX6_dependencyOf_87 : decode cX6_dependencyOf 87 = .ok (.goto 4, 3) := by decide +kernel
theorem dX6_dependencyOf_90 : decode cX6_dependencyOf 90 = .ok (.iconst 0, 1) := by decide +kernel
theorem dX6_dependencyOf_91 : decode cX6_dependencyOf 91 = .ok (.istore 5, 2) := by decide +kernel
theorem dX6_dependencyOf_93 : decode cX6_dependencyOf 93 = .ok (.iload 6, 2) := by decide +kernel
theorem dX6_dependencyOf_95 : decode cX6_dependencyOf 95 = .ok (.ifCond .ne 18, 3) := by decide +kernel
theorem dX6_dependencyOf_98 : decode cX6_dependencyOf 98 = .ok (.iload 9, 2) := by decide +kernel
theorem dX6_dependencyOf_100 : decode cX6_dependencyOf 100 = .ok (.ifCond .eq 17, 3) := by decide +kernel
theorem dX6_dependencyOf_103 : decode cX6_dependencyOf 103 = .ok (.aload_n 0, 1) := by decide +kernel
theorem dX6_dependencyOf_104 : decode cX6_dependencyOf 104 = .ok (.iload_n 1, 1) := by decide +kernel
theorem dX6_dependencyOf_105 : decode cX6_dependencyOf 105 = .ok (.iload 8, 2) := by decide +kernel
theorem dX6_dependencyOf_107 : decode cX6_dependencyOf 107 = .ok (.invokevirtual 168, 3) := by decide +kernel
theorem dX6_dependencyOf_110 : decode cX6_dependencyOf 110 = .ok (.ifCond .eq 7, 3) := by decide +kernel
theorem dX6_dependencyOf_113 : decode cX6_dependencyOf 113 = .ok (.iconst 1, 1) := by decide +kernel
theorem dX6_dependencyOf_114 : decode cX6_dependencyOf 114 = .ok (.goto 4, 3) := by decide +kernel
theorem dX6_dependencyOf_117 : decode cX6_dependencyOf 117 = .ok (.iconst 0, 1) := by decide +kernel
theorem dX6_dependencyOf_118 : decode cX6_dependencyOf 118 = .ok (.istore 6, 2) := by decide +kernel
theorem dX6_dependencyOf_120 : decode cX6_dependencyOf 120 = .ok (.iload 7, 2) := by decide +kernel
theorem dX6_dependencyOf_122 : decode cX6_dependencyOf 122 = .ok (.ifCond .ne 52, 3) := by decide +kernel
theorem dX6_dependencyOf_125 : decode cX6_dependencyOf 125 = .ok (.iload 9, 2) := by decide +kernel
theorem dX6_dependencyOf_127 : decode cX6_dependencyOf 127 = .ok (.ifCond .eq 51, 3) := by decide +kernel
theorem dX6_dependencyOf_130 : decode cX6_dependencyOf 130 = .ok (.aload_n 0, 1) := by decide +kernel
theorem dX6_dependencyOf_131 : decode cX6_dependencyOf 131 = .ok (.getfield 36, 3) := by decide +kernel
theorem dX6_dependencyOf_134 : decode cX6_dependencyOf 134 = .ok (.bipush 32, 2) := by decide +kernel
theorem dX6_dependencyOf_136 : decode cX6_dependencyOf 136 = .ok (.iload_n 3, 1) := by decide +kernel
theorem dX6_dependencyOf_137 : decode cX6_dependencyOf 137 = .ok (.imul, 1) := by decide +kernel
theorem dX6_dependencyOf_138 : decode cX6_dependencyOf 138 = .ok (.iload 8, 2) := by decide +kernel
theorem dX6_dependencyOf_140 : decode cX6_dependencyOf 140 = .ok (.iadd, 1) := by decide +kernel
theorem dX6_dependencyOf_141 : decode cX6_dependencyOf 141 = .ok (.iaload, 1) := by decide +kernel
theorem dX6_dependencyOf_142 : decode cX6_dependencyOf 142 = .ok (.iconst (-1), 1) := by decide +kernel
theorem dX6_dependencyOf_143 : decode cX6_dependencyOf 143 = .ok (.if_icmp .ne 31, 3) := by decide +kernel
theorem dX6_dependencyOf_146 : decode cX6_dependencyOf 146 = .ok (.aload_n 0, 1) := by decide +kernel
theorem dX6_dependencyOf_147 : decode cX6_dependencyOf 147 = .ok (.iload_n 3, 1) := by decide +kernel
theorem dX6_dependencyOf_148 : decode cX6_dependencyOf 148 = .ok (.bipush 61, 2) := by decide +kernel
theorem dX6_dependencyOf_150 : decode cX6_dependencyOf 150 = .ok (.iload 8, 2) := by decide +kernel
theorem dX6_dependencyOf_152 : decode cX6_dependencyOf 152 = .ok (.aload_n 0, 1) := by decide +kernel
theorem dX6_dependencyOf_153 : decode cX6_dependencyOf 153 = .ok (.iload_n 2, 1) := by decide +kernel
theorem dX6_dependencyOf_154 : decode cX6_dependencyOf 154 = .ok (.iconst 1, 1) := by decide +kernel
theorem dX6_dependencyOf_155 : decode cX6_dependencyOf 155 = .ok (.isub, 1) := by decide +kernel
theorem dX6_dependencyOf_156 : decode cX6_dependencyOf 156 = .ok (.iload 8, 2) := by decide +kernel
theorem dX6_dependencyOf_158 : decode cX6_dependencyOf 158 = .ok (.invokevirtual 116, 3) := by decide +kernel
theorem dX6_dependencyOf_161 : decode cX6_dependencyOf 161 = .ok (.aload_n 0, 1) := by decide +kernel
theorem dX6_dependencyOf_162 : decode cX6_dependencyOf 162 = .ok (.iload_n 2, 1) := by decide +kernel
theorem dX6_dependencyOf_163 : decode cX6_dependencyOf 163 = .ok (.iload 8, 2) := by decide +kernel
theorem dX6_dependencyOf_165 : decode cX6_dependencyOf 165 = .ok (.invokevirtual 116, 3) := by decide +kernel
theorem dX6_dependencyOf_168 : decode cX6_dependencyOf 168 = .ok (.invokevirtual 158, 3) := by decide +kernel
theorem dX6_dependencyOf_171 : decode cX6_dependencyOf 171 = .ok (.ifCond .eq 7, 3) := by decide +kernel
theorem dX6_dependencyOf_174 : decode cX6_dependencyOf 174 = .ok (.iconst 1, 1) := by decide +kernel
theorem dX6_dependencyOf_175 : decode cX6_dependencyOf 175 = .ok (.goto 4, 3) := by decide +kernel
theorem dX6_dependencyOf_178 : decode cX6_dependencyOf 178 = .ok (.iconst 0, 1) := by decide +kernel
theorem dX6_dependencyOf_179 : decode cX6_dependencyOf 179 = .ok (.istore 7, 2) := by decide +kernel
theorem dX6_dependencyOf_181 : decode cX6_dependencyOf 181 = .ok (.iinc 8 1, 3) := by decide +kernel
theorem dX6_dependencyOf_184 : decode cX6_dependencyOf 184 = .ok (.goto (-157), 3) := by decide +kernel
theorem dX6_dependencyOf_187 : decode cX6_dependencyOf 187 = .ok (.iload 5, 2) := by decide +kernel
theorem dX6_dependencyOf_189 : decode cX6_dependencyOf 189 = .ok (.ifCond .eq 7, 3) := by decide +kernel
theorem dX6_dependencyOf_192 : decode cX6_dependencyOf 192 = .ok (.iconst 1, 1) := by decide +kernel
theorem dX6_dependencyOf_193 : decode cX6_dependencyOf 193 = .ok (.goto 4, 3) := by decide +kernel
theorem dX6_dependencyOf_196 : decode cX6_dependencyOf 196 = .ok (.iconst 0, 1) := by decide +kernel
theorem dX6_dependencyOf_197 : decode cX6_dependencyOf 197 = .ok (.iload 6, 2) := by decide +kernel
theorem dX6_dependencyOf_199 : decode cX6_dependencyOf 199 = .ok (.ifCond .eq 7, 3) := by decide +kernel
theorem dX6_dependencyOf_202 : decode cX6_dependencyOf 202 = .ok (.iconst 2, 1) := by decide +kernel
theorem dX6_dependencyOf_203 : decode cX6_dependencyOf 203 = .ok (.goto 4, 3) := by decide +kernel
theorem dX6_dependencyOf_206 : decode cX6_dependencyOf 206 = .ok (.iconst 0, 1) := by decide +kernel
theorem dX6_dependencyOf_207 : decode cX6_dependencyOf 207 = .ok (.iadd, 1) := by decide +kernel
theorem dX6_dependencyOf_208 : decode cX6_dependencyOf 208 = .ok (.iload 7, 2) := by decide +kernel
theorem dX6_dependencyOf_210 : decode cX6_dependencyOf 210 = .ok (.ifCond .eq 7, 3) := by decide +kernel
theorem dX6_dependencyOf_213 : decode cX6_dependencyOf 213 = .ok (.iconst 4, 1) := by decide +kernel
theorem dX6_dependencyOf_214 : decode cX6_dependencyOf 214 = .ok (.goto 4, 3) := by decide +kernel
theorem dX6_dependencyOf_217 : decode cX6_dependencyOf 217 = .ok (.iconst 0, 1) := by decide +kernel
theorem dX6_dependencyOf_218 : decode cX6_dependencyOf 218 = .ok (.iadd, 1) := by decide +kernel
theorem dX6_dependencyOf_219 : decode cX6_dependencyOf 219 = .ok (.ireturn, 1) := by decide +kernel
theorem dX6_dependency_0 : decode cX6_dependency 0 = .ok (.aload_n 0, 1) := by decide +kernel
theorem dX6_dependency_1 : decode cX6_dependency 1 = .ok (.aload_n 0, 1) := by decide +kernel
theorem dX6_dependency_2 : decode cX6_dependency 2 = .ok (.iload_n 1, 1) := by decide +kernel
theorem dX6_dependency_3 : decode cX6_dependency 3 = .ok (.invokevirtual 201, 3) := by decide +kernel
theorem dX6_dependency_6 : decode cX6_dependency 6 = .ok (.ifCond .eq 11, 3) := by decide +kernel
theorem dX6_dependency_9 : decode cX6_dependency 9 = .ok (.aload_n 0, 1) := by decide +kernel
theorem dX6_dependency_10 : decode cX6_dependency 10 = .ok (.iload_n 2, 1) := by decide +kernel
theorem dX6_dependency_11 : decode cX6_dependency 11 = .ok (.invokevirtual 201, 3) := by decide +kernel
theorem dX6_dependency_14 : decode cX6_dependency 14 = .ok (.ifCond .ne 7, 3) := by decide +kernel
theorem dX6_dependency_17 : decode cX6_dependency 17 = .ok (.iconst 1, 1) := by decide +kernel
theorem dX6_dependency_18 : decode cX6_dependency 18 = .ok (.goto 13, 3) := by decide +kernel
theorem dX6_dependency_21 : decode cX6_dependency 21 = .ok (.iload_n 1, 1) := by decide +kernel
theorem dX6_dependency_22 : decode cX6_dependency 22 = .ok (.iload_n 2, 1) := by decide +kernel
theorem dX6_dependency_23 : decode cX6_dependency 23 = .ok (.if_icmp .lt 7, 3) := by decide +kernel
theorem dX6_dependency_26 : decode cX6_dependency 26 = .ok (.iconst 2, 1) := by decide +kernel
theorem dX6_dependency_27 : decode cX6_dependency 27 = .ok (.goto 4, 3) := by decide +kernel
theorem dX6_dependency_30 : decode cX6_dependency 30 = .ok (.iconst 0, 1) := by decide +kernel
theorem dX6_dependency_31 : decode cX6_dependency 31 = .ok (.putfield 1, 3) := by decide +kernel
theorem dX6_dependency_34 : decode cX6_dependency 34 = .ok (.aload_n 0, 1) := by decide +kernel
theorem dX6_dependency_35 : decode cX6_dependency 35 = .ok (.getfield 1, 3) := by decide +kernel
theorem dX6_dependency_38 : decode cX6_dependency 38 = .ok (.ifCond .ne 12, 3) := by decide +kernel
theorem dX6_dependency_41 : decode cX6_dependency 41 = .ok (.aload_n 0, 1) := by decide +kernel
theorem dX6_dependency_42 : decode cX6_dependency 42 = .ok (.iload_n 1, 1) := by decide +kernel
theorem dX6_dependency_43 : decode cX6_dependency 43 = .ok (.iload_n 2, 1) := by decide +kernel
theorem dX6_dependency_44 : decode cX6_dependency 44 = .ok (.invokevirtual 204, 3) := by decide +kernel
theorem dX6_dependency_47 : decode cX6_dependency 47 = .ok (.goto 4, 3) := by decide +kernel
theorem dX6_dependency_50 : decode cX6_dependency 50 = .ok (.iconst 0, 1) := by decide +kernel
theorem dX6_dependency_51 : decode cX6_dependency 51 = .ok (.ireturn, 1) := by decide +kernel
theorem dX6_longestChain_0 : decode cX6_longestChain 0 = .ok (.aload_n 0, 1) := by decide +kernel
theorem dX6_longestChain_1 : decode cX6_longestChain 1 = .ok (.iconst 0, 1) := by decide +kernel
theorem dX6_longestChain_2 : decode cX6_longestChain 2 = .ok (.putfield 1, 3) := by decide +kernel
theorem dX6_longestChain_5 : decode cX6_longestChain 5 = .ok (.iconst 0, 1) := by decide +kernel
theorem dX6_longestChain_6 : decode cX6_longestChain 6 = .ok (.istore_n 1, 1) := by decide +kernel
theorem dX6_longestChain_7 : decode cX6_longestChain 7 = .ok (.iconst 1, 1) := by decide +kernel
theorem dX6_longestChain_8 : decode cX6_longestChain 8 = .ok (.istore_n 2, 1) := by decide +kernel
theorem dX6_longestChain_9 : decode cX6_longestChain 9 = .ok (.iload_n 2, 1) := by decide +kernel
theorem dX6_longestChain_10 : decode cX6_longestChain 10 = .ok (.aload_n 0, 1) := by decide +kernel
theorem dX6_longestChain_11 : decode cX6_longestChain 11 = .ok (.getfield 113, 3) := by decide +kernel
theorem dX6_longestChain_14 : decode cX6_longestChain 14 = .ok (.if_icmp .gt 80, 3) := by decide +kernel
theorem dX6_longestChain_17 : decode cX6_longestChain 17 = .ok (.aload_n 0, 1) := by decide +kernel
theorem dX6_longestChain_18 : decode cX6_longestChain 18 = .ok (.getfield 63, 3) := by decide +kernel
theorem dX6_longestChain_21 : decode cX6_longestChain 21 = .ok (.iload_n 2, 1) := by decide +kernel
theorem dX6_longestChain_22 : decode cX6_longestChain 22 = .ok (.iconst 1, 1) := by decide +kernel
theorem dX6_longestChain_23 : decode cX6_longestChain 23 = .ok (.iastore, 1) := by decide +kernel
theorem dX6_longestChain_24 : decode cX6_longestChain 24 = .ok (.iconst 1, 1) := by decide +kernel
theorem dX6_longestChain_25 : decode cX6_longestChain 25 = .ok (.istore_n 3, 1) := by decide +kernel
theorem dX6_longestChain_26 : decode cX6_longestChain 26 = .ok (.iload_n 3, 1) := by decide +kernel
theorem dX6_longestChain_27 : decode cX6_longestChain 27 = .ok (.iload_n 2, 1) := by decide +kernel
theorem dX6_longestChain_28 : decode cX6_longestChain 28 = .ok (.if_icmp .ge 49, 3) := by decide +kernel
theorem dX6_longestChain_31 : decode cX6_longestChain 31 = .ok (.aload_n 0, 1) := by decide +kernel
theorem dX6_longestChain_32 : decode cX6_longestChain 32 = .ok (.getfield 63, 3) := by decide +kernel
theorem dX6_longestChain_35 : decode cX6_longestChain 35 = .ok (.iload_n 3, 1) := by decide +kernel
theorem dX6_longestChain_36 : decode cX6_longestChain 36 = .ok (.iaload, 1) := by decide +kernel
theorem dX6_longestChain_37 : decode cX6_longestChain 37 = .ok (.iconst 1, 1) := by decide +kernel
theorem dX6_longestChain_38 : decode cX6_longestChain 38 = .ok (.iadd, 1) := by decide +kernel
theorem dX6_longestChain_39 : decode cX6_longestChain 39 = .ok (.aload_n 0, 1) := by decide +kernel
theorem dX6_longestChain_40 : decode cX6_longestChain 40 = .ok (.getfield 63, 3) := by decide +kernel
theorem dX6_longestChain_43 : decode cX6_longestChain 43 = .ok (.iload_n 2, 1) := by decide +kernel
theorem dX6_longestChain_44 : decode cX6_longestChain 44 = .ok (.iaload, 1) := by decide +kernel
theorem dX6_longestChain_45 : decode cX6_longestChain 45 = .ok (.if_icmp .le 26, 3) := by decide +kernel
theorem dX6_longestChain_48 : decode cX6_longestChain 48 = .ok (.aload_n 0, 1) := by decide +kernel
theorem dX6_longestChain_49 : decode cX6_longestChain 49 = .ok (.iload_n 3, 1) := by decide +kernel
theorem dX6_longestChain_50 : decode cX6_longestChain 50 = .ok (.iload_n 2, 1) := by decide +kernel
theorem dX6_longestChain_51 : decode cX6_longestChain 51 = .ok (.invokevirtual 204, 3) := by decide +kernel
theorem dX6_longestChain_54 : decode cX6_longestChain 54 = .ok (.ifCond .eq 17, 3) := by decide +kernel
theorem dX6_longestChain_57 : decode cX6_longestChain 57 = .ok (.aload_n 0, 1) := by decide +kernel
theorem dX6_longestChain_58 : decode cX6_longestChain 58 = .ok (.getfield 63, 3) := by decide +kernel
theorem dX6_longestChain_61 : decode cX6_longestChain 61 = .ok (.iload_n 2, 1) := by decide +kernel
theorem dX6_longestChain_62 : decode cX6_longestChain 62 = .ok (.aload_n 0, 1) := by decide +kernel
theorem dX6_longestChain_63 : decode cX6_longestChain 63 = .ok (.getfield 63, 3) := by decide +kernel
theorem dX6_longestChain_66 : decode cX6_longestChain 66 = .ok (.iload_n 3, 1) := by decide +kernel
theorem dX6_longestChain_67 : decode cX6_longestChain 67 = .ok (.iaload, 1) := by decide +kernel
theorem dX6_longestChain_68 : decode cX6_longestChain 68 = .ok (.iconst 1, 1) := by decide +kernel
theorem dX6_longestChain_69 : decode cX6_longestChain 69 = .ok (.iadd, 1) := by decide +kernel
theorem dX6_longestChain_70 : decode cX6_longestChain 70 = .ok (.iastore, 1) := by decide +kernel
theorem dX6_longestChain_71 : decode cX6_longestChain 71 = .ok (.iinc 3 1, 3) := by decide +kernel
theorem dX6_longestChain_74 : decode cX6_longestChain 74 = .ok (.goto (-48), 3) := by decide +kernel
theorem dX6_longestChain_77 : decode cX6_longestChain 77 = .ok (.iload_n 1, 1) := by decide +kernel
theorem dX6_longestChain_78 : decode cX6_longestChain 78 = .ok (.aload_n 0, 1) := by decide +kernel
theorem dX6_longestChain_79 : decode cX6_longestChain 79 = .ok (.getfield 63, 3) := by decide +kernel
theorem dX6_longestChain_82 : decode cX6_longestChain 82 = .ok (.iload_n 2, 1) := by decide +kernel
theorem dX6_longestChain_83 : decode cX6_longestChain 83 = .ok (.iaload, 1) := by decide +kernel
theorem dX6_longestChain_84 : decode cX6_longestChain 84 = .ok (.invokestatic 207, 3) := by decide +kernel
theorem dX6_longestChain_87 : decode cX6_longestChain 87 = .ok (.istore_n 1, 1) := by decide +kernel
theorem dX6_longestChain_88 : decode cX6_longestChain 88 = .ok (.iinc 2 1, 3) := by decide +kernel
theorem dX6_longestChain_91 : decode cX6_longestChain 91 = .ok (.goto (-82), 3) := by decide +kernel
theorem dX6_longestChain_94 : decode cX6_longestChain 94 = .ok (.iload_n 1, 1) := by decide +kernel
theorem dX6_longestChain_95 : decode cX6_longestChain 95 = .ok (.ireturn, 1) := by decide +kernel
theorem dX6_again_0 : decode cX6_again 0 = .ok (.aload_n 0, 1) := by decide +kernel
theorem dX6_again_1 : decode cX6_again 1 = .ok (.getfield 33, 3) := by decide +kernel
theorem dX6_again_4 : decode cX6_again 4 = .ok (.iload_n 1, 1) := by decide +kernel
theorem dX6_again_5 : decode cX6_again 5 = .ok (.iconst 1, 1) := by decide +kernel
theorem dX6_again_6 : decode cX6_again 6 = .ok (.iadd, 1) := by decide +kernel
theorem dX6_again_7 : decode cX6_again 7 = .ok (.iaload, 1) := by decide +kernel
theorem dX6_again_8 : decode cX6_again 8 = .ok (.istore_n 2, 1) := by decide +kernel
theorem dX6_again_9 : decode cX6_again 9 = .ok (.aload_n 0, 1) := by decide +kernel
theorem dX6_again_10 : decode cX6_again 10 = .ok (.getfield 33, 3) := by decide +kernel
theorem dX6_again_13 : decode cX6_again 13 = .ok (.iload_n 1, 1) := by decide +kernel
theorem dX6_again_14 : decode cX6_again 14 = .ok (.iconst 2, 1) := by decide +kernel
theorem dX6_again_15 : decode cX6_again 15 = .ok (.iadd, 1) := by decide +kernel
theorem dX6_again_16 : decode cX6_again 16 = .ok (.iaload, 1) := by decide +kernel
theorem dX6_again_17 : decode cX6_again 17 = .ok (.istore_n 3, 1) := by decide +kernel
theorem dX6_again_18 : decode cX6_again 18 = .ok (.iconst 0, 1) := by decide +kernel
theorem dX6_again_19 : decode cX6_again 19 = .ok (.istore 4, 2) := by decide +kernel
theorem dX6_again_21 : decode cX6_again 21 = .ok (.aload_n 0, 1) := by decide +kernel
theorem dX6_again_22 : decode cX6_again 22 = .ok (.getfield 33, 3) := by decide +kernel
theorem dX6_again_25 : decode cX6_again 25 = .ok (.iload_n 1, 1) := by decide +kernel
theorem dX6_again_26 : decode cX6_again 26 = .ok (.iaload, 1) := by decide +kernel
theorem dX6_again_27 : decode cX6_again 27 = .ok (.tableswitch 153 0 4 #[33, 40, 86, 133, 142], 33) := by decide +kernel
theorem dX6_again_60 : decode cX6_again 60 = .ok (.aload_n 0, 1) := by decide +kernel
theorem dX6_again_61 : decode cX6_again 61 = .ok (.getfield 66, 3) := by decide +kernel
theorem dX6_again_64 : decode cX6_again 64 = .ok (.iload_n 2, 1) := by decide +kernel
theorem dX6_again_65 : decode cX6_again 65 = .ok (.iaload, 1) := by decide +kernel
theorem dX6_again_66 : decode cX6_again 66 = .ok (.ireturn, 1) := by decide +kernel
theorem dX6_again_67 : decode cX6_again 67 = .ok (.iload_n 2, 1) := by decide +kernel
theorem dX6_again_68 : decode cX6_again 68 = .ok (.istore 5, 2) := by decide +kernel
theorem dX6_again_70 : decode cX6_again 70 = .ok (.iload 5, 2) := by decide +kernel
theorem dX6_again_72 : decode cX6_again 72 = .ok (.iload_n 3, 1) := by decide +kernel
theorem dX6_again_73 : decode cX6_again 73 = .ok (.if_icmp .gt 37, 3) := by decide +kernel
theorem dX6_again_76 : decode cX6_again 76 = .ok (.iload 4, 2) := by decide +kernel
theorem dX6_again_78 : decode cX6_again 78 = .ok (.aload_n 0, 1) := by decide +kernel
theorem dX6_again_79 : decode cX6_again 79 = .ok (.getfield 66, 3) := by decide +kernel
theorem dX6_again_82 : decode cX6_again 82 = .ok (.iload 5, 2) := by decide +kernel
theorem dX6_again_84 : decode cX6_again 84 = .ok (.iaload, 1) := by decide +kernel
theorem dX6_again_85 : decode cX6_again 85 = .ok (.aload_n 0, 1) := by decide +kernel
theorem dX6_again_86 : decode cX6_again 86 = .ok (.getfield 33, 3) := by decide +kernel
theorem dX6_again_89 : decode cX6_again 89 = .ok (.iload_n 1, 1) := by decide +kernel
theorem dX6_again_90 : decode cX6_again 90 = .ok (.iconst 3, 1) := by decide +kernel
theorem dX6_again_91 : decode cX6_again 91 = .ok (.iadd, 1) := by decide +kernel
theorem dX6_again_92 : decode cX6_again 92 = .ok (.iaload, 1) := by decide +kernel
theorem dX6_again_93 : decode cX6_again 93 = .ok (.if_icmp .lt 7, 3) := by decide +kernel
theorem dX6_again_96 : decode cX6_again 96 = .ok (.iconst 1, 1) := by decide +kernel
theorem dX6_again_97 : decode cX6_again 97 = .ok (.goto 4, 3) := by decide +kernel
theorem dX6_again_100 : decode cX6_again 100 = .ok (.iconst 0, 1) := by decide +kernel
theorem dX6_again_101 : decode cX6_again 101 = .ok (.iadd, 1) := by decide +kernel
theorem dX6_again_102 : decode cX6_again 102 = .ok (.istore 4, 2) := by decide +kernel
theorem dX6_again_104 : decode cX6_again 104 = .ok (.iinc 5 1, 3) := by decide +kernel
theorem dX6_again_107 : decode cX6_again 107 = .ok (.goto (-37), 3) := by decide +kernel
theorem dX6_again_110 : decode cX6_again 110 = .ok (.iload 4, 2) := by decide +kernel
theorem dX6_again_112 : decode cX6_again 112 = .ok (.ireturn, 1) := by decide +kernel
theorem dX6_again_113 : decode cX6_again 113 = .ok (.iload_n 2, 1) := by decide +kernel
theorem dX6_again_114 : decode cX6_again 114 = .ok (.istore 5, 2) := by decide +kernel
theorem dX6_again_116 : decode cX6_again 116 = .ok (.iload 5, 2) := by decide +kernel
theorem dX6_again_118 : decode cX6_again 118 = .ok (.iload_n 3, 1) := by decide +kernel
theorem dX6_again_119 : decode cX6_again 119 = .ok (.if_icmp .gt 38, 3) := by decide +kernel
theorem dX6_again_122 : decode cX6_again 122 = .ok (.iload 4, 2) := by decide +kernel
theorem dX6_again_124 : decode cX6_again 124 = .ok (.aload_n 0, 1) := by decide +kernel
theorem dX6_again_125 : decode cX6_again 125 = .ok (.getfield 66, 3) := by decide +kernel
theorem dX6_again_128 : decode cX6_again 128 = .ok (.iload 5, 2) := by decide +kernel
theorem dX6_again_130 : decode cX6_again 130 = .ok (.iaload, 1) := by decide +kernel
theorem dX6_again_131 : decode cX6_again 131 = .ok (.sipush (-1000), 3) := by decide +kernel
theorem dX6_again_134 : decode cX6_again 134 = .ok (.if_icmp .ne 7, 3) := by decide +kernel
theorem dX6_again_137 : decode cX6_again 137 = .ok (.iconst 0, 1) := by decide +kernel
theorem dX6_again_138 : decode cX6_again 138 = .ok (.goto 10, 3) := by decide +kernel
theorem dX6_again_141 : decode cX6_again 141 = .ok (.aload_n 0, 1) := by decide +kernel
theorem dX6_again_142 : decode cX6_again 142 = .ok (.getfield 66, 3) := by decide +kernel
theorem dX6_again_145 : decode cX6_again 145 = .ok (.iload 5, 2) := by decide +kernel
theorem dX6_again_147 : decode cX6_again 147 = .ok (.iaload, 1) := by decide +kernel
theorem dX6_again_148 : decode cX6_again 148 = .ok (.iadd, 1) := by decide +kernel
theorem dX6_again_149 : decode cX6_again 149 = .ok (.istore 4, 2) := by decide +kernel
theorem dX6_again_151 : decode cX6_again 151 = .ok (.iinc 5 1, 3) := by decide +kernel
theorem dX6_again_154 : decode cX6_again 154 = .ok (.goto (-38), 3) := by decide +kernel
theorem dX6_again_157 : decode cX6_again 157 = .ok (.iload 4, 2) := by decide +kernel
theorem dX6_again_159 : decode cX6_again 159 = .ok (.ireturn, 1) := by decide +kernel
theorem dX6_again_160 : decode cX6_again 160 = .ok (.aload_n 0, 1) := by decide +kernel
theorem dX6_again_161 : decode cX6_again 161 = .ok (.getfield 66, 3) := by decide +kernel
theorem dX6_again_164 : decode cX6_again 164 = .ok (.iload_n 2, 1) := by decide +kernel
theorem dX6_again_165 : decode cX6_again 165 = .ok (.iload_n 3, 1) := by decide +kernel
theorem dX6_again_166 : decode cX6_again 166 = .ok (.iastore, 1) := by decide +kernel
theorem dX6_again_167 : decode cX6_again 167 = .ok (.iconst 0, 1) := by decide +kernel
theorem dX6_again_168 : decode cX6_again 168 = .ok (.ireturn, 1) := by decide +kernel
theorem dX6_again_169 : decode cX6_again 169 = .ok (.aload_n 0, 1) := by decide +kernel
theorem dX6_again_170 : decode cX6_again 170 = .ok (.getfield 66, 3) := by decide +kernel
theorem dX6_again_173 : decode cX6_again 173 = .ok (.iload_n 2, 1) := by decide +kernel
theorem dX6_again_174 : decode cX6_again 174 = .ok (.sipush (-1000), 3) := by decide +kernel
theorem dX6_again_177 : decode cX6_again 177 = .ok (.iastore, 1) := by decide +kernel
theorem dX6_again_178 : decode cX6_again 178 = .ok (.iconst 0, 1) := by decide +kernel
theorem dX6_again_179 : decode cX6_again 179 = .ok (.ireturn, 1) := by decide +kernel
theorem dX6_again_180 : decode cX6_again 180 = .ok (.aload_n 0, 1) := by decide +kernel
theorem dX6_again_181 : decode cX6_again 181 = .ok (.getfield 66, 3) := by decide +kernel
theorem dX6_again_184 : decode cX6_again 184 = .ok (.iload_n 2, 1) := by decide +kernel
theorem dX6_again_185 : decode cX6_again 185 = .ok (.aload_n 0, 1) := by decide +kernel
theorem dX6_again_186 : decode cX6_again 186 = .ok (.aload_n 0, 1) := by decide +kernel
theorem dX6_again_187 : decode cX6_again 187 = .ok (.getfield 66, 3) := by decide +kernel
theorem dX6_again_190 : decode cX6_again 190 = .ok (.iload_n 2, 1) := by decide +kernel
theorem dX6_again_191 : decode cX6_again 191 = .ok (.iaload, 1) := by decide +kernel
theorem dX6_again_192 : decode cX6_again 192 = .ok (.iload_n 3, 1) := by decide +kernel
theorem dX6_again_193 : decode cX6_again 193 = .ok (.invokevirtual 151, 3) := by decide +kernel
theorem dX6_again_196 : decode cX6_again 196 = .ok (.iastore, 1) := by decide +kernel
theorem dX6_again_197 : decode cX6_again 197 = .ok (.aload_n 0, 1) := by decide +kernel
theorem dX6_again_198 : decode cX6_again 198 = .ok (.getfield 66, 3) := by decide +kernel
theorem dX6_again_201 : decode cX6_again 201 = .ok (.iload_n 2, 1) := by decide +kernel
theorem dX6_again_202 : decode cX6_again 202 = .ok (.iaload, 1) := by decide +kernel
theorem dX6_again_203 : decode cX6_again 203 = .ok (.ireturn, 1) := by decide +kernel
theorem dX6_hasFault_0 : decode cX6_hasFault 0 = .ok (.aload_n 0, 1) := by decide +kernel
theorem dX6_hasFault_1 : decode cX6_hasFault 1 = .ok (.getfield 54, 3) := by decide +kernel
theorem dX6_hasFault_4 : decode cX6_hasFault 4 = .ok (.iload_n 1, 1) := by decide +kernel
theorem dX6_hasFault_5 : decode cX6_hasFault 5 = .ok (.iaload, 1) := by decide +kernel
theorem dX6_hasFault_6 : decode cX6_hasFault 6 = .ok (.istore_n 2, 1) := by decide +kernel
theorem dX6_hasFault_7 : decode cX6_hasFault 7 = .ok (.iconst 0, 1) := by decide +kernel
theorem dX6_hasFault_8 : decode cX6_hasFault 8 = .ok (.istore_n 3, 1) := by decide +kernel
theorem dX6_hasFault_9 : decode cX6_hasFault 9 = .ok (.iload_n 3, 1) := by decide +kernel
theorem dX6_hasFault_10 : decode cX6_hasFault 10 = .ok (.bipush 32, 2) := by decide +kernel
theorem dX6_hasFault_12 : decode cX6_hasFault 12 = .ok (.if_icmp .ge 23, 3) := by decide +kernel
theorem dX6_hasFault_15 : decode cX6_hasFault 15 = .ok (.aload_n 0, 1) := by decide +kernel
theorem dX6_hasFault_16 : decode cX6_hasFault 16 = .ok (.getfield 66, 3) := by decide +kernel
theorem dX6_hasFault_19 : decode cX6_hasFault 19 = .ok (.iload_n 3, 1) := by decide +kernel
theorem dX6_hasFault_20 : decode cX6_hasFault 20 = .ok (.aload_n 0, 1) := by decide +kernel
theorem dX6_hasFault_21 : decode cX6_hasFault 21 = .ok (.iload_n 1, 1) := by decide +kernel
theorem dX6_hasFault_22 : decode cX6_hasFault 22 = .ok (.iconst 1, 1) := by decide +kernel
theorem dX6_hasFault_23 : decode cX6_hasFault 23 = .ok (.isub, 1) := by decide +kernel
theorem dX6_hasFault_24 : decode cX6_hasFault 24 = .ok (.iload_n 3, 1) := by decide +kernel
theorem dX6_hasFault_25 : decode cX6_hasFault 25 = .ok (.invokevirtual 116, 3) := by decide +kernel
theorem dX6_hasFault_28 : decode cX6_hasFault 28 = .ok (.iastore, 1) := by decide +kernel
theorem dX6_hasFault_29 : decode cX6_hasFault 29 = .ok (.iinc 3 1, 3) := by decide +kernel
theorem dX6_hasFault_32 : decode cX6_hasFault 32 = .ok (.goto (-23), 3) := by decide +kernel
theorem dX6_hasFault_35 : decode cX6_hasFault 35 = .ok (.iconst 0, 1) := by decide +kernel
theorem dX6_hasFault_36 : decode cX6_hasFault 36 = .ok (.istore_n 3, 1) := by decide +kernel
theorem dX6_hasFault_37 : decode cX6_hasFault 37 = .ok (.iload_n 3, 1) := by decide +kernel
theorem dX6_hasFault_38 : decode cX6_hasFault 38 = .ok (.aload_n 0, 1) := by decide +kernel
theorem dX6_hasFault_39 : decode cX6_hasFault 39 = .ok (.getfield 30, 3) := by decide +kernel
theorem dX6_hasFault_42 : decode cX6_hasFault 42 = .ok (.iload_n 2, 1) := by decide +kernel
theorem dX6_hasFault_43 : decode cX6_hasFault 43 = .ok (.iaload, 1) := by decide +kernel
theorem dX6_hasFault_44 : decode cX6_hasFault 44 = .ok (.if_icmp .ge 39, 3) := by decide +kernel
theorem dX6_hasFault_47 : decode cX6_hasFault 47 = .ok (.iconst 5, 1) := by decide +kernel
theorem dX6_hasFault_48 : decode cX6_hasFault 48 = .ok (.bipush 24, 2) := by decide +kernel
theorem dX6_hasFault_50 : decode cX6_hasFault 50 = .ok (.iload_n 2, 1) := by decide +kernel
theorem dX6_hasFault_51 : decode cX6_hasFault 51 = .ok (.imul, 1) := by decide +kernel
theorem dX6_hasFault_52 : decode cX6_hasFault 52 = .ok (.iload_n 3, 1) := by decide +kernel
theorem dX6_hasFault_53 : decode cX6_hasFault 53 = .ok (.iadd, 1) := by decide +kernel
theorem dX6_hasFault_54 : decode cX6_hasFault 54 = .ok (.imul, 1) := by decide +kernel
theorem dX6_hasFault_55 : decode cX6_hasFault 55 = .ok (.istore 4, 2) := by decide +kernel
theorem dX6_hasFault_57 : decode cX6_hasFault 57 = .ok (.aload_n 0, 1) := by decide +kernel
theorem dX6_hasFault_58 : decode cX6_hasFault 58 = .ok (.iload 4, 2) := by decide +kernel
theorem dX6_hasFault_60 : decode cX6_hasFault 60 = .ok (.invokevirtual 212, 3) := by decide +kernel
theorem dX6_hasFault_63 : decode cX6_hasFault 63 = .ok (.aload_n 0, 1) := by decide +kernel
theorem dX6_hasFault_64 : decode cX6_hasFault 64 = .ok (.getfield 33, 3) := by decide +kernel
theorem dX6_hasFault_67 : decode cX6_hasFault 67 = .ok (.iload 4, 2) := by decide +kernel
theorem dX6_hasFault_69 : decode cX6_hasFault 69 = .ok (.iconst 4, 1) := by decide +kernel
theorem dX6_hasFault_70 : decode cX6_hasFault 70 = .ok (.iadd, 1) := by decide +kernel
theorem dX6_hasFault_71 : decode cX6_hasFault 71 = .ok (.iaload, 1) := by decide +kernel
theorem dX6_hasFault_72 : decode cX6_hasFault 72 = .ok (.if_icmp .eq 5, 3) := by decide +kernel
theorem dX6_hasFault_75 : decode cX6_hasFault 75 = .ok (.iconst 1, 1) := by decide +kernel
theorem dX6_hasFault_76 : decode cX6_hasFault 76 = .ok (.ireturn, 1) := by decide +kernel
theorem dX6_hasFault_77 : decode cX6_hasFault 77 = .ok (.iinc 3 1, 3) := by decide +kernel
theorem dX6_hasFault_80 : decode cX6_hasFault 80 = .ok (.goto (-43), 3) := by decide +kernel
theorem dX6_hasFault_83 : decode cX6_hasFault 83 = .ok (.iconst 0, 1) := by decide +kernel
theorem dX6_hasFault_84 : decode cX6_hasFault 84 = .ok (.ireturn, 1) := by decide +kernel
theorem dX6_serialFaults_0 : decode cX6_serialFaults 0 = .ok (.aload_n 0, 1) := by decide +kernel
theorem dX6_serialFaults_1 : decode cX6_serialFaults 1 = .ok (.iconst 0, 1) := by decide +kernel
theorem dX6_serialFaults_2 : decode cX6_serialFaults 2 = .ok (.putfield 1, 3) := by decide +kernel
theorem dX6_serialFaults_5 : decode cX6_serialFaults 5 = .ok (.iconst 0, 1) := by decide +kernel
theorem dX6_serialFaults_6 : decode cX6_serialFaults 6 = .ok (.istore_n 1, 1) := by decide +kernel
theorem dX6_serialFaults_7 : decode cX6_serialFaults 7 = .ok (.iconst 1, 1) := by decide +kernel
theorem dX6_serialFaults_8 : decode cX6_serialFaults 8 = .ok (.istore_n 2, 1) := by decide +kernel
theorem dX6_serialFaults_9 : decode cX6_serialFaults 9 = .ok (.iload_n 2, 1) := by decide +kernel
theorem dX6_serialFaults_10 : decode cX6_serialFaults 10 = .ok (.aload_n 0, 1) := by decide +kernel
theorem dX6_serialFaults_11 : decode cX6_serialFaults 11 = .ok (.getfield 113, 3) := by decide +kernel
theorem dX6_serialFaults_14 : decode cX6_serialFaults 14 = .ok (.if_icmp .gt 25, 3) := by decide +kernel
theorem dX6_serialFaults_17 : decode cX6_serialFaults 17 = .ok (.iload_n 1, 1) := by decide +kernel
theorem dX6_serialFaults_18 : decode cX6_serialFaults 18 = .ok (.aload_n 0, 1) := by decide +kernel
theorem dX6_serialFaults_19 : decode cX6_serialFaults 19 = .ok (.iload_n 2, 1) := by decide +kernel
theorem dX6_serialFaults_20 : decode cX6_serialFaults 20 = .ok (.invokevirtual 215, 3) := by decide +kernel
theorem dX6_serialFaults_23 : decode cX6_serialFaults 23 = .ok (.ifCond .eq 7, 3) := by decide +kernel
theorem dX6_serialFaults_26 : decode cX6_serialFaults 26 = .ok (.iconst 1, 1) := by decide +kernel
theorem dX6_serialFaults_27 : decode cX6_serialFaults 27 = .ok (.goto 4, 3) := by decide +kernel
theorem dX6_serialFaults_30 : decode cX6_serialFaults 30 = .ok (.iconst 0, 1) := by decide +kernel
theorem dX6_serialFaults_31 : decode cX6_serialFaults 31 = .ok (.iadd, 1) := by decide +kernel
theorem dX6_serialFaults_32 : decode cX6_serialFaults 32 = .ok (.istore_n 1, 1) := by decide +kernel
theorem dX6_serialFaults_33 : decode cX6_serialFaults 33 = .ok (.iinc 2 1, 3) := by decide +kernel
theorem dX6_serialFaults_36 : decode cX6_serialFaults 36 = .ok (.goto (-27), 3) := by decide +kernel
theorem dX6_serialFaults_39 : decode cX6_serialFaults 39 = .ok (.iload_n 1, 1) := by decide +kernel
theorem dX6_serialFaults_40 : decode cX6_serialFaults 40 = .ok (.ireturn, 1) := by decide +kernel
theorem dX6_rewind_0 : decode cX6_rewind 0 = .ok (.aload_n 0, 1) := by decide +kernel
theorem dX6_rewind_1 : decode cX6_rewind 1 = .ok (.iload_n 1, 1) := by decide +kernel
theorem dX6_rewind_2 : decode cX6_rewind 2 = .ok (.iconst 0, 1) := by decide +kernel
theorem dX6_rewind_3 : decode cX6_rewind 3 = .ok (.aload_n 0, 1) := by decide +kernel
theorem dX6_rewind_4 : decode cX6_rewind 4 = .ok (.getfield 113, 3) := by decide +kernel
theorem dX6_rewind_7 : decode cX6_rewind 7 = .ok (.invokestatic 81, 3) := by decide +kernel
theorem dX6_rewind_10 : decode cX6_rewind 10 = .ok (.ifCond .ne 7, 3) := by decide +kernel
theorem dX6_rewind_13 : decode cX6_rewind 13 = .ok (.iconst 1, 1) := by decide +kernel
theorem dX6_rewind_14 : decode cX6_rewind 14 = .ok (.goto 15, 3) := by decide +kernel
theorem dX6_rewind_17 : decode cX6_rewind 17 = .ok (.aload_n 0, 1) := by decide +kernel
theorem dX6_rewind_18 : decode cX6_rewind 18 = .ok (.invokevirtual 89, 3) := by decide +kernel
theorem dX6_rewind_21 : decode cX6_rewind 21 = .ok (.ifCond .le 7, 3) := by decide +kernel
theorem dX6_rewind_24 : decode cX6_rewind 24 = .ok (.iconst 2, 1) := by decide +kernel
theorem dX6_rewind_25 : decode cX6_rewind 25 = .ok (.goto 4, 3) := by decide +kernel
theorem dX6_rewind_28 : decode cX6_rewind 28 = .ok (.iconst 0, 1) := by decide +kernel
theorem dX6_rewind_29 : decode cX6_rewind 29 = .ok (.putfield 1, 3) := by decide +kernel
theorem dX6_rewind_32 : decode cX6_rewind 32 = .ok (.aload_n 0, 1) := by decide +kernel
theorem dX6_rewind_33 : decode cX6_rewind 33 = .ok (.getfield 1, 3) := by decide +kernel
theorem dX6_rewind_36 : decode cX6_rewind 36 = .ok (.ifCond .eq 5, 3) := by decide +kernel
theorem dX6_rewind_39 : decode cX6_rewind 39 = .ok (.iconst 0, 1) := by decide +kernel
theorem dX6_rewind_40 : decode cX6_rewind 40 = .ok (.ireturn, 1) := by decide +kernel
theorem dX6_rewind_41 : decode cX6_rewind 41 = .ok (.aload_n 0, 1) := by decide +kernel
theorem dX6_rewind_42 : decode cX6_rewind 42 = .ok (.getfield 113, 3) := by decide +kernel
theorem dX6_rewind_45 : decode cX6_rewind 45 = .ok (.iload_n 1, 1) := by decide +kernel
theorem dX6_rewind_46 : decode cX6_rewind 46 = .ok (.isub, 1) := by decide +kernel
theorem dX6_rewind_47 : decode cX6_rewind 47 = .ok (.istore_n 2, 1) := by decide +kernel
theorem dX6_rewind_48 : decode cX6_rewind 48 = .ok (.iload_n 1, 1) := by decide +kernel
theorem dX6_rewind_49 : decode cX6_rewind 49 = .ok (.iconst 1, 1) := by decide +kernel
theorem dX6_rewind_50 : decode cX6_rewind 50 = .ok (.iadd, 1) := by decide +kernel
theorem dX6_rewind_51 : decode cX6_rewind 51 = .ok (.istore_n 3, 1) := by decide +kernel
theorem dX6_rewind_52 : decode cX6_rewind 52 = .ok (.iload_n 3, 1) := by decide +kernel
theorem dX6_rewind_53 : decode cX6_rewind 53 = .ok (.aload_n 0, 1) := by decide +kernel
theorem dX6_rewind_54 : decode cX6_rewind 54 = .ok (.getfield 113, 3) := by decide +kernel
theorem dX6_rewind_57 : decode cX6_rewind 57 = .ok (.if_icmp .gt 21, 3) := by decide +kernel
theorem dX6_rewind_60 : decode cX6_rewind 60 = .ok (.aload_n 0, 1) := by decide +kernel
theorem dX6_rewind_61 : decode cX6_rewind 61 = .ok (.aload_n 0, 1) := by decide +kernel
theorem dX6_rewind_62 : decode cX6_rewind 62 = .ok (.getfield 54, 3) := by decide +kernel
theorem dX6_rewind_65 : decode cX6_rewind 65 = .ok (.iload_n 3, 1) := by decide +kernel
theorem dX6_rewind_66 : decode cX6_rewind 66 = .ok (.iaload, 1) := by decide +kernel
theorem dX6_rewind_67 : decode cX6_rewind 67 = .ok (.bipush 6, 2) := by decide +kernel
theorem dX6_rewind_69 : decode cX6_rewind 69 = .ok (.invokevirtual 192, 3) := by decide +kernel
theorem dX6_rewind_72 : decode cX6_rewind 72 = .ok (.iinc 3 1, 3) := by decide +kernel
theorem dX6_rewind_75 : decode cX6_rewind 75 = .ok (.goto (-23), 3) := by decide +kernel
theorem dX6_rewind_78 : decode cX6_rewind 78 = .ok (.aload_n 0, 1) := by decide +kernel
theorem dX6_rewind_79 : decode cX6_rewind 79 = .ok (.iload_n 1, 1) := by decide +kernel
theorem dX6_rewind_80 : decode cX6_rewind 80 = .ok (.putfield 113, 3) := by decide +kernel
theorem dX6_rewind_83 : decode cX6_rewind 83 = .ok (.iload_n 2, 1) := by decide +kernel
theorem dX6_rewind_84 : decode cX6_rewind 84 = .ok (.ireturn, 1) := by decide +kernel
theorem dX6_addConstraint_0 : decode cX6_addConstraint 0 = .ok (.aload_n 0, 1) := by decide +kernel
theorem dX6_addConstraint_1 : decode cX6_addConstraint 1 = .ok (.iconst 0, 1) := by decide +kernel
theorem dX6_addConstraint_2 : decode cX6_addConstraint 2 = .ok (.putfield 1, 3) := by decide +kernel
theorem dX6_addConstraint_5 : decode cX6_addConstraint 5 = .ok (.iload_n 1, 1) := by decide +kernel
theorem dX6_addConstraint_6 : decode cX6_addConstraint 6 = .ok (.iconst 0, 1) := by decide +kernel
theorem dX6_addConstraint_7 : decode cX6_addConstraint 7 = .ok (.iconst 2, 1) := by decide +kernel
theorem dX6_addConstraint_8 : decode cX6_addConstraint 8 = .ok (.invokestatic 81, 3) := by decide +kernel
theorem dX6_addConstraint_11 : decode cX6_addConstraint 11 = .ok (.ifCond .eq 11, 3) := by decide +kernel
theorem dX6_addConstraint_14 : decode cX6_addConstraint 14 = .ok (.iload_n 2, 1) := by decide +kernel
theorem dX6_addConstraint_15 : decode cX6_addConstraint 15 = .ok (.iload_n 3, 1) := by decide +kernel
theorem dX6_addConstraint_16 : decode cX6_addConstraint 16 = .ok (.invokestatic 135, 3) := by decide +kernel
theorem dX6_addConstraint_19 : decode cX6_addConstraint 19 = .ok (.ifCond .ne 9, 3) := by decide +kernel
theorem dX6_addConstraint_22 : decode cX6_addConstraint 22 = .ok (.aload_n 0, 1) := by decide +kernel
theorem dX6_addConstraint_23 : decode cX6_addConstraint 23 = .ok (.iconst 1, 1) := by decide +kernel
theorem dX6_addConstraint_24 : decode cX6_addConstraint 24 = .ok (.invokevirtual 107, 3) := by decide +kernel
theorem dX6_addConstraint_27 : decode cX6_addConstraint 27 = .ok (.ireturn, 1) := by decide +kernel
theorem dX6_addConstraint_28 : decode cX6_addConstraint 28 = .ok (.aload_n 0, 1) := by decide +kernel
theorem dX6_addConstraint_29 : decode cX6_addConstraint 29 = .ok (.getfield 180, 3) := by decide +kernel
theorem dX6_addConstraint_32 : decode cX6_addConstraint 32 = .ok (.iconst 3, 1) := by decide +kernel
theorem dX6_addConstraint_33 : decode cX6_addConstraint 33 = .ok (.if_icmp .ne 9, 3) := by decide +kernel
theorem dX6_addConstraint_36 : decode cX6_addConstraint 36 = .ok (.aload_n 0, 1) := by decide +kernel
theorem dX6_addConstraint_37 : decode cX6_addConstraint 37 = .ok (.iconst 2, 1) := by decide +kernel
theorem dX6_addConstraint_38 : decode cX6_addConstraint 38 = .ok (.invokevirtual 107, 3) := by decide +kernel
theorem dX6_addConstraint_41 : decode cX6_addConstraint 41 = .ok (.ireturn, 1) := by decide +kernel
theorem dX6_addConstraint_42 : decode cX6_addConstraint 42 = .ok (.iconst 4, 1) := by decide +kernel
theorem dX6_addConstraint_43 : decode cX6_addConstraint 43 = .ok (.aload_n 0, 1) := by decide +kernel
theorem dX6_addConstraint_44 : decode cX6_addConstraint 44 = .ok (.getfield 180, 3) := by decide +kernel
theorem dX6_addConstraint_47 : decode cX6_addConstraint 47 = .ok (.imul, 1) := by decide +kernel
theorem dX6_addConstraint_48 : decode cX6_addConstraint 48 = .ok (.istore 5, 2) := by decide +kernel
theorem dX6_addConstraint_50 : decode cX6_addConstraint 50 = .ok (.aload_n 0, 1) := by decide +kernel
theorem dX6_addConstraint_51 : decode cX6_addConstraint 51 = .ok (.getfield 60, 3) := by decide +kernel
theorem dX6_addConstraint_54 : decode cX6_addConstraint 54 = .ok (.iload 5, 2) := by decide +kernel
theorem dX6_addConstraint_56 : decode cX6_addConstraint 56 = .ok (.iload_n 1, 1) := by decide +kernel
theorem dX6_addConstraint_57 : decode cX6_addConstraint 57 = .ok (.iastore, 1) := by decide +kernel
theorem dX6_addConstraint_58 : decode cX6_addConstraint 58 = .ok (.aload_n 0, 1) := by decide +kernel
theorem dX6_addConstraint_59 : decode cX6_addConstraint 59 = .ok (.getfield 60, 3) := by decide +kernel
theorem dX6_addConstraint_62 : decode cX6_addConstraint 62 = .ok (.iload 5, 2) := by decide +kernel
theorem dX6_addConstraint_64 : decode cX6_addConstraint 64 = .ok (.iconst 1, 1) := by decide +kernel
theorem dX6_addConstraint_65 : decode cX6_addConstraint 65 = .ok (.iadd, 1) := by decide +kernel
theorem dX6_addConstraint_66 : decode cX6_addConstraint 66 = .ok (.iload_n 2, 1) := by decide +kernel
theorem dX6_addConstraint_67 : decode cX6_addConstraint 67 = .ok (.iastore, 1) := by decide +kernel
theorem dX6_addConstraint_68 : decode cX6_addConstraint 68 = .ok (.aload_n 0, 1) := by decide +kernel
theorem dX6_addConstraint_69 : decode cX6_addConstraint 69 = .ok (.getfield 60, 3) := by decide +kernel
theorem dX6_addConstraint_72 : decode cX6_addConstraint 72 = .ok (.iload 5, 2) := by decide +kernel
theorem dX6_addConstraint_74 : decode cX6_addConstraint 74 = .ok (.iconst 2, 1) := by decide +kernel
theorem dX6_addConstraint_75 : decode cX6_addConstraint 75 = .ok (.iadd, 1) := by decide +kernel
theorem dX6_addConstraint_76 : decode cX6_addConstraint 76 = .ok (.iload_n 3, 1) := by decide +kernel
theorem dX6_addConstraint_77 : decode cX6_addConstraint 77 = .ok (.iastore, 1) := by decide +kernel
theorem dX6_addConstraint_78 : decode cX6_addConstraint 78 = .ok (.aload_n 0, 1) := by decide +kernel
theorem dX6_addConstraint_79 : decode cX6_addConstraint 79 = .ok (.getfield 60, 3) := by decide +kernel
theorem dX6_addConstraint_82 : decode cX6_addConstraint 82 = .ok (.iload 5, 2) := by decide +kernel
theorem dX6_addConstraint_84 : decode cX6_addConstraint 84 = .ok (.iconst 3, 1) := by decide +kernel
theorem dX6_addConstraint_85 : decode cX6_addConstraint 85 = .ok (.iadd, 1) := by decide +kernel
theorem dX6_addConstraint_86 : decode cX6_addConstraint 86 = .ok (.iload 4, 2) := by decide +kernel
theorem dX6_addConstraint_88 : decode cX6_addConstraint 88 = .ok (.iastore, 1) := by decide +kernel
theorem dX6_addConstraint_89 : decode cX6_addConstraint 89 = .ok (.aload_n 0, 1) := by decide +kernel
theorem dX6_addConstraint_90 : decode cX6_addConstraint 90 = .ok (.aload_n 0, 1) := by decide +kernel
theorem dX6_addConstraint_91 : decode cX6_addConstraint 91 = .ok (.getfield 180, 3) := by decide +kernel
theorem dX6_addConstraint_94 : decode cX6_addConstraint 94 = .ok (.iconst (-1), 1) := by decide +kernel
theorem dX6_addConstraint_95 : decode cX6_addConstraint 95 = .ok (.invokevirtual 183, 3) := by decide +kernel
theorem dX6_addConstraint_98 : decode cX6_addConstraint 98 = .ok (.ifCond .eq 9, 3) := by decide +kernel
theorem dX6_addConstraint_101 : decode cX6_addConstraint 101 = .ok (.aload_n 0, 1) := by decide +kernel
theorem dX6_addConstraint_102 : decode cX6_addConstraint 102 = .ok (.iconst 2, 1) := by decide +kernel
theorem dX6_addConstraint_103 : decode cX6_addConstraint 103 = .ok (.invokevirtual 107, 3) := by decide +kernel
theorem dX6_addConstraint_106 : decode cX6_addConstraint 106 = .ok (.ireturn, 1) := by decide +kernel
theorem dX6_addConstraint_107 : decode cX6_addConstraint 107 = .ok (.aload_n 0, 1) := by decide +kernel
theorem dX6_addConstraint_108 : decode cX6_addConstraint 108 = .ok (.dup, 1) := by decide +kernel
theorem dX6_addConstraint_109 : decode cX6_addConstraint 109 = .ok (.getfield 180, 3) := by decide +kernel
theorem dX6_addConstraint_112 : decode cX6_addConstraint 112 = .ok (.iconst 1, 1) := by decide +kernel
theorem dX6_addConstraint_113 : decode cX6_addConstraint 113 = .ok (.iadd, 1) := by decide +kernel
theorem dX6_addConstraint_114 : decode cX6_addConstraint 114 = .ok (.putfield 180, 3) := by decide +kernel
theorem dX6_addConstraint_117 : decode cX6_addConstraint 117 = .ok (.aload_n 0, 1) := by decide +kernel
theorem dX6_addConstraint_118 : decode cX6_addConstraint 118 = .ok (.getfield 180, 3) := by decide +kernel
theorem dX6_addConstraint_121 : decode cX6_addConstraint 121 = .ok (.iconst 1, 1) := by decide +kernel
theorem dX6_addConstraint_122 : decode cX6_addConstraint 122 = .ok (.isub, 1) := by decide +kernel
theorem dX6_addConstraint_123 : decode cX6_addConstraint 123 = .ok (.ireturn, 1) := by decide +kernel
theorem dX6_clearConstraints_0 : decode cX6_clearConstraints 0 = .ok (.aload_n 0, 1) := by decide +kernel
theorem dX6_clearConstraints_1 : decode cX6_clearConstraints 1 = .ok (.iconst 0, 1) := by decide +kernel
theorem dX6_clearConstraints_2 : decode cX6_clearConstraints 2 = .ok (.putfield 1, 3) := by decide +kernel
theorem dX6_clearConstraints_5 : decode cX6_clearConstraints 5 = .ok (.aload_n 0, 1) := by decide +kernel
theorem dX6_clearConstraints_6 : decode cX6_clearConstraints 6 = .ok (.getfield 180, 3) := by decide +kernel
theorem dX6_clearConstraints_9 : decode cX6_clearConstraints 9 = .ok (.istore_n 1, 1) := by decide +kernel
theorem dX6_clearConstraints_10 : decode cX6_clearConstraints 10 = .ok (.aload_n 0, 1) := by decide +kernel
theorem dX6_clearConstraints_11 : decode cX6_clearConstraints 11 = .ok (.iconst 0, 1) := by decide +kernel
theorem dX6_clearConstraints_12 : decode cX6_clearConstraints 12 = .ok (.putfield 180, 3) := by decide +kernel
theorem dX6_clearConstraints_15 : decode cX6_clearConstraints 15 = .ok (.iload_n 1, 1) := by decide +kernel
theorem dX6_clearConstraints_16 : decode cX6_clearConstraints 16 = .ok (.ireturn, 1) := by decide +kernel
theorem dX6_countOf_0 : decode cX6_countOf 0 = .ok (.iconst 0, 1) := by decide +kernel
theorem dX6_countOf_1 : decode cX6_countOf 1 = .ok (.istore_n 3, 1) := by decide +kernel
theorem dX6_countOf_2 : decode cX6_countOf 2 = .ok (.iconst 0, 1) := by decide +kernel
theorem dX6_countOf_3 : decode cX6_countOf 3 = .ok (.istore 4, 2) := by decide +kernel
theorem dX6_countOf_5 : decode cX6_countOf 5 = .ok (.iload 4, 2) := by decide +kernel
theorem dX6_countOf_7 : decode cX6_countOf 7 = .ok (.aload_n 0, 1) := by decide +kernel
theorem dX6_countOf_8 : decode cX6_countOf 8 = .ok (.getfield 78, 3) := by decide +kernel
theorem dX6_countOf_11 : decode cX6_countOf 11 = .ok (.if_icmp .ge 43, 3) := by decide +kernel
theorem dX6_countOf_14 : decode cX6_countOf 14 = .ok (.iload_n 3, 1) := by decide +kernel
theorem dX6_countOf_15 : decode cX6_countOf 15 = .ok (.aload_n 0, 1) := by decide +kernel
theorem dX6_countOf_16 : decode cX6_countOf 16 = .ok (.getfield 13, 3) := by decide +kernel
theorem dX6_countOf_19 : decode cX6_countOf 19 = .ok (.iload 4, 2) := by decide +kernel
theorem dX6_countOf_21 : decode cX6_countOf 21 = .ok (.iaload, 1) := by decide +kernel
theorem dX6_countOf_22 : decode cX6_countOf 22 = .ok (.iload_n 1, 1) := by decide +kernel
theorem dX6_countOf_23 : decode cX6_countOf 23 = .ok (.if_icmp .ne 22, 3) := by decide +kernel
theorem dX6_countOf_26 : decode cX6_countOf 26 = .ok (.iload_n 2, 1) := by decide +kernel
theorem dX6_countOf_27 : decode cX6_countOf 27 = .ok (.ifCond .eq 14, 3) := by decide +kernel
theorem dX6_countOf_30 : decode cX6_countOf 30 = .ok (.aload_n 0, 1) := by decide +kernel
theorem dX6_countOf_31 : decode cX6_countOf 31 = .ok (.getfield 20, 3) := by decide +kernel
theorem dX6_countOf_34 : decode cX6_countOf 34 = .ok (.iload 4, 2) := by decide +kernel
theorem dX6_countOf_36 : decode cX6_countOf 36 = .ok (.iaload, 1) := by decide +kernel
theorem dX6_countOf_37 : decode cX6_countOf 37 = .ok (.iload_n 2, 1) := by decide +kernel
theorem dX6_countOf_38 : decode cX6_countOf 38 = .ok (.if_icmp .ne 7, 3) := by decide +kernel
theorem dX6_countOf_41 : decode cX6_countOf 41 = .ok (.iconst 1, 1) := by decide +kernel
theorem dX6_countOf_42 : decode cX6_countOf 42 = .ok (.goto 4, 3) := by decide +kernel
theorem dX6_countOf_45 : decode cX6_countOf 45 = .ok (.iconst 0, 1) := by decide +kernel
theorem dX6_countOf_46 : decode cX6_countOf 46 = .ok (.iadd, 1) := by decide +kernel
theorem dX6_countOf_47 : decode cX6_countOf 47 = .ok (.istore_n 3, 1) := by decide +kernel
theorem dX6_countOf_48 : decode cX6_countOf 48 = .ok (.iinc 4 1, 3) := by decide +kernel
theorem dX6_countOf_51 : decode cX6_countOf 51 = .ok (.goto (-46), 3) := by decide +kernel
theorem dX6_countOf_54 : decode cX6_countOf 54 = .ok (.iload_n 3, 1) := by decide +kernel
theorem dX6_countOf_55 : decode cX6_countOf 55 = .ok (.ireturn, 1) := by decide +kernel
theorem dX6_aborts_0 : decode cX6_aborts 0 = .ok (.aload_n 0, 1) := by decide +kernel
theorem dX6_aborts_1 : decode cX6_aborts 1 = .ok (.iconst 0, 1) := by decide +kernel
theorem dX6_aborts_2 : decode cX6_aborts 2 = .ok (.putfield 1, 3) := by decide +kernel
theorem dX6_aborts_5 : decode cX6_aborts 5 = .ok (.iload_n 1, 1) := by decide +kernel
theorem dX6_aborts_6 : decode cX6_aborts 6 = .ok (.iconst 1, 1) := by decide +kernel
theorem dX6_aborts_7 : decode cX6_aborts 7 = .ok (.bipush 6, 2) := by decide +kernel
theorem dX6_aborts_9 : decode cX6_aborts 9 = .ok (.invokestatic 81, 3) := by decide +kernel
theorem dX6_aborts_12 : decode cX6_aborts 12 = .ok (.ifCond .eq 12, 3) := by decide +kernel
theorem dX6_aborts_15 : decode cX6_aborts 15 = .ok (.aload_n 0, 1) := by decide +kernel
theorem dX6_aborts_16 : decode cX6_aborts 16 = .ok (.iconst 2, 1) := by decide +kernel
theorem dX6_aborts_17 : decode cX6_aborts 17 = .ok (.iload_n 1, 1) := by decide +kernel
theorem dX6_aborts_18 : decode cX6_aborts 18 = .ok (.invokevirtual 218, 3) := by decide +kernel
theorem dX6_aborts_21 : decode cX6_aborts 21 = .ok (.goto 8, 3) := by decide +kernel
theorem dX6_aborts_24 : decode cX6_aborts 24 = .ok (.aload_n 0, 1) := by decide +kernel
theorem dX6_aborts_25 : decode cX6_aborts 25 = .ok (.iconst 1, 1) := by decide +kernel
theorem dX6_aborts_26 : decode cX6_aborts 26 = .ok (.invokevirtual 107, 3) := by decide +kernel
theorem dX6_aborts_29 : decode cX6_aborts 29 = .ok (.ireturn, 1) := by decide +kernel
theorem dX6_averageAttempts_0 : decode cX6_averageAttempts 0 = .ok (.aload_n 0, 1) := by decide +kernel
theorem dX6_averageAttempts_1 : decode cX6_averageAttempts 1 = .ok (.iconst 0, 1) := by decide +kernel
theorem dX6_averageAttempts_2 : decode cX6_averageAttempts 2 = .ok (.putfield 1, 3) := by decide +kernel
theorem dX6_averageAttempts_5 : decode cX6_averageAttempts 5 = .ok (.iconst 0, 1) := by decide +kernel
theorem dX6_averageAttempts_6 : decode cX6_averageAttempts 6 = .ok (.istore_n 1, 1) := by decide +kernel
theorem dX6_averageAttempts_7 : decode cX6_averageAttempts 7 = .ok (.iconst 0, 1) := by decide +kernel
theorem dX6_averageAttempts_8 : decode cX6_averageAttempts 8 = .ok (.istore_n 2, 1) := by decide +kernel
theorem dX6_averageAttempts_9 : decode cX6_averageAttempts 9 = .ok (.iload_n 2, 1) := by decide +kernel
theorem dX6_averageAttempts_10 : decode cX6_averageAttempts 10 = .ok (.aload_n 0, 1) := by decide +kernel
theorem dX6_averageAttempts_11 : decode cX6_averageAttempts 11 = .ok (.getfield 78, 3) := by decide +kernel
theorem dX6_averageAttempts_14 : decode cX6_averageAttempts 14 = .ok (.if_icmp .ge 32, 3) := by decide +kernel
theorem dX6_averageAttempts_17 : decode cX6_averageAttempts 17 = .ok (.iload_n 1, 1) := by decide +kernel
theorem dX6_averageAttempts_18 : decode cX6_averageAttempts 18 = .ok (.aload_n 0, 1) := by decide +kernel
theorem dX6_averageAttempts_19 : decode cX6_averageAttempts 19 = .ok (.getfield 13, 3) := by decide +kernel
theorem dX6_averageAttempts_22 : decode cX6_averageAttempts 22 = .ok (.iload_n 2, 1) := by decide +kernel
theorem dX6_averageAttempts_23 : decode cX6_averageAttempts 23 = .ok (.iaload, 1) := by decide +kernel
theorem dX6_averageAttempts_24 : decode cX6_averageAttempts 24 = .ok (.iconst 1, 1) := by decide +kernel
theorem dX6_averageAttempts_25 : decode cX6_averageAttempts 25 = .ok (.if_icmp .ne 12, 3) := by decide +kernel
theorem dX6_averageAttempts_28 : decode cX6_averageAttempts 28 = .ok (.aload_n 0, 1) := by decide +kernel
theorem dX6_averageAttempts_29 : decode cX6_averageAttempts 29 = .ok (.getfield 17, 3) := by decide +kernel
theorem dX6_averageAttempts_32 : decode cX6_averageAttempts 32 = .ok (.iload_n 2, 1) := by decide +kernel
theorem dX6_averageAttempts_33 : decode cX6_averageAttempts 33 = .ok (.iaload, 1) := by decide +kernel
theorem dX6_averageAttempts_34 : decode cX6_averageAttempts 34 = .ok (.goto 4, 3) := by decide +kernel
theorem dX6_averageAttempts_37 : decode cX6_averageAttempts 37 = .ok (.iconst 0, 1) := by decide +kernel
theorem dX6_averageAttempts_38 : decode cX6_averageAttempts 38 = .ok (.iadd, 1) := by decide +kernel
theorem dX6_averageAttempts_39 : decode cX6_averageAttempts 39 = .ok (.istore_n 1, 1) := by decide +kernel
theorem dX6_averageAttempts_40 : decode cX6_averageAttempts 40 = .ok (.iinc 2 1, 3) := by decide +kernel
theorem dX6_averageAttempts_43 : decode cX6_averageAttempts 43 = .ok (.goto (-34), 3) := by decide +kernel
theorem dX6_averageAttempts_46 : decode cX6_averageAttempts 46 = .ok (.aload_n 0, 1) := by decide +kernel
theorem dX6_averageAttempts_47 : decode cX6_averageAttempts 47 = .ok (.iconst 1, 1) := by decide +kernel
theorem dX6_averageAttempts_48 : decode cX6_averageAttempts 48 = .ok (.iconst 0, 1) := by decide +kernel
theorem dX6_averageAttempts_49 : decode cX6_averageAttempts 49 = .ok (.invokevirtual 218, 3) := by decide +kernel
theorem dX6_averageAttempts_52 : decode cX6_averageAttempts 52 = .ok (.istore_n 2, 1) := by decide +kernel
theorem dX6_averageAttempts_53 : decode cX6_averageAttempts 53 = .ok (.iload_n 2, 1) := by decide +kernel
theorem dX6_averageAttempts_54 : decode cX6_averageAttempts 54 = .ok (.ifCond .ne 12, 3) := by decide +kernel
theorem dX6_averageAttempts_57 : decode cX6_averageAttempts 57 = .ok (.aload_n 0, 1) := by decide +kernel
theorem dX6_averageAttempts_58 : decode cX6_averageAttempts 58 = .ok (.iconst 1, 1) := by decide +kernel
theorem dX6_averageAttempts_59 : decode cX6_averageAttempts 59 = .ok (.invokevirtual 107, 3) := by decide +kernel
theorem dX6_averageAttempts_62 : decode cX6_averageAttempts 62 = .ok (.i2d, 1) := by decide +kernel
theorem dX6_averageAttempts_63 : decode cX6_averageAttempts 63 = .ok (.goto 8, 3) := by decide +kernel
theorem dX6_averageAttempts_66 : decode cX6_averageAttempts 66 = .ok (.iload_n 1, 1) := by decide +kernel
theorem dX6_averageAttempts_67 : decode cX6_averageAttempts 67 = .ok (.i2d, 1) := by decide +kernel
theorem dX6_averageAttempts_68 : decode cX6_averageAttempts 68 = .ok (.iload_n 2, 1) := by decide +kernel
theorem dX6_averageAttempts_69 : decode cX6_averageAttempts 69 = .ok (.i2d, 1) := by decide +kernel
theorem dX6_averageAttempts_70 : decode cX6_averageAttempts 70 = .ok (.ddiv, 1) := by decide +kernel
theorem dX6_averageAttempts_71 : decode cX6_averageAttempts 71 = .ok (.dreturn, 1) := by decide +kernel
theorem dX6_abortRate_0 : decode cX6_abortRate 0 = .ok (.aload_n 0, 1) := by decide +kernel
theorem dX6_abortRate_1 : decode cX6_abortRate 1 = .ok (.iconst 0, 1) := by decide +kernel
theorem dX6_abortRate_2 : decode cX6_abortRate 2 = .ok (.putfield 1, 3) := by decide +kernel
theorem dX6_abortRate_5 : decode cX6_abortRate 5 = .ok (.aload_n 0, 1) := by decide +kernel
theorem dX6_abortRate_6 : decode cX6_abortRate 6 = .ok (.getfield 78, 3) := by decide +kernel
theorem dX6_abortRate_9 : decode cX6_abortRate 9 = .ok (.aload_n 0, 1) := by decide +kernel
theorem dX6_abortRate_10 : decode cX6_abortRate 10 = .ok (.invokevirtual 89, 3) := by decide +kernel
theorem dX6_abortRate_13 : decode cX6_abortRate 13 = .ok (.isub, 1) := by decide +kernel
theorem dX6_abortRate_14 : decode cX6_abortRate 14 = .ok (.istore_n 1, 1) := by decide +kernel
theorem dX6_abortRate_15 : decode cX6_abortRate 15 = .ok (.iload_n 1, 1) := by decide +kernel
theorem dX6_abortRate_16 : decode cX6_abortRate 16 = .ok (.ifCond .ne 12, 3) := by decide +kernel
theorem dX6_abortRate_19 : decode cX6_abortRate 19 = .ok (.aload_n 0, 1) := by decide +kernel
theorem dX6_abortRate_20 : decode cX6_abortRate 20 = .ok (.iconst 1, 1) := by decide +kernel
theorem dX6_abortRate_21 : decode cX6_abortRate 21 = .ok (.invokevirtual 107, 3) := by decide +kernel
theorem dX6_abortRate_24 : decode cX6_abortRate 24 = .ok (.i2f, 1) := by decide +kernel
theorem dX6_abortRate_25 : decode cX6_abortRate 25 = .ok (.goto 13, 3) := by decide +kernel
theorem dX6_abortRate_28 : decode cX6_abortRate 28 = .ok (.aload_n 0, 1) := by decide +kernel
theorem dX6_abortRate_29 : decode cX6_abortRate 29 = .ok (.iconst 2, 1) := by decide +kernel
theorem dX6_abortRate_30 : decode cX6_abortRate 30 = .ok (.iconst 0, 1) := by decide +kernel
theorem dX6_abortRate_31 : decode cX6_abortRate 31 = .ok (.invokevirtual 218, 3) := by decide +kernel
theorem dX6_abortRate_34 : decode cX6_abortRate 34 = .ok (.i2f, 1) := by decide +kernel
theorem dX6_abortRate_35 : decode cX6_abortRate 35 = .ok (.iload_n 1, 1) := by decide +kernel
theorem dX6_abortRate_36 : decode cX6_abortRate 36 = .ok (.i2f, 1) := by decide +kernel
theorem dX6_abortRate_37 : decode cX6_abortRate 37 = .ok (.fdiv, 1) := by decide +kernel
theorem dX6_abortRate_38 : decode cX6_abortRate 38 = .ok (.freturn, 1) := by decide +kernel
theorem dX6_appendCharacter_0 : decode cX6_appendCharacter 0 = .ok (.aload_n 0, 1) := by decide +kernel
theorem dX6_appendCharacter_1 : decode cX6_appendCharacter 1 = .ok (.iconst 0, 1) := by decide +kernel
theorem dX6_appendCharacter_2 : decode cX6_appendCharacter 2 = .ok (.putfield 1, 3) := by decide +kernel
theorem dX6_appendCharacter_5 : decode cX6_appendCharacter 5 = .ok (.iload_n 1, 1) := by decide +kernel
theorem dX6_appendCharacter_6 : decode cX6_appendCharacter 6 = .ok (.bipush 33, 2) := by decide +kernel
theorem dX6_appendCharacter_8 : decode cX6_appendCharacter 8 = .ok (.bipush 126, 2) := by decide +kernel
theorem dX6_appendCharacter_10 : decode cX6_appendCharacter 10 = .ok (.invokestatic 81, 3) := by decide +kernel
theorem dX6_appendCharacter_13 : decode cX6_appendCharacter 13 = .ok (.ifCond .ne 9, 3) := by decide +kernel
theorem dX6_appendCharacter_16 : decode cX6_appendCharacter 16 = .ok (.aload_n 0, 1) := by decide +kernel
theorem dX6_appendCharacter_17 : decode cX6_appendCharacter 17 = .ok (.iconst 1, 1) := by decide +kernel
theorem dX6_appendCharacter_18 : decode cX6_appendCharacter 18 = .ok (.invokevirtual 107, 3) := by decide +kernel
theorem dX6_appendCharacter_21 : decode cX6_appendCharacter 21 = .ok (.ireturn, 1) := by decide +kernel
theorem dX6_appendCharacter_22 : decode cX6_appendCharacter 22 = .ok (.aload_n 0, 1) := by decide +kernel
theorem dX6_appendCharacter_23 : decode cX6_appendCharacter 23 = .ok (.getfield 221, 3) := by decide +kernel
theorem dX6_appendCharacter_26 : decode cX6_appendCharacter 26 = .ok (.bipush 60, 2) := by decide +kernel
theorem dX6_appendCharacter_28 : decode cX6_appendCharacter 28 = .ok (.if_icmp .ne 9, 3) := by decide +kernel
theorem dX6_appendCharacter_31 : decode cX6_appendCharacter 31 = .ok (.aload_n 0, 1) := by decide +kernel
theorem dX6_appendCharacter_32 : decode cX6_appendCharacter 32 = .ok (.iconst 2, 1) := by decide +kernel
theorem dX6_appendCharacter_33 : decode cX6_appendCharacter 33 = .ok (.invokevirtual 107, 3) := by decide +kernel
theorem dX6_appendCharacter_36 : decode cX6_appendCharacter 36 = .ok (.ireturn, 1) := by decide +kernel
theorem dX6_appendCharacter_37 : decode cX6_appendCharacter 37 = .ok (.aload_n 0, 1) := by decide +kernel
theorem dX6_appendCharacter_38 : decode cX6_appendCharacter 38 = .ok (.getfield 69, 3) := by decide +kernel
theorem dX6_appendCharacter_41 : decode cX6_appendCharacter 41 = .ok (.aload_n 0, 1) := by decide +kernel
theorem dX6_appendCharacter_42 : decode cX6_appendCharacter 42 = .ok (.getfield 221, 3) := by decide +kernel
theorem dX6_appendCharacter_45 : decode cX6_appendCharacter 45 = .ok (.iload_n 1, 1) := by decide +kernel
theorem dX6_appendCharacter_46 : decode cX6_appendCharacter 46 = .ok (.iastore, 1) := by decide +kernel
theorem dX6_appendCharacter_47 : decode cX6_appendCharacter 47 = .ok (.aload_n 0, 1) := by decide +kernel
theorem dX6_appendCharacter_48 : decode cX6_appendCharacter 48 = .ok (.dup, 1) := by decide +kernel
theorem dX6_appendCharacter_49 : decode cX6_appendCharacter 49 = .ok (.getfield 221, 3) := by decide +kernel
theorem dX6_appendCharacter_52 : decode cX6_appendCharacter 52 = .ok (.iconst 1, 1) := by decide +kernel
theorem dX6_appendCharacter_53 : decode cX6_appendCharacter 53 = .ok (.iadd, 1) := by decide +kernel
theorem dX6_appendCharacter_54 : decode cX6_appendCharacter 54 = .ok (.putfield 221, 3) := by decide +kernel
theorem dX6_appendCharacter_57 : decode cX6_appendCharacter 57 = .ok (.aload_n 0, 1) := by decide +kernel
theorem dX6_appendCharacter_58 : decode cX6_appendCharacter 58 = .ok (.getfield 221, 3) := by decide +kernel
theorem dX6_appendCharacter_61 : decode cX6_appendCharacter 61 = .ok (.ireturn, 1) := by decide +kernel
theorem dX6_sign_0 : decode cX6_sign 0 = .ok (.aload_n 0, 1) := by decide +kernel
theorem dX6_sign_1 : decode cX6_sign 1 = .ok (.getfield 224, 3) := by decide +kernel
theorem dX6_sign_4 : decode cX6_sign 4 = .ok (.aload_n 0, 1) := by decide +kernel
theorem dX6_sign_5 : decode cX6_sign 5 = .ok (.getfield 227, 3) := by decide +kernel
theorem dX6_sign_8 : decode cX6_sign 8 = .ok (.if_icmp .ge 15, 3) := by decide +kernel
theorem dX6_sign_11 : decode cX6_sign 11 = .ok (.aload_n 0, 1) := by decide +kernel
theorem dX6_sign_12 : decode cX6_sign 12 = .ok (.getfield 69, 3) := by decide +kernel
theorem dX6_sign_15 : decode cX6_sign 15 = .ok (.aload_n 0, 1) := by decide +kernel
theorem dX6_sign_16 : decode cX6_sign 16 = .ok (.getfield 224, 3) := by decide +kernel
theorem dX6_sign_19 : decode cX6_sign 19 = .ok (.iaload, 1) := by decide +kernel
theorem dX6_sign_20 : decode cX6_sign 20 = .ok (.goto 4, 3) := by decide +kernel
theorem dX6_sign_23 : decode cX6_sign 23 = .ok (.iconst (-1), 1) := by decide +kernel
theorem dX6_sign_24 : decode cX6_sign 24 = .ok (.ireturn, 1) := by decide +kernel
theorem dX6_goes_0 : decode cX6_goes 0 = .ok (.aload_n 0, 1) := by decide +kernel
theorem dX6_goes_1 : decode cX6_goes 1 = .ok (.getfield 72, 3) := by decide +kernel
theorem dX6_goes_4 : decode cX6_goes 4 = .ok (.iconst (-1), 1) := by decide +kernel
theorem dX6_goes_5 : decode cX6_goes 5 = .ok (.if_icmp .ne 15, 3) := by decide +kernel
theorem dX6_goes_8 : decode cX6_goes 8 = .ok (.aload_n 0, 1) := by decide +kernel
theorem dX6_goes_9 : decode cX6_goes 9 = .ok (.invokevirtual 230, 3) := by decide +kernel
theorem dX6_goes_12 : decode cX6_goes 12 = .ok (.iload_n 1, 1) := by decide +kernel
theorem dX6_goes_13 : decode cX6_goes 13 = .ok (.if_icmp .ne 7, 3) := by decide +kernel
theorem dX6_goes_16 : decode cX6_goes 16 = .ok (.iconst 1, 1) := by decide +kernel
theorem dX6_goes_17 : decode cX6_goes 17 = .ok (.goto 4, 3) := by decide +kernel
theorem dX6_goes_20 : decode cX6_goes 20 = .ok (.iconst 0, 1) := by decide +kernel
theorem dX6_goes_21 : decode cX6_goes 21 = .ok (.istore_n 2, 1) := by decide +kernel
theorem dX6_goes_22 : decode cX6_goes 22 = .ok (.aload_n 0, 1) := by decide +kernel
theorem dX6_goes_23 : decode cX6_goes 23 = .ok (.dup, 1) := by decide +kernel
theorem dX6_goes_24 : decode cX6_goes 24 = .ok (.getfield 224, 3) := by decide +kernel
theorem dX6_goes_27 : decode cX6_goes 27 = .ok (.iload_n 2, 1) := by decide +kernel
theorem dX6_goes_28 : decode cX6_goes 28 = .ok (.ifCond .eq 7, 3) := by decide +kernel
theorem dX6_goes_31 : decode cX6_goes 31 = .ok (.iconst 1, 1) := by decide +kernel
theorem dX6_goes_32 : decode cX6_goes 32 = .ok (.goto 4, 3) := by decide +kernel
theorem dX6_goes_35 : decode cX6_goes 35 = .ok (.iconst 0, 1) := by decide +kernel
theorem dX6_goes_36 : decode cX6_goes 36 = .ok (.iadd, 1) := by decide +kernel
theorem dX6_goes_37 : decode cX6_goes 37 = .ok (.putfield 224, 3) := by decide +kernel
theorem dX6_goes_40 : decode cX6_goes 40 = .ok (.iload_n 2, 1) := by decide +kernel
theorem dX6_goes_41 : decode cX6_goes 41 = .ok (.ireturn, 1) := by decide +kernel
theorem dX6_fault_0 : decode cX6_fault 0 = .ok (.aload_n 0, 1) := by decide +kernel
theorem dX6_fault_1 : decode cX6_fault 1 = .ok (.aload_n 0, 1) := by decide +kernel
theorem dX6_fault_2 : decode cX6_fault 2 = .ok (.getfield 72, 3) := by decide +kernel
theorem dX6_fault_5 : decode cX6_fault 5 = .ok (.iconst (-1), 1) := by decide +kernel
theorem dX6_fault_6 : decode cX6_fault 6 = .ok (.if_icmp .ne 10, 3) := by decide +kernel
theorem dX6_fault_9 : decode cX6_fault 9 = .ok (.aload_n 0, 1) := by decide +kernel
theorem dX6_fault_10 : decode cX6_fault 10 = .ok (.getfield 224, 3) := by decide +kernel
theorem dX6_fault_13 : decode cX6_fault 13 = .ok (.goto 7, 3) := by decide +kernel
theorem dX6_fault_16 : decode cX6_fault 16 = .ok (.aload_n 0, 1) := by decide +kernel
theorem dX6_fault_17 : decode cX6_fault 17 = .ok (.getfield 72, 3) := by decide +kernel
theorem dX6_fault_20 : decode cX6_fault 20 = .ok (.putfield 72, 3) := by decide +kernel
theorem dX6_fault_23 : decode cX6_fault 23 = .ok (.return_, 1) := by decide +kernel
theorem dX6_expect_0 : decode cX6_expect 0 = .ok (.aload_n 0, 1) := by decide +kernel
theorem dX6_expect_1 : decode cX6_expect 1 = .ok (.iload_n 1, 1) := by decide +kernel
theorem dX6_expect_2 : decode cX6_expect 2 = .ok (.invokevirtual 233, 3) := by decide +kernel
theorem dX6_expect_5 : decode cX6_expect 5 = .ok (.ifCond .ne 7, 3) := by decide +kernel
theorem dX6_expect_8 : decode cX6_expect 8 = .ok (.aload_n 0, 1) := by decide +kernel
theorem dX6_expect_9 : decode cX6_expect 9 = .ok (.invokevirtual 237, 3) := by decide +kernel
theorem dX6_expect_12 : decode cX6_expect 12 = .ok (.return_, 1) := by decide +kernel
theorem dX6_isDigit_0 : decode cX6_isDigit 0 = .ok (.aload_n 0, 1) := by decide +kernel
theorem dX6_isDigit_1 : decode cX6_isDigit 1 = .ok (.getfield 72, 3) := by decide +kernel
theorem dX6_isDigit_4 : decode cX6_isDigit 4 = .ok (.iconst (-1), 1) := by decide +kernel
theorem dX6_isDigit_5 : decode cX6_isDigit 5 = .ok (.if_icmp .ne 21, 3) := by decide +kernel
theorem dX6_isDigit_8 : decode cX6_isDigit 8 = .ok (.aload_n 0, 1) := by decide +kernel
theorem dX6_isDigit_9 : decode cX6_isDigit 9 = .ok (.invokevirtual 230, 3) := by decide +kernel
theorem dX6_isDigit_12 : decode cX6_isDigit 12 = .ok (.bipush 48, 2) := by decide +kernel
theorem dX6_isDigit_14 : decode cX6_isDigit 14 = .ok (.bipush 57, 2) := by decide +kernel
theorem dX6_isDigit_16 : decode cX6_isDigit 16 = .ok (.invokestatic 81, 3) := by decide +kernel
theorem dX6_isDigit_19 : decode cX6_isDigit 19 = .ok (.ifCond .eq 7, 3) := by decide +kernel
theorem dX6_isDigit_22 : decode cX6_isDigit 22 = .ok (.iconst 1, 1) := by decide +kernel
theorem dX6_isDigit_23 : decode cX6_isDigit 23 = .ok (.goto 4, 3) := by decide +kernel
theorem dX6_isDigit_26 : decode cX6_isDigit 26 = .ok (.iconst 0, 1) := by decide +kernel
theorem dX6_isDigit_27 : decode cX6_isDigit 27 = .ok (.ireturn, 1) := by decide +kernel
theorem dX6_digits_0 : decode cX6_digits 0 = .ok (.aload_n 0, 1) := by decide +kernel
theorem dX6_digits_1 : decode cX6_digits 1 = .ok (.invokevirtual 239, 3) := by decide +kernel
theorem dX6_digits_4 : decode cX6_digits 4 = .ok (.ifCond .ne 7, 3) := by decide +kernel
theorem dX6_digits_7 : decode cX6_digits 7 = .ok (.aload_n 0, 1) := by decide +kernel
theorem dX6_digits_8 : decode cX6_digits 8 = .ok (.invokevirtual 237, 3) := by decide +kernel
theorem dX6_digits_11 : decode cX6_digits 11 = .ok (.iconst 0, 1) := by decide +kernel
theorem dX6_digits_12 : decode cX6_digits 12 = .ok (.istore_n 3, 1) := by decide +kernel
theorem dX6_digits_13 : decode cX6_digits 13 = .ok (.iconst 0, 1) := by decide +kernel
theorem dX6_digits_14 : decode cX6_digits 14 = .ok (.istore 4, 2) := by decide +kernel
theorem dX6_digits_16 : decode cX6_digits 16 = .ok (.iload 4, 2) := by decide +kernel
theorem dX6_digits_18 : decode cX6_digits 18 = .ok (.iload_n 1, 1) := by decide +kernel
theorem dX6_digits_19 : decode cX6_digits 19 = .ok (.if_icmp .ge 55, 3) := by decide +kernel
theorem dX6_digits_22 : decode cX6_digits 22 = .ok (.aload_n 0, 1) := by decide +kernel
theorem dX6_digits_23 : decode cX6_digits 23 = .ok (.invokevirtual 239, 3) := by decide +kernel
theorem dX6_digits_26 : decode cX6_digits 26 = .ok (.ifCond .eq 48, 3) := by decide +kernel
theorem dX6_digits_29 : decode cX6_digits 29 = .ok (.bipush 10, 2) := by decide +kernel
theorem dX6_digits_31 : decode cX6_digits 31 = .ok (.iload_n 3, 1) := by decide +kernel
theorem dX6_digits_32 : decode cX6_digits 32 = .ok (.imul, 1) := by decide +kernel
theorem dX6_digits_33 : decode cX6_digits 33 = .ok (.aload_n 0, 1) := by decide +kernel
theorem dX6_digits_34 : decode cX6_digits 34 = .ok (.invokevirtual 230, 3) := by decide +kernel
theorem dX6_digits_37 : decode cX6_digits 37 = .ok (.iadd, 1) := by decide +kernel
theorem dX6_digits_38 : decode cX6_digits 38 = .ok (.bipush 48, 2) := by decide +kernel
theorem dX6_digits_40 : decode cX6_digits 40 = .ok (.isub, 1) := by decide +kernel
theorem dX6_digits_41 : decode cX6_digits 41 = .ok (.iload_n 2, 1) := by decide +kernel
theorem dX6_digits_42 : decode cX6_digits 42 = .ok (.if_icmp .gt 32, 3) := by decide +kernel
theorem dX6_digits_45 : decode cX6_digits 45 = .ok (.bipush 10, 2) := by decide +kernel
theorem dX6_digits_47 : decode cX6_digits 47 = .ok (.iload_n 3, 1) := by decide +kernel
theorem dX6_digits_48 : decode cX6_digits 48 = .ok (.imul, 1) := by decide +kernel
theorem dX6_digits_49 : decode cX6_digits 49 = .ok (.aload_n 0, 1) := by decide +kernel
theorem dX6_digits_50 : decode cX6_digits 50 = .ok (.invokevirtual 230, 3) := by decide +kernel
theorem dX6_digits_53 : decode cX6_digits 53 = .ok (.iadd, 1) := by decide +kernel
theorem dX6_digits_54 : decode cX6_digits 54 = .ok (.bipush 48, 2) := by decide +kernel
theorem dX6_digits_56 : decode cX6_digits 56 = .ok (.isub, 1) := by decide +kernel
theorem dX6_digits_57 : decode cX6_digits 57 = .ok (.istore_n 3, 1) := by decide +kernel
theorem dX6_digits_58 : decode cX6_digits 58 = .ok (.aload_n 0, 1) := by decide +kernel
theorem dX6_digits_59 : decode cX6_digits 59 = .ok (.dup, 1) := by decide +kernel
theorem dX6_digits_60 : decode cX6_digits 60 = .ok (.getfield 224, 3) := by decide +kernel
theorem dX6_digits_63 : decode cX6_digits 63 = .ok (.iconst 1, 1) := by decide +kernel
theorem dX6_digits_64 : decode cX6_digits 64 = .ok (.iadd, 1) := by decide +kernel
theorem dX6_digits_65 : decode cX6_digits 65 = .ok (.putfield 224, 3) := by decide +kernel
theorem dX6_digits_68 : decode cX6_digits 68 = .ok (.iinc 4 1, 3) := by decide +kernel
theorem dX6_digits_71 : decode cX6_digits 71 = .ok (.goto (-55), 3) := by decide +kernel
theorem dX6_digits_74 : decode cX6_digits 74 = .ok (.iload_n 3, 1) := by decide +kernel
theorem dX6_digits_75 : decode cX6_digits 75 = .ok (.ireturn, 1) := by decide +kernel
theorem dX6_readKey_0 : decode cX6_readKey 0 = .ok (.aload_n 0, 1) := by decide +kernel
theorem dX6_readKey_1 : decode cX6_readKey 1 = .ok (.iconst 2, 1) := by decide +kernel
theorem dX6_readKey_2 : decode cX6_readKey 2 = .ok (.bipush 31, 2) := by decide +kernel
theorem dX6_readKey_4 : decode cX6_readKey 4 = .ok (.invokevirtual 242, 3) := by decide +kernel
theorem dX6_readKey_7 : decode cX6_readKey 7 = .ok (.ireturn, 1) := by decide +kernel
theorem dX6_readStep_0 : decode cX6_readStep 0 = .ok (.iconst 3, 1) := by decide +kernel
theorem dX6_readStep_1 : decode cX6_readStep 1 = .ok (.aload_n 0, 1) := by decide +kernel
theorem dX6_readStep_2 : decode cX6_readStep 2 = .ok (.getfield 245, 3) := by decide +kernel
theorem dX6_readStep_5 : decode cX6_readStep 5 = .ok (.imul, 1) := by decide +kernel
theorem dX6_readStep_6 : decode cX6_readStep 6 = .ok (.istore_n 1, 1) := by decide +kernel
theorem dX6_readStep_7 : decode cX6_readStep 7 = .ok (.aload_n 0, 1) := by decide +kernel
theorem dX6_readStep_8 : decode cX6_readStep 8 = .ok (.bipush 114, 2) := by decide +kernel
theorem dX6_readStep_10 : decode cX6_readStep 10 = .ok (.invokevirtual 233, 3) := by decide +kernel
theorem dX6_readStep_13 : decode cX6_readStep 13 = .ok (.ifCond .eq 7, 3) := by decide +kernel
theorem dX6_readStep_16 : decode cX6_readStep 16 = .ok (.iconst 0, 1) := by decide +kernel
theorem dX6_readStep_17 : decode cX6_readStep 17 = .ok (.goto 56, 3) := by decide +kernel
theorem dX6_readStep_20 : decode cX6_readStep 20 = .ok (.aload_n 0, 1) := by decide +kernel
theorem dX6_readStep_21 : decode cX6_readStep 21 = .ok (.bipush 119, 2) := by decide +kernel
theorem dX6_readStep_23 : decode cX6_readStep 23 = .ok (.invokevirtual 233, 3) := by decide +kernel
theorem dX6_readStep_26 : decode cX6_readStep 26 = .ok (.ifCond .eq 7, 3) := by decide +kernel
theorem dX6_readStep_29 : decode cX6_readStep 29 = .ok (.iconst 3, 1) := by decide +kernel
theorem dX6_readStep_30 : decode cX6_readStep 30 = .ok (.goto 43, 3) := by decide +kernel
theorem dX6_readStep_33 : decode cX6_readStep 33 = .ok (.aload_n 0, 1) := by decide +kernel
theorem dX6_readStep_34 : decode cX6_readStep 34 = .ok (.bipush 100, 2) := by decide +kernel
theorem dX6_readStep_36 : decode cX6_readStep 36 = .ok (.invokevirtual 233, 3) := by decide +kernel
theorem dX6_readStep_39 : decode cX6_readStep 39 = .ok (.ifCond .eq 7, 3) := by decide +kernel
theorem dX6_readStep_42 : decode cX6_readStep 42 = .ok (.iconst 4, 1) := by decide +kernel
theorem dX6_readStep_43 : decode cX6_readStep 43 = .ok (.goto 30, 3) := by decide +kernel
theorem dX6_readStep_46 : decode cX6_readStep 46 = .ok (.aload_n 0, 1) := by decide +kernel
theorem dX6_readStep_47 : decode cX6_readStep 47 = .ok (.bipush 97, 2) := by decide +kernel
theorem dX6_readStep_49 : decode cX6_readStep 49 = .ok (.invokevirtual 233, 3) := by decide +kernel
theorem dX6_readStep_52 : decode cX6_readStep 52 = .ok (.ifCond .eq 7, 3) := by decide +kernel
theorem dX6_readStep_55 : decode cX6_readStep 55 = .ok (.iconst 5, 1) := by decide +kernel
theorem dX6_readStep_56 : decode cX6_readStep 56 = .ok (.goto 17, 3) := by decide +kernel
theorem dX6_readStep_59 : decode cX6_readStep 59 = .ok (.aload_n 0, 1) := by decide +kernel
theorem dX6_readStep_60 : decode cX6_readStep 60 = .ok (.bipush 115, 2) := by decide +kernel
theorem dX6_readStep_62 : decode cX6_readStep 62 = .ok (.invokevirtual 233, 3) := by decide +kernel
theorem dX6_readStep_65 : decode cX6_readStep 65 = .ok (.ifCond .eq 7, 3) := by decide +kernel
theorem dX6_readStep_68 : decode cX6_readStep 68 = .ok (.iconst 2, 1) := by decide +kernel
theorem dX6_readStep_69 : decode cX6_readStep 69 = .ok (.goto 4, 3) := by decide +kernel
theorem dX6_readStep_72 : decode cX6_readStep 72 = .ok (.iconst (-1), 1) := by decide +kernel
theorem dX6_readStep_73 : decode cX6_readStep 73 = .ok (.istore_n 2, 1) := by decide +kernel
theorem dX6_readStep_74 : decode cX6_readStep 74 = .ok (.iload_n 2, 1) := by decide +kernel
theorem dX6_readStep_75 : decode cX6_readStep 75 = .ok (.iconst (-1), 1) := by decide +kernel
theorem dX6_readStep_76 : decode cX6_readStep 76 = .ok (.if_icmp .ne 8, 3) := by decide +kernel
theorem dX6_readStep_79 : decode cX6_readStep 79 = .ok (.aload_n 0, 1) := by decide +kernel
theorem dX6_readStep_80 : decode cX6_readStep 80 = .ok (.invokevirtual 237, 3) := by decide +kernel
theorem dX6_readStep_83 : decode cX6_readStep 83 = .ok (.return_, 1) := by decide +kernel
theorem dX6_readStep_84 : decode cX6_readStep 84 = .ok (.aload_n 0, 1) := by decide +kernel
theorem dX6_readStep_85 : decode cX6_readStep 85 = .ok (.getfield 75, 3) := by decide +kernel
theorem dX6_readStep_88 : decode cX6_readStep 88 = .ok (.iload_n 1, 1) := by decide +kernel
theorem dX6_readStep_89 : decode cX6_readStep 89 = .ok (.iload_n 2, 1) := by decide +kernel
theorem dX6_readStep_90 : decode cX6_readStep 90 = .ok (.iastore, 1) := by decide +kernel
theorem dX6_readStep_91 : decode cX6_readStep 91 = .ok (.aload_n 0, 1) := by decide +kernel
theorem dX6_readStep_92 : decode cX6_readStep 92 = .ok (.getfield 75, 3) := by decide +kernel
theorem dX6_readStep_95 : decode cX6_readStep 95 = .ok (.iload_n 1, 1) := by decide +kernel
theorem dX6_readStep_96 : decode cX6_readStep 96 = .ok (.iconst 1, 1) := by decide +kernel
theorem dX6_readStep_97 : decode cX6_readStep 97 = .ok (.iadd, 1) := by decide +kernel
theorem dX6_readStep_98 : decode cX6_readStep 98 = .ok (.aload_n 0, 1) := by decide +kernel
theorem dX6_readStep_99 : decode cX6_readStep 99 = .ok (.invokevirtual 248, 3) := by decide +kernel
theorem dX6_readStep_102 : decode cX6_readStep 102 = .ok (.iastore, 1) := by decide +kernel
theorem dX6_readStep_103 : decode cX6_readStep 103 = .ok (.aload_n 0, 1) := by decide +kernel
theorem dX6_readStep_104 : decode cX6_readStep 104 = .ok (.getfield 75, 3) := by decide +kernel
theorem dX6_readStep_107 : decode cX6_readStep 107 = .ok (.iload_n 1, 1) := by decide +kernel
theorem dX6_readStep_108 : decode cX6_readStep 108 = .ok (.iconst 2, 1) := by decide +kernel
theorem dX6_readStep_109 : decode cX6_readStep 109 = .ok (.iadd, 1) := by decide +kernel
theorem dX6_readStep_110 : decode cX6_readStep 110 = .ok (.iconst 0, 1) := by decide +kernel
theorem dX6_readStep_111 : decode cX6_readStep 111 = .ok (.iastore, 1) := by decide +kernel
theorem dX6_readStep_112 : decode cX6_readStep 112 = .ok (.iload_n 2, 1) := by decide +kernel
theorem dX6_readStep_113 : decode cX6_readStep 113 = .ok (.iconst 3, 1) := by decide +kernel
theorem dX6_readStep_114 : decode cX6_readStep 114 = .ok (.if_icmp .ne 45, 3) := by decide +kernel
theorem dX6_readStep_117 : decode cX6_readStep 117 = .ok (.aload_n 0, 1) := by decide +kernel
theorem dX6_readStep_118 : decode cX6_readStep 118 = .ok (.bipush 61, 2) := by decide +kernel
theorem dX6_readStep_120 : decode cX6_readStep 120 = .ok (.invokevirtual 251, 3) := by decide +kernel
theorem dX6_readStep_123 : decode cX6_readStep 123 = .ok (.aload_n 0, 1) := by decide +kernel
theorem dX6_readStep_124 : decode cX6_readStep 124 = .ok (.bipush 45, 2) := by decide +kernel
theorem dX6_readStep_126 : decode cX6_readStep 126 = .ok (.invokevirtual 233, 3) := by decide +kernel
theorem dX6_readStep_129 : decode cX6_readStep 129 = .ok (.ifCond .eq 7, 3) := by decide +kernel
theorem dX6_readStep_132 : decode cX6_readStep 132 = .ok (.iconst (-1), 1) := by decide +kernel
theorem dX6_readStep_133 : decode cX6_readStep 133 = .ok (.goto 4, 3) := by decide +kernel
theorem dX6_readStep_136 : decode cX6_readStep 136 = .ok (.iconst 1, 1) := by decide +kernel
theorem dX6_readStep_137 : decode cX6_readStep 137 = .ok (.istore_n 3, 1) := by decide +kernel
theorem dX6_readStep_138 : decode cX6_readStep 138 = .ok (.aload_n 0, 1) := by decide +kernel
theorem dX6_readStep_139 : decode cX6_readStep 139 = .ok (.getfield 75, 3) := by decide +kernel
theorem dX6_readStep_142 : decode cX6_readStep 142 = .ok (.iload_n 1, 1) := by decide +kernel
theorem dX6_readStep_143 : decode cX6_readStep 143 = .ok (.iconst 2, 1) := by decide +kernel
theorem dX6_readStep_144 : decode cX6_readStep 144 = .ok (.iadd, 1) := by decide +kernel
theorem dX6_readStep_145 : decode cX6_readStep 145 = .ok (.iload_n 3, 1) := by decide +kernel
theorem dX6_readStep_146 : decode cX6_readStep 146 = .ok (.aload_n 0, 1) := by decide +kernel
theorem dX6_readStep_147 : decode cX6_readStep 147 = .ok (.iconst 3, 1) := by decide +kernel
theorem dX6_readStep_148 : decode cX6_readStep 148 = .ok (.sipush 999, 3) := by decide +kernel
theorem dX6_readStep_151 : decode cX6_readStep 151 = .ok (.invokevirtual 242, 3) := by decide +kernel
theorem dX6_readStep_154 : decode cX6_readStep 154 = .ok (.imul, 1) := by decide +kernel
theorem dX6_readStep_155 : decode cX6_readStep 155 = .ok (.iastore, 1) := by decide +kernel
theorem dX6_readStep_156 : decode cX6_readStep 156 = .ok (.goto 77, 3) := by decide +kernel
theorem dX6_readStep_159 : decode cX6_readStep 159 = .ok (.iload_n 2, 1) := by decide +kernel
theorem dX6_readStep_160 : decode cX6_readStep 160 = .ok (.iconst 5, 1) := by decide +kernel
theorem dX6_readStep_161 : decode cX6_readStep 161 = .ok (.if_icmp .ne 49, 3) := by decide +kernel
theorem dX6_readStep_164 : decode cX6_readStep 164 = .ok (.aload_n 0, 1) := by decide +kernel
theorem dX6_readStep_165 : decode cX6_readStep 165 = .ok (.bipush 43, 2) := by decide +kernel
theorem dX6_readStep_167 : decode cX6_readStep 167 = .ok (.invokevirtual 233, 3) := by decide +kernel
theorem dX6_readStep_170 : decode cX6_readStep 170 = .ok (.ifCond .eq 7, 3) := by decide +kernel
theorem dX6_readStep_173 : decode cX6_readStep 173 = .ok (.iconst 1, 1) := by decide +kernel
theorem dX6_readStep_174 : decode cX6_readStep 174 = .ok (.goto 4, 3) := by decide +kernel
theorem dX6_readStep_177 : decode cX6_readStep 177 = .ok (.iconst (-1), 1) := by decide +kernel
theorem dX6_readStep_178 : decode cX6_readStep 178 = .ok (.istore_n 3, 1) := by decide +kernel
theorem dX6_readStep_179 : decode cX6_readStep 179 = .ok (.iload_n 3, 1) := by decide +kernel
theorem dX6_readStep_180 : decode cX6_readStep 180 = .ok (.ifCond .ge 9, 3) := by decide +kernel
theorem dX6_readStep_183 : decode cX6_readStep 183 = .ok (.aload_n 0, 1) := by decide +kernel
theorem dX6_readStep_184 : decode cX6_readStep 184 = .ok (.bipush 45, 2) := by decide +kernel
theorem dX6_readStep_186 : decode cX6_readStep 186 = .ok (.invokevirtual 251, 3) := by decide +kernel
theorem dX6_readStep_189 : decode cX6_readStep 189 = .ok (.aload_n 0, 1) := by decide +kernel
theorem dX6_readStep_190 : decode cX6_readStep 190 = .ok (.getfield 75, 3) := by decide +kernel
theorem dX6_readStep_193 : decode cX6_readStep 193 = .ok (.iload_n 1, 1) := by decide +kernel
theorem dX6_readStep_194 : decode cX6_readStep 194 = .ok (.iconst 2, 1) := by decide +kernel
theorem dX6_readStep_195 : decode cX6_readStep 195 = .ok (.iadd, 1) := by decide +kernel
theorem dX6_readStep_196 : decode cX6_readStep 196 = .ok (.iload_n 3, 1) := by decide +kernel
theorem dX6_readStep_197 : decode cX6_readStep 197 = .ok (.aload_n 0, 1) := by decide +kernel
theorem dX6_readStep_198 : decode cX6_readStep 198 = .ok (.iconst 3, 1) := by decide +kernel
theorem dX6_readStep_199 : decode cX6_readStep 199 = .ok (.sipush 999, 3) := by decide +kernel
theorem dX6_readStep_202 : decode cX6_readStep 202 = .ok (.invokevirtual 242, 3) := by decide +kernel
theorem dX6_readStep_205 : decode cX6_readStep 205 = .ok (.imul, 1) := by decide +kernel
theorem dX6_readStep_206 : decode cX6_readStep 206 = .ok (.iastore, 1) := by decide +kernel
theorem dX6_readStep_207 : decode cX6_readStep 207 = .ok (.goto 26, 3) := by decide +kernel
theorem dX6_readStep_210 : decode cX6_readStep 210 = .ok (.iload_n 2, 1) := by decide +kernel
theorem dX6_readStep_211 : decode cX6_readStep 211 = .ok (.iconst 2, 1) := by decide +kernel
theorem dX6_readStep_212 : decode cX6_readStep 212 = .ok (.if_icmp .ne 21, 3) := by decide +kernel
theorem dX6_readStep_215 : decode cX6_readStep 215 = .ok (.aload_n 0, 1) := by decide +kernel
theorem dX6_readStep_216 : decode cX6_readStep 216 = .ok (.bipush 45, 2) := by decide +kernel
theorem dX6_readStep_218 : decode cX6_readStep 218 = .ok (.invokevirtual 251, 3) := by decide +kernel
theorem dX6_readStep_221 : decode cX6_readStep 221 = .ok (.aload_n 0, 1) := by decide +kernel
theorem dX6_readStep_222 : decode cX6_readStep 222 = .ok (.getfield 75, 3) := by decide +kernel
theorem dX6_readStep_225 : decode cX6_readStep 225 = .ok (.iload_n 1, 1) := by decide +kernel
theorem dX6_readStep_226 : decode cX6_readStep 226 = .ok (.iconst 2, 1) := by decide +kernel
theorem dX6_readStep_227 : decode cX6_readStep 227 = .ok (.iadd, 1) := by decide +kernel
theorem dX6_readStep_228 : decode cX6_readStep 228 = .ok (.aload_n 0, 1) := by decide +kernel
theorem dX6_readStep_229 : decode cX6_readStep 229 = .ok (.invokevirtual 248, 3) := by decide +kernel
theorem dX6_readStep_232 : decode cX6_readStep 232 = .ok (.iastore, 1) := by decide +kernel
theorem dX6_readStep_233 : decode cX6_readStep 233 = .ok (.aload_n 0, 1) := by decide +kernel
theorem dX6_readStep_234 : decode cX6_readStep 234 = .ok (.dup, 1) := by decide +kernel
theorem dX6_readStep_235 : decode cX6_readStep 235 = .ok (.getfield 245, 3) := by decide +kernel
theorem dX6_readStep_238 : decode cX6_readStep 238 = .ok (.iconst 1, 1) := by decide +kernel
theorem dX6_readStep_239 : decode cX6_readStep 239 = .ok (.iadd, 1) := by decide +kernel
theorem dX6_readStep_240 : decode cX6_readStep 240 = .ok (.putfield 245, 3) := by decide +kernel
theorem dX6_readStep_243 : decode cX6_readStep 243 = .ok (.return_, 1) := by decide +kernel
theorem dX6_readScript_0 : decode cX6_readScript 0 = .ok (.aload_n 0, 1) := by decide +kernel
theorem dX6_readScript_1 : decode cX6_readScript 1 = .ok (.aload_n 0, 1) := by decide +kernel
theorem dX6_readScript_2 : decode cX6_readScript 2 = .ok (.getfield 221, 3) := by decide +kernel
theorem dX6_readScript_5 : decode cX6_readScript 5 = .ok (.putfield 227, 3) := by decide +kernel
theorem dX6_readScript_8 : decode cX6_readScript 8 = .ok (.aload_n 0, 1) := by decide +kernel
theorem dX6_readScript_9 : decode cX6_readScript 9 = .ok (.iconst 0, 1) := by decide +kernel
theorem dX6_readScript_10 : decode cX6_readScript 10 = .ok (.putfield 221, 3) := by decide +kernel
theorem dX6_readScript_13 : decode cX6_readScript 13 = .ok (.aload_n 0, 1) := by decide +kernel
theorem dX6_readScript_14 : decode cX6_readScript 14 = .ok (.iconst 0, 1) := by decide +kernel
theorem dX6_readScript_15 : decode cX6_readScript 15 = .ok (.putfield 224, 3) := by decide +kernel
theorem dX6_readScript_18 : decode cX6_readScript 18 = .ok (.aload_n 0, 1) := by decide +kernel
theorem dX6_readScript_19 : decode cX6_readScript 19 = .ok (.iconst (-1), 1) := by decide +kernel
theorem dX6_readScript_20 : decode cX6_readScript 20 = .ok (.putfield 72, 3) := by decide +kernel
theorem dX6_readScript_23 : decode cX6_readScript 23 = .ok (.aload_n 0, 1) := by decide +kernel
theorem dX6_readScript_24 : decode cX6_readScript 24 = .ok (.iconst 0, 1) := by decide +kernel
theorem dX6_readScript_25 : decode cX6_readScript 25 = .ok (.putfield 245, 3) := by decide +kernel
theorem dX6_readScript_28 : decode cX6_readScript 28 = .ok (.aload_n 0, 1) := by decide +kernel
theorem dX6_readScript_29 : decode cX6_readScript 29 = .ok (.invokevirtual 255, 3) := by decide +kernel
theorem dX6_readScript_32 : decode cX6_readScript 32 = .ok (.aload_n 0, 1) := by decide +kernel
theorem dX6_readScript_33 : decode cX6_readScript 33 = .ok (.bipush 59, 2) := by decide +kernel
theorem dX6_readScript_35 : decode cX6_readScript 35 = .ok (.invokevirtual 233, 3) := by decide +kernel
theorem dX6_readScript_38 : decode cX6_readScript 38 = .ok (.ifCond .eq 10, 3) := by decide +kernel
theorem dX6_readScript_41 : decode cX6_readScript 41 = .ok (.aload_n 0, 1) := by decide +kernel
theorem dX6_readScript_42 : decode cX6_readScript 42 = .ok (.invokevirtual 255, 3) := by decide +kernel
theorem dX6_readScript_45 : decode cX6_readScript 45 = .ok (.goto (-13), 3) := by decide +kernel
theorem dX6_readScript_48 : decode cX6_readScript 48 = .ok (.aload_n 0, 1) := by decide +kernel
theorem dX6_readScript_49 : decode cX6_readScript 49 = .ok (.getfield 224, 3) := by decide +kernel
theorem dX6_readScript_52 : decode cX6_readScript 52 = .ok (.aload_n 0, 1) := by decide +kernel
theorem dX6_readScript_53 : decode cX6_readScript 53 = .ok (.getfield 227, 3) := by decide +kernel
theorem dX6_readScript_56 : decode cX6_readScript 56 = .ok (.if_icmp .ge 7, 3) := by decide +kernel
theorem dX6_readScript_59 : decode cX6_readScript 59 = .ok (.aload_n 0, 1) := by decide +kernel
theorem dX6_readScript_60 : decode cX6_readScript 60 = .ok (.invokevirtual 237, 3) := by decide +kernel
theorem dX6_readScript_63 : decode cX6_readScript 63 = .ok (.return_, 1) := by decide +kernel
theorem dX6_doStep_0 : decode cX6_doStep 0 = .ok (.aload_n 0, 1) := by decide +kernel
theorem dX6_doStep_1 : decode cX6_doStep 1 = .ok (.getfield 75, 3) := by decide +kernel
theorem dX6_doStep_4 : decode cX6_doStep 4 = .ok (.iload_n 2, 1) := by decide +kernel
theorem dX6_doStep_5 : decode cX6_doStep 5 = .ok (.iconst 1, 1) := by decide +kernel
theorem dX6_doStep_6 : decode cX6_doStep 6 = .ok (.iadd, 1) := by decide +kernel
theorem dX6_doStep_7 : decode cX6_doStep 7 = .ok (.iaload, 1) := by decide +kernel
theorem dX6_doStep_8 : decode cX6_doStep 8 = .ok (.istore_n 3, 1) := by decide +kernel
theorem dX6_doStep_9 : decode cX6_doStep 9 = .ok (.aload_n 0, 1) := by decide +kernel
theorem dX6_doStep_10 : decode cX6_doStep 10 = .ok (.getfield 75, 3) := by decide +kernel
theorem dX6_doStep_13 : decode cX6_doStep 13 = .ok (.iload_n 2, 1) := by decide +kernel
theorem dX6_doStep_14 : decode cX6_doStep 14 = .ok (.iconst 2, 1) := by decide +kernel
theorem dX6_doStep_15 : decode cX6_doStep 15 = .ok (.iadd, 1) := by decide +kernel
theorem dX6_doStep_16 : decode cX6_doStep 16 = .ok (.iaload, 1) := by decide +kernel
theorem dX6_doStep_17 : decode cX6_doStep 17 = .ok (.istore 4, 2) := by decide +kernel
theorem dX6_doStep_19 : decode cX6_doStep 19 = .ok (.aload_n 0, 1) := by decide +kernel
theorem dX6_doStep_20 : decode cX6_doStep 20 = .ok (.getfield 75, 3) := by decide +kernel
theorem dX6_doStep_23 : decode cX6_doStep 23 = .ok (.iload_n 2, 1) := by decide +kernel
theorem dX6_doStep_24 : decode cX6_doStep 24 = .ok (.iaload, 1) := by decide +kernel
theorem dX6_doStep_25 : decode cX6_doStep 25 = .ok (.tableswitch 81 0 5 #[39, 81, 81, 49, 60, 69], 39) := by decide +kernel
theorem dX6_doStep_64 : decode cX6_doStep 64 = .ok (.aload_n 0, 1) := by decide +kernel
theorem dX6_doStep_65 : decode cX6_doStep 65 = .ok (.iload_n 1, 1) := by decide +kernel
theorem dX6_doStep_66 : decode cX6_doStep 66 = .ok (.iload_n 3, 1) := by decide +kernel
theorem dX6_doStep_67 : decode cX6_doStep 67 = .ok (.invokevirtual 258, 3) := by decide +kernel
theorem dX6_doStep_70 : decode cX6_doStep 70 = .ok (.pop, 1) := by decide +kernel
theorem dX6_doStep_71 : decode cX6_doStep 71 = .ok (.goto 44, 3) := by decide +kernel
theorem dX6_doStep_74 : decode cX6_doStep 74 = .ok (.aload_n 0, 1) := by decide +kernel
theorem dX6_doStep_75 : decode cX6_doStep 75 = .ok (.iload_n 1, 1) := by decide +kernel
theorem dX6_doStep_76 : decode cX6_doStep 76 = .ok (.iload_n 3, 1) := by decide +kernel
theorem dX6_doStep_77 : decode cX6_doStep 77 = .ok (.iload 4, 2) := by decide +kernel
theorem dX6_doStep_79 : decode cX6_doStep 79 = .ok (.invokevirtual 261, 3) := by decide +kernel
theorem dX6_doStep_82 : decode cX6_doStep 82 = .ok (.goto 33, 3) := by decide +kernel
theorem dX6_doStep_85 : decode cX6_doStep 85 = .ok (.aload_n 0, 1) := by decide +kernel
theorem dX6_doStep_86 : decode cX6_doStep 86 = .ok (.iload_n 1, 1) := by decide +kernel
theorem dX6_doStep_87 : decode cX6_doStep 87 = .ok (.iload_n 3, 1) := by decide +kernel
theorem dX6_doStep_88 : decode cX6_doStep 88 = .ok (.invokevirtual 265, 3) := by decide +kernel
theorem dX6_doStep_91 : decode cX6_doStep 91 = .ok (.goto 24, 3) := by decide +kernel
theorem dX6_doStep_94 : decode cX6_doStep 94 = .ok (.aload_n 0, 1) := by decide +kernel
theorem dX6_doStep_95 : decode cX6_doStep 95 = .ok (.iload_n 1, 1) := by decide +kernel
theorem dX6_doStep_96 : decode cX6_doStep 96 = .ok (.iload_n 3, 1) := by decide +kernel
theorem dX6_doStep_97 : decode cX6_doStep 97 = .ok (.iload 4, 2) := by decide +kernel
theorem dX6_doStep_99 : decode cX6_doStep 99 = .ok (.invokevirtual 268, 3) := by decide +kernel
theorem dX6_doStep_102 : decode cX6_doStep 102 = .ok (.pop, 1) := by decide +kernel
theorem dX6_doStep_103 : decode cX6_doStep 103 = .ok (.goto 12, 3) := by decide +kernel
theorem dX6_doStep_106 : decode cX6_doStep 106 = .ok (.aload_n 0, 1) := by decide +kernel
theorem dX6_doStep_107 : decode cX6_doStep 107 = .ok (.iload_n 1, 1) := by decide +kernel
theorem dX6_doStep_108 : decode cX6_doStep 108 = .ok (.iload_n 3, 1) := by decide +kernel
theorem dX6_doStep_109 : decode cX6_doStep 109 = .ok (.iload 4, 2) := by decide +kernel
theorem dX6_doStep_111 : decode cX6_doStep 111 = .ok (.invokevirtual 271, 3) := by decide +kernel
theorem dX6_doStep_114 : decode cX6_doStep 114 = .ok (.pop, 1) := by decide +kernel
theorem dX6_doStep_115 : decode cX6_doStep 115 = .ok (.return_, 1) := by decide +kernel
theorem dX6_runScript_0 : decode cX6_runScript 0 = .ok (.aload_n 0, 1) := by decide +kernel
theorem dX6_runScript_1 : decode cX6_runScript 1 = .ok (.invokevirtual 274, 3) := by decide +kernel
theorem dX6_runScript_4 : decode cX6_runScript 4 = .ok (.aload_n 0, 1) := by decide +kernel
theorem dX6_runScript_5 : decode cX6_runScript 5 = .ok (.iconst 0, 1) := by decide +kernel
theorem dX6_runScript_6 : decode cX6_runScript 6 = .ok (.putfield 1, 3) := by decide +kernel
theorem dX6_runScript_9 : decode cX6_runScript 9 = .ok (.aload_n 0, 1) := by decide +kernel
theorem dX6_runScript_10 : decode cX6_runScript 10 = .ok (.getfield 72, 3) := by decide +kernel
theorem dX6_runScript_13 : decode cX6_runScript 13 = .ok (.iconst (-1), 1) := by decide +kernel
theorem dX6_runScript_14 : decode cX6_runScript 14 = .ok (.if_icmp .eq 9, 3) := by decide +kernel
theorem dX6_runScript_17 : decode cX6_runScript 17 = .ok (.aload_n 0, 1) := by decide +kernel
theorem dX6_runScript_18 : decode cX6_runScript 18 = .ok (.iconst 1, 1) := by decide +kernel
theorem dX6_runScript_19 : decode cX6_runScript 19 = .ok (.invokevirtual 107, 3) := by decide +kernel
theorem dX6_runScript_22 : decode cX6_runScript 22 = .ok (.ireturn, 1) := by decide +kernel
theorem dX6_runScript_23 : decode cX6_runScript 23 = .ok (.aload_n 0, 1) := by decide +kernel
theorem dX6_runScript_24 : decode cX6_runScript 24 = .ok (.invokevirtual 99, 3) := by decide +kernel
theorem dX6_runScript_27 : decode cX6_runScript 27 = .ok (.ifCond .eq 12, 3) := by decide +kernel
theorem dX6_runScript_30 : decode cX6_runScript 30 = .ok (.aload_n 0, 1) := by decide +kernel
theorem dX6_runScript_31 : decode cX6_runScript 31 = .ok (.getfield 113, 3) := by decide +kernel
theorem dX6_runScript_34 : decode cX6_runScript 34 = .ok (.bipush 60, 2) := by decide +kernel
theorem dX6_runScript_36 : decode cX6_runScript 36 = .ok (.if_icmp .ne 9, 3) := by decide +kernel
theorem dX6_runScript_39 : decode cX6_runScript 39 = .ok (.aload_n 0, 1) := by decide +kernel
theorem dX6_runScript_40 : decode cX6_runScript 40 = .ok (.iconst 2, 1) := by decide +kernel
theorem dX6_runScript_41 : decode cX6_runScript 41 = .ok (.invokevirtual 107, 3) := by decide +kernel
theorem dX6_runScript_44 : decode cX6_runScript 44 = .ok (.ireturn, 1) := by decide +kernel
theorem dX6_runScript_45 : decode cX6_runScript 45 = .ok (.aload_n 0, 1) := by decide +kernel
theorem dX6_runScript_46 : decode cX6_runScript 46 = .ok (.iconst 1, 1) := by decide +kernel
theorem dX6_runScript_47 : decode cX6_runScript 47 = .ok (.invokevirtual 103, 3) := by decide +kernel
theorem dX6_runScript_50 : decode cX6_runScript 50 = .ok (.istore_n 1, 1) := by decide +kernel
theorem dX6_runScript_51 : decode cX6_runScript 51 = .ok (.iconst 0, 1) := by decide +kernel
theorem dX6_runScript_52 : decode cX6_runScript 52 = .ok (.istore_n 2, 1) := by decide +kernel
theorem dX6_runScript_53 : decode cX6_runScript 53 = .ok (.iload_n 2, 1) := by decide +kernel
theorem dX6_runScript_54 : decode cX6_runScript 54 = .ok (.aload_n 0, 1) := by decide +kernel
theorem dX6_runScript_55 : decode cX6_runScript 55 = .ok (.getfield 245, 3) := by decide +kernel
theorem dX6_runScript_58 : decode cX6_runScript 58 = .ok (.if_icmp .ge 38, 3) := by decide +kernel
theorem dX6_runScript_61 : decode cX6_runScript 61 = .ok (.aload_n 0, 1) := by decide +kernel
theorem dX6_runScript_62 : decode cX6_runScript 62 = .ok (.iload_n 1, 1) := by decide +kernel
theorem dX6_runScript_63 : decode cX6_runScript 63 = .ok (.iconst 3, 1) := by decide +kernel
theorem dX6_runScript_64 : decode cX6_runScript 64 = .ok (.iload_n 2, 1) := by decide +kernel
theorem dX6_runScript_65 : decode cX6_runScript 65 = .ok (.imul, 1) := by decide +kernel
theorem dX6_runScript_66 : decode cX6_runScript 66 = .ok (.invokevirtual 277, 3) := by decide +kernel
theorem dX6_runScript_69 : decode cX6_runScript 69 = .ok (.aload_n 0, 1) := by decide +kernel
theorem dX6_runScript_70 : decode cX6_runScript 70 = .ok (.getfield 1, 3) := by decide +kernel
theorem dX6_runScript_73 : decode cX6_runScript 73 = .ok (.ifCond .eq 17, 3) := by decide +kernel
theorem dX6_runScript_76 : decode cX6_runScript 76 = .ok (.aload_n 0, 1) := by decide +kernel
theorem dX6_runScript_77 : decode cX6_runScript 77 = .ok (.iconst 0, 1) := by decide +kernel
theorem dX6_runScript_78 : decode cX6_runScript 78 = .ok (.putfield 1, 3) := by decide +kernel
theorem dX6_runScript_81 : decode cX6_runScript 81 = .ok (.aload_n 0, 1) := by decide +kernel
theorem dX6_runScript_82 : decode cX6_runScript 82 = .ok (.iload_n 1, 1) := by decide +kernel
theorem dX6_runScript_83 : decode cX6_runScript 83 = .ok (.iconst 5, 1) := by decide +kernel
theorem dX6_runScript_84 : decode cX6_runScript 84 = .ok (.invokevirtual 192, 3) := by decide +kernel
theorem dX6_runScript_87 : decode cX6_runScript 87 = .ok (.bipush (-2), 2) := by decide +kernel
theorem dX6_runScript_89 : decode cX6_runScript 89 = .ok (.ireturn, 1) := by decide +kernel
theorem dX6_runScript_90 : decode cX6_runScript 90 = .ok (.iinc 2 1, 3) := by decide +kernel
theorem dX6_runScript_93 : decode cX6_runScript 93 = .ok (.goto (-40), 3) := by decide +kernel
theorem dX6_runScript_96 : decode cX6_runScript 96 = .ok (.aload_n 0, 1) := by decide +kernel
theorem dX6_runScript_97 : decode cX6_runScript 97 = .ok (.iload_n 1, 1) := by decide +kernel
theorem dX6_runScript_98 : decode cX6_runScript 98 = .ok (.invokevirtual 195, 3) := by decide +kernel
theorem dX6_runScript_101 : decode cX6_runScript 101 = .ok (.ireturn, 1) := by decide +kernel
theorem dX6_faultPosition_0 : decode cX6_faultPosition 0 = .ok (.aload_n 0, 1) := by decide +kernel
theorem dX6_faultPosition_1 : decode cX6_faultPosition 1 = .ok (.iconst 0, 1) := by decide +kernel
theorem dX6_faultPosition_2 : decode cX6_faultPosition 2 = .ok (.putfield 1, 3) := by decide +kernel
theorem dX6_faultPosition_5 : decode cX6_faultPosition 5 = .ok (.aload_n 0, 1) := by decide +kernel
theorem dX6_faultPosition_6 : decode cX6_faultPosition 6 = .ok (.getfield 72, 3) := by decide +kernel
theorem dX6_faultPosition_9 : decode cX6_faultPosition 9 = .ok (.ireturn, 1) := by decide +kernel
end
section
theorem dL_configure_0 : decode cL_configure 0 = .ok (.aload_n 0, 1) := by decide +kernel
theorem dL_configure_1 : decode cL_configure 1 = .ok (.iload_n 1, 1) := by decide +kernel
theorem dL_configure_2 : decode cL_configure 2 = .ok (.iload_n 2, 1) := by decide +kernel
theorem dL_configure_3 : decode cL_configure 3 = .ok (.iload_n 3, 1) := by decide +kernel
theorem dL_configure_4 : decode cL_configure 4 = .ok (.invokevirtual 7, 3) := by decide +kernel
theorem dL_configure_7 : decode cL_configure 7 = .ok (.goto 11, 3) := by decide +kernel
theorem dL_configure_10 : decode cL_configure 10 = .ok (.astore 4, 2) := by decide +kernel
theorem dL_configure_12 : decode cL_configure 12 = .ok (.iconst 1, 1) := by decide +kernel
theorem dL_configure_13 : decode cL_configure 13 = .ok (.ireturn, 1) := by decide +kernel
theorem dL_configure_14 : decode cL_configure 14 = .ok (.astore 4, 2) := by decide +kernel
theorem dL_configure_16 : decode cL_configure 16 = .ok (.iconst 2, 1) := by decide +kernel
theorem dL_configure_17 : decode cL_configure 17 = .ok (.ireturn, 1) := by decide +kernel
theorem dL_configure_18 : decode cL_configure 18 = .ok (.iconst 0, 1) := by decide +kernel
theorem dL_configure_19 : decode cL_configure 19 = .ok (.ireturn, 1) := by decide +kernel
theorem dL_begin_0 : decode cL_begin 0 = .ok (.aload_n 1, 1) := by decide +kernel
theorem dL_begin_1 : decode cL_begin 1 = .ok (.iconst 0, 1) := by decide +kernel
theorem dL_begin_2 : decode cL_begin 2 = .ok (.aload_n 0, 1) := by decide +kernel
theorem dL_begin_3 : decode cL_begin 3 = .ok (.invokevirtual 17, 3) := by decide +kernel
theorem dL_begin_6 : decode cL_begin 6 = .ok (.i2l, 1) := by decide +kernel
theorem dL_begin_7 : decode cL_begin 7 = .ok (.lastore, 1) := by decide +kernel
theorem dL_begin_8 : decode cL_begin 8 = .ok (.goto 6, 3) := by decide +kernel
theorem dL_begin_11 : decode cL_begin 11 = .ok (.astore_n 2, 1) := by decide +kernel
theorem dL_begin_12 : decode cL_begin 12 = .ok (.iconst 1, 1) := by decide +kernel
theorem dL_begin_13 : decode cL_begin 13 = .ok (.ireturn, 1) := by decide +kernel
theorem dL_begin_14 : decode cL_begin 14 = .ok (.iconst 0, 1) := by decide +kernel
theorem dL_begin_15 : decode cL_begin 15 = .ok (.ireturn, 1) := by decide +kernel
theorem dL_retry_0 : decode cL_retry 0 = .ok (.aload_n 2, 1) := by decide +kernel
theorem dL_retry_1 : decode cL_retry 1 = .ok (.iconst 0, 1) := by decide +kernel
theorem dL_retry_2 : decode cL_retry 2 = .ok (.aload_n 0, 1) := by decide +kernel
theorem dL_retry_3 : decode cL_retry 3 = .ok (.iload_n 1, 1) := by decide +kernel
theorem dL_retry_4 : decode cL_retry 4 = .ok (.invokevirtual 21, 3) := by decide +kernel
theorem dL_retry_7 : decode cL_retry 7 = .ok (.i2l, 1) := by decide +kernel
theorem dL_retry_8 : decode cL_retry 8 = .ok (.lastore, 1) := by decide +kernel
theorem dL_retry_9 : decode cL_retry 9 = .ok (.goto 9, 3) := by decide +kernel
theorem dL_retry_12 : decode cL_retry 12 = .ok (.astore_n 3, 1) := by decide +kernel
theorem dL_retry_13 : decode cL_retry 13 = .ok (.iconst 1, 1) := by decide +kernel
theorem dL_retry_14 : decode cL_retry 14 = .ok (.ireturn, 1) := by decide +kernel
theorem dL_retry_15 : decode cL_retry 15 = .ok (.astore_n 3, 1) := by decide +kernel
theorem dL_retry_16 : decode cL_retry 16 = .ok (.iconst 2, 1) := by decide +kernel
theorem dL_retry_17 : decode cL_retry 17 = .ok (.ireturn, 1) := by decide +kernel
theorem dL_retry_18 : decode cL_retry 18 = .ok (.iconst 0, 1) := by decide +kernel
theorem dL_retry_19 : decode cL_retry 19 = .ok (.ireturn, 1) := by decide +kernel
theorem dL_read_0 : decode cL_read 0 = .ok (.aload_n 3, 1) := by decide +kernel
theorem dL_read_1 : decode cL_read 1 = .ok (.iconst 0, 1) := by decide +kernel
theorem dL_read_2 : decode cL_read 2 = .ok (.aload_n 0, 1) := by decide +kernel
theorem dL_read_3 : decode cL_read 3 = .ok (.iload_n 1, 1) := by decide +kernel
theorem dL_read_4 : decode cL_read 4 = .ok (.iload_n 2, 1) := by decide +kernel
theorem dL_read_5 : decode cL_read 5 = .ok (.invokevirtual 27, 3) := by decide +kernel
theorem dL_read_8 : decode cL_read 8 = .ok (.i2l, 1) := by decide +kernel
theorem dL_read_9 : decode cL_read 9 = .ok (.lastore, 1) := by decide +kernel
theorem dL_read_10 : decode cL_read 10 = .ok (.goto 15, 3) := by decide +kernel
theorem dL_read_13 : decode cL_read 13 = .ok (.astore 4, 2) := by decide +kernel
theorem dL_read_15 : decode cL_read 15 = .ok (.iconst 1, 1) := by decide +kernel
theorem dL_read_16 : decode cL_read 16 = .ok (.ireturn, 1) := by decide +kernel
theorem dL_read_17 : decode cL_read 17 = .ok (.astore 4, 2) := by decide +kernel
theorem dL_read_19 : decode cL_read 19 = .ok (.iconst 2, 1) := by decide +kernel
theorem dL_read_20 : decode cL_read 20 = .ok (.ireturn, 1) := by decide +kernel
theorem dL_read_21 : decode cL_read 21 = .ok (.astore 4, 2) := by decide +kernel
theorem dL_read_23 : decode cL_read 23 = .ok (.iconst 3, 1) := by decide +kernel
theorem dL_read_24 : decode cL_read 24 = .ok (.ireturn, 1) := by decide +kernel
theorem dL_read_25 : decode cL_read 25 = .ok (.iconst 0, 1) := by decide +kernel
theorem dL_read_26 : decode cL_read 26 = .ok (.ireturn, 1) := by decide +kernel
theorem dL_scan_0 : decode cL_scan 0 = .ok (.aload 5, 2) := by decide +kernel
theorem dL_scan_2 : decode cL_scan 2 = .ok (.iconst 0, 1) := by decide +kernel
theorem dL_scan_3 : decode cL_scan 3 = .ok (.aload_n 0, 1) := by decide +kernel
theorem dL_scan_4 : decode cL_scan 4 = .ok (.iload_n 1, 1) := by decide +kernel
theorem dL_scan_5 : decode cL_scan 5 = .ok (.iload_n 2, 1) := by decide +kernel
theorem dL_scan_6 : decode cL_scan 6 = .ok (.iload_n 3, 1) := by decide +kernel
theorem dL_scan_7 : decode cL_scan 7 = .ok (.iload 4, 2) := by decide +kernel
theorem dL_scan_9 : decode cL_scan 9 = .ok (.invokevirtual 31, 3) := by decide +kernel
theorem dL_scan_12 : decode cL_scan 12 = .ok (.i2l, 1) := by decide +kernel
theorem dL_scan_13 : decode cL_scan 13 = .ok (.lastore, 1) := by decide +kernel
theorem dL_scan_14 : decode cL_scan 14 = .ok (.goto 15, 3) := by decide +kernel
theorem dL_scan_17 : decode cL_scan 17 = .ok (.astore 6, 2) := by decide +kernel
theorem dL_scan_19 : decode cL_scan 19 = .ok (.iconst 1, 1) := by decide +kernel
theorem dL_scan_20 : decode cL_scan 20 = .ok (.ireturn, 1) := by decide +kernel
theorem dL_scan_21 : decode cL_scan 21 = .ok (.astore 6, 2) := by decide +kernel
theorem dL_scan_23 : decode cL_scan 23 = .ok (.iconst 2, 1) := by decide +kernel
theorem dL_scan_24 : decode cL_scan 24 = .ok (.ireturn, 1) := by decide +kernel
theorem dL_scan_25 : decode cL_scan 25 = .ok (.astore 6, 2) := by decide +kernel
theorem dL_scan_27 : decode cL_scan 27 = .ok (.iconst 3, 1) := by decide +kernel
theorem dL_scan_28 : decode cL_scan 28 = .ok (.ireturn, 1) := by decide +kernel
theorem dL_scan_29 : decode cL_scan 29 = .ok (.iconst 0, 1) := by decide +kernel
theorem dL_scan_30 : decode cL_scan 30 = .ok (.ireturn, 1) := by decide +kernel
theorem dL_sum_0 : decode cL_sum 0 = .ok (.aload 4, 2) := by decide +kernel
theorem dL_sum_2 : decode cL_sum 2 = .ok (.iconst 0, 1) := by decide +kernel
theorem dL_sum_3 : decode cL_sum 3 = .ok (.aload_n 0, 1) := by decide +kernel
theorem dL_sum_4 : decode cL_sum 4 = .ok (.iload_n 1, 1) := by decide +kernel
theorem dL_sum_5 : decode cL_sum 5 = .ok (.iload_n 2, 1) := by decide +kernel
theorem dL_sum_6 : decode cL_sum 6 = .ok (.iload_n 3, 1) := by decide +kernel
theorem dL_sum_7 : decode cL_sum 7 = .ok (.invokevirtual 35, 3) := by decide +kernel
theorem dL_sum_10 : decode cL_sum 10 = .ok (.i2l, 1) := by decide +kernel
theorem dL_sum_11 : decode cL_sum 11 = .ok (.lastore, 1) := by decide +kernel
theorem dL_sum_12 : decode cL_sum 12 = .ok (.goto 15, 3) := by decide +kernel
theorem dL_sum_15 : decode cL_sum 15 = .ok (.astore 5, 2) := by decide +kernel
theorem dL_sum_17 : decode cL_sum 17 = .ok (.iconst 1, 1) := by decide +kernel
theorem dL_sum_18 : decode cL_sum 18 = .ok (.ireturn, 1) := by decide +kernel
theorem dL_sum_19 : decode cL_sum 19 = .ok (.astore 5, 2) := by decide +kernel
theorem dL_sum_21 : decode cL_sum 21 = .ok (.iconst 2, 1) := by decide +kernel
theorem dL_sum_22 : decode cL_sum 22 = .ok (.ireturn, 1) := by decide +kernel
theorem dL_sum_23 : decode cL_sum 23 = .ok (.astore 5, 2) := by decide +kernel
theorem dL_sum_25 : decode cL_sum 25 = .ok (.iconst 3, 1) := by decide +kernel
theorem dL_sum_26 : decode cL_sum 26 = .ok (.ireturn, 1) := by decide +kernel
theorem dL_sum_27 : decode cL_sum 27 = .ok (.iconst 0, 1) := by decide +kernel
theorem dL_sum_28 : decode cL_sum 28 = .ok (.ireturn, 1) := by decide +kernel
theorem dL_write_0 : decode cL_write 0 = .ok (.aload_n 0, 1) := by decide +kernel
theorem dL_write_1 : decode cL_write 1 = .ok (.iload_n 1, 1) := by decide +kernel
theorem dL_write_2 : decode cL_write 2 = .ok (.iload_n 2, 1) := by decide +kernel
theorem dL_write_3 : decode cL_write 3 = .ok (.iload_n 3, 1) := by decide +kernel
theorem dL_write_4 : decode cL_write 4 = .ok (.invokevirtual 39, 3) := by decide +kernel
theorem dL_write_7 : decode cL_write 7 = .ok (.goto 15, 3) := by decide +kernel
theorem dL_write_10 : decode cL_write 10 = .ok (.astore 4, 2) := by decide +kernel
theorem dL_write_12 : decode cL_write 12 = .ok (.iconst 1, 1) := by decide +kernel
theorem dL_write_13 : decode cL_write 13 = .ok (.ireturn, 1) := by decide +kernel
theorem dL_write_14 : decode cL_write 14 = .ok (.astore 4, 2) := by decide +kernel
theorem dL_write_16 : decode cL_write 16 = .ok (.iconst 2, 1) := by decide +kernel
theorem dL_write_17 : decode cL_write 17 = .ok (.ireturn, 1) := by decide +kernel
theorem dL_write_18 : decode cL_write 18 = .ok (.astore 4, 2) := by decide +kernel
theorem dL_write_20 : decode cL_write 20 = .ok (.iconst 3, 1) := by decide +kernel
theorem dL_write_21 : decode cL_write 21 = .ok (.ireturn, 1) := by decide +kernel
theorem dL_write_22 : decode cL_write 22 = .ok (.iconst 0, 1) := by decide +kernel
theorem dL_write_23 : decode cL_write 23 = .ok (.ireturn, 1) := by decide +kernel
theorem dL_remove_0 : decode cL_remove 0 = .ok (.aload_n 0, 1) := by decide +kernel
theorem dL_remove_1 : decode cL_remove 1 = .ok (.iload_n 1, 1) := by decide +kernel
theorem dL_remove_2 : decode cL_remove 2 = .ok (.iload_n 2, 1) := by decide +kernel
theorem dL_remove_3 : decode cL_remove 3 = .ok (.invokevirtual 42, 3) := by decide +kernel
theorem dL_remove_6 : decode cL_remove 6 = .ok (.goto 12, 3) := by decide +kernel
theorem dL_remove_9 : decode cL_remove 9 = .ok (.astore_n 3, 1) := by decide +kernel
theorem dL_remove_10 : decode cL_remove 10 = .ok (.iconst 1, 1) := by decide +kernel
theorem dL_remove_11 : decode cL_remove 11 = .ok (.ireturn, 1) := by decide +kernel
theorem dL_remove_12 : decode cL_remove 12 = .ok (.astore_n 3, 1) := by decide +kernel
theorem dL_remove_13 : decode cL_remove 13 = .ok (.iconst 2, 1) := by decide +kernel
theorem dL_remove_14 : decode cL_remove 14 = .ok (.ireturn, 1) := by decide +kernel
theorem dL_remove_15 : decode cL_remove 15 = .ok (.astore_n 3, 1) := by decide +kernel
theorem dL_remove_16 : decode cL_remove 16 = .ok (.iconst 3, 1) := by decide +kernel
theorem dL_remove_17 : decode cL_remove 17 = .ok (.ireturn, 1) := by decide +kernel
theorem dL_remove_18 : decode cL_remove 18 = .ok (.iconst 0, 1) := by decide +kernel
theorem dL_remove_19 : decode cL_remove 19 = .ok (.ireturn, 1) := by decide +kernel
theorem dL_add_0 : decode cL_add 0 = .ok (.aload 4, 2) := by decide +kernel
theorem dL_add_2 : decode cL_add 2 = .ok (.iconst 0, 1) := by decide +kernel
theorem dL_add_3 : decode cL_add 3 = .ok (.aload_n 0, 1) := by decide +kernel
theorem dL_add_4 : decode cL_add 4 = .ok (.iload_n 1, 1) := by decide +kernel
theorem dL_add_5 : decode cL_add 5 = .ok (.iload_n 2, 1) := by decide +kernel
theorem dL_add_6 : decode cL_add 6 = .ok (.iload_n 3, 1) := by decide +kernel
theorem dL_add_7 : decode cL_add 7 = .ok (.invokevirtual 46, 3) := by decide +kernel
theorem dL_add_10 : decode cL_add 10 = .ok (.i2l, 1) := by decide +kernel
theorem dL_add_11 : decode cL_add 11 = .ok (.lastore, 1) := by decide +kernel
theorem dL_add_12 : decode cL_add 12 = .ok (.goto 19, 3) := by decide +kernel
theorem dL_add_15 : decode cL_add 15 = .ok (.astore 5, 2) := by decide +kernel
theorem dL_add_17 : decode cL_add 17 = .ok (.iconst 1, 1) := by decide +kernel
theorem dL_add_18 : decode cL_add 18 = .ok (.ireturn, 1) := by decide +kernel
theorem dL_add_19 : decode cL_add 19 = .ok (.astore 5, 2) := by decide +kernel
theorem dL_add_21 : decode cL_add 21 = .ok (.iconst 2, 1) := by decide +kernel
theorem dL_add_22 : decode cL_add 22 = .ok (.ireturn, 1) := by decide +kernel
theorem dL_add_23 : decode cL_add 23 = .ok (.astore 5, 2) := by decide +kernel
theorem dL_add_25 : decode cL_add 25 = .ok (.iconst 3, 1) := by decide +kernel
theorem dL_add_26 : decode cL_add 26 = .ok (.ireturn, 1) := by decide +kernel
theorem dL_add_27 : decode cL_add 27 = .ok (.astore 5, 2) := by decide +kernel
theorem dL_add_29 : decode cL_add 29 = .ok (.iconst 4, 1) := by decide +kernel
theorem dL_add_30 : decode cL_add 30 = .ok (.ireturn, 1) := by decide +kernel
theorem dL_add_31 : decode cL_add 31 = .ok (.iconst 0, 1) := by decide +kernel
theorem dL_add_32 : decode cL_add 32 = .ok (.ireturn, 1) := by decide +kernel
theorem dL_commit_0 : decode cL_commit 0 = .ok (.aload_n 2, 1) := by decide +kernel
theorem dL_commit_1 : decode cL_commit 1 = .ok (.iconst 0, 1) := by decide +kernel
theorem dL_commit_2 : decode cL_commit 2 = .ok (.aload_n 0, 1) := by decide +kernel
theorem dL_commit_3 : decode cL_commit 3 = .ok (.iload_n 1, 1) := by decide +kernel
theorem dL_commit_4 : decode cL_commit 4 = .ok (.invokevirtual 51, 3) := by decide +kernel
theorem dL_commit_7 : decode cL_commit 7 = .ok (.i2l, 1) := by decide +kernel
theorem dL_commit_8 : decode cL_commit 8 = .ok (.lastore, 1) := by decide +kernel
theorem dL_commit_9 : decode cL_commit 9 = .ok (.goto 9, 3) := by decide +kernel
theorem dL_commit_12 : decode cL_commit 12 = .ok (.astore_n 3, 1) := by decide +kernel
theorem dL_commit_13 : decode cL_commit 13 = .ok (.iconst 1, 1) := by decide +kernel
theorem dL_commit_14 : decode cL_commit 14 = .ok (.ireturn, 1) := by decide +kernel
theorem dL_commit_15 : decode cL_commit 15 = .ok (.astore_n 3, 1) := by decide +kernel
theorem dL_commit_16 : decode cL_commit 16 = .ok (.iconst 2, 1) := by decide +kernel
theorem dL_commit_17 : decode cL_commit 17 = .ok (.ireturn, 1) := by decide +kernel
theorem dL_commit_18 : decode cL_commit 18 = .ok (.iconst 0, 1) := by decide +kernel
theorem dL_commit_19 : decode cL_commit 19 = .ok (.ireturn, 1) := by decide +kernel
theorem dL_abort_0 : decode cL_abort 0 = .ok (.aload_n 0, 1) := by decide +kernel
theorem dL_abort_1 : decode cL_abort 1 = .ok (.iload_n 1, 1) := by decide +kernel
theorem dL_abort_2 : decode cL_abort 2 = .ok (.invokevirtual 54, 3) := by decide +kernel
theorem dL_abort_5 : decode cL_abort 5 = .ok (.goto 9, 3) := by decide +kernel
theorem dL_abort_8 : decode cL_abort 8 = .ok (.astore_n 2, 1) := by decide +kernel
theorem dL_abort_9 : decode cL_abort 9 = .ok (.iconst 1, 1) := by decide +kernel
theorem dL_abort_10 : decode cL_abort 10 = .ok (.ireturn, 1) := by decide +kernel
theorem dL_abort_11 : decode cL_abort 11 = .ok (.astore_n 2, 1) := by decide +kernel
theorem dL_abort_12 : decode cL_abort 12 = .ok (.iconst 2, 1) := by decide +kernel
theorem dL_abort_13 : decode cL_abort 13 = .ok (.ireturn, 1) := by decide +kernel
theorem dL_abort_14 : decode cL_abort 14 = .ok (.iconst 0, 1) := by decide +kernel
theorem dL_abort_15 : decode cL_abort 15 = .ok (.ireturn, 1) := by decide +kernel
theorem dL_ticketHolder_0 : decode cL_ticketHolder 0 = .ok (.aload_n 1, 1) := by decide +kernel
theorem dL_ticketHolder_1 : decode cL_ticketHolder 1 = .ok (.iconst 0, 1) := by decide +kernel
theorem dL_ticketHolder_2 : decode cL_ticketHolder 2 = .ok (.aload_n 0, 1) := by decide +kernel
theorem dL_ticketHolder_3 : decode cL_ticketHolder 3 = .ok (.invokevirtual 58, 3) := by decide +kernel
theorem dL_ticketHolder_6 : decode cL_ticketHolder 6 = .ok (.i2l, 1) := by decide +kernel
theorem dL_ticketHolder_7 : decode cL_ticketHolder 7 = .ok (.lastore, 1) := by decide +kernel
theorem dL_ticketHolder_8 : decode cL_ticketHolder 8 = .ok (.goto 6, 3) := by decide +kernel
theorem dL_ticketHolder_11 : decode cL_ticketHolder 11 = .ok (.astore_n 2, 1) := by decide +kernel
theorem dL_ticketHolder_12 : decode cL_ticketHolder 12 = .ok (.iconst 1, 1) := by decide +kernel
theorem dL_ticketHolder_13 : decode cL_ticketHolder 13 = .ok (.ireturn, 1) := by decide +kernel
theorem dL_ticketHolder_14 : decode cL_ticketHolder 14 = .ok (.iconst 0, 1) := by decide +kernel
theorem dL_ticketHolder_15 : decode cL_ticketHolder 15 = .ok (.ireturn, 1) := by decide +kernel
theorem dL_state_0 : decode cL_state 0 = .ok (.aload_n 2, 1) := by decide +kernel
theorem dL_state_1 : decode cL_state 1 = .ok (.iconst 0, 1) := by decide +kernel
theorem dL_state_2 : decode cL_state 2 = .ok (.aload_n 0, 1) := by decide +kernel
theorem dL_state_3 : decode cL_state 3 = .ok (.iload_n 1, 1) := by decide +kernel
theorem dL_state_4 : decode cL_state 4 = .ok (.invokevirtual 63, 3) := by decide +kernel
theorem dL_state_7 : decode cL_state 7 = .ok (.i2l, 1) := by decide +kernel
theorem dL_state_8 : decode cL_state 8 = .ok (.lastore, 1) := by decide +kernel
theorem dL_state_9 : decode cL_state 9 = .ok (.goto 6, 3) := by decide +kernel
theorem dL_state_12 : decode cL_state 12 = .ok (.astore_n 3, 1) := by decide +kernel
theorem dL_state_13 : decode cL_state 13 = .ok (.iconst 1, 1) := by decide +kernel
theorem dL_state_14 : decode cL_state 14 = .ok (.ireturn, 1) := by decide +kernel
theorem dL_state_15 : decode cL_state 15 = .ok (.iconst 0, 1) := by decide +kernel
theorem dL_state_16 : decode cL_state 16 = .ok (.ireturn, 1) := by decide +kernel
theorem dL_attempt_0 : decode cL_attempt 0 = .ok (.aload_n 2, 1) := by decide +kernel
theorem dL_attempt_1 : decode cL_attempt 1 = .ok (.iconst 0, 1) := by decide +kernel
theorem dL_attempt_2 : decode cL_attempt 2 = .ok (.aload_n 0, 1) := by decide +kernel
theorem dL_attempt_3 : decode cL_attempt 3 = .ok (.iload_n 1, 1) := by decide +kernel
theorem dL_attempt_4 : decode cL_attempt 4 = .ok (.invokevirtual 66, 3) := by decide +kernel
theorem dL_attempt_7 : decode cL_attempt 7 = .ok (.i2l, 1) := by decide +kernel
theorem dL_attempt_8 : decode cL_attempt 8 = .ok (.lastore, 1) := by decide +kernel
theorem dL_attempt_9 : decode cL_attempt 9 = .ok (.goto 6, 3) := by decide +kernel
theorem dL_attempt_12 : decode cL_attempt 12 = .ok (.astore_n 3, 1) := by decide +kernel
theorem dL_attempt_13 : decode cL_attempt 13 = .ok (.iconst 1, 1) := by decide +kernel
theorem dL_attempt_14 : decode cL_attempt 14 = .ok (.ireturn, 1) := by decide +kernel
theorem dL_attempt_15 : decode cL_attempt 15 = .ok (.iconst 0, 1) := by decide +kernel
theorem dL_attempt_16 : decode cL_attempt 16 = .ok (.ireturn, 1) := by decide +kernel
theorem dL_reason_0 : decode cL_reason 0 = .ok (.aload_n 2, 1) := by decide +kernel
theorem dL_reason_1 : decode cL_reason 1 = .ok (.iconst 0, 1) := by decide +kernel
theorem dL_reason_2 : decode cL_reason 2 = .ok (.aload_n 0, 1) := by decide +kernel
theorem dL_reason_3 : decode cL_reason 3 = .ok (.iload_n 1, 1) := by decide +kernel
theorem dL_reason_4 : decode cL_reason 4 = .ok (.invokevirtual 69, 3) := by decide +kernel
theorem dL_reason_7 : decode cL_reason 7 = .ok (.i2l, 1) := by decide +kernel
theorem dL_reason_8 : decode cL_reason 8 = .ok (.lastore, 1) := by decide +kernel
theorem dL_reason_9 : decode cL_reason 9 = .ok (.goto 9, 3) := by decide +kernel
theorem dL_reason_12 : decode cL_reason 12 = .ok (.astore_n 3, 1) := by decide +kernel
theorem dL_reason_13 : decode cL_reason 13 = .ok (.iconst 1, 1) := by decide +kernel
theorem dL_reason_14 : decode cL_reason 14 = .ok (.ireturn, 1) := by decide +kernel
theorem dL_reason_15 : decode cL_reason 15 = .ok (.astore_n 3, 1) := by decide +kernel
theorem dL_reason_16 : decode cL_reason 16 = .ok (.iconst 2, 1) := by decide +kernel
theorem dL_reason_17 : decode cL_reason 17 = .ok (.ireturn, 1) := by decide +kernel
theorem dL_reason_18 : decode cL_reason 18 = .ok (.iconst 0, 1) := by decide +kernel
theorem dL_reason_19 : decode cL_reason 19 = .ok (.ireturn, 1) := by decide +kernel
theorem dL_commitOf_0 : decode cL_commitOf 0 = .ok (.aload_n 2, 1) := by decide +kernel
theorem dL_commitOf_1 : decode cL_commitOf 1 = .ok (.iconst 0, 1) := by decide +kernel
theorem dL_commitOf_2 : decode cL_commitOf 2 = .ok (.aload_n 0, 1) := by decide +kernel
theorem dL_commitOf_3 : decode cL_commitOf 3 = .ok (.iload_n 1, 1) := by decide +kernel
theorem dL_commitOf_4 : decode cL_commitOf 4 = .ok (.invokevirtual 72, 3) := by decide +kernel
theorem dL_commitOf_7 : decode cL_commitOf 7 = .ok (.i2l, 1) := by decide +kernel
theorem dL_commitOf_8 : decode cL_commitOf 8 = .ok (.lastore, 1) := by decide +kernel
theorem dL_commitOf_9 : decode cL_commitOf 9 = .ok (.goto 9, 3) := by decide +kernel
theorem dL_commitOf_12 : decode cL_commitOf 12 = .ok (.astore_n 3, 1) := by decide +kernel
theorem dL_commitOf_13 : decode cL_commitOf 13 = .ok (.iconst 1, 1) := by decide +kernel
theorem dL_commitOf_14 : decode cL_commitOf 14 = .ok (.ireturn, 1) := by decide +kernel
theorem dL_commitOf_15 : decode cL_commitOf 15 = .ok (.astore_n 3, 1) := by decide +kernel
theorem dL_commitOf_16 : decode cL_commitOf 16 = .ok (.iconst 2, 1) := by decide +kernel
theorem dL_commitOf_17 : decode cL_commitOf 17 = .ok (.ireturn, 1) := by decide +kernel
theorem dL_commitOf_18 : decode cL_commitOf 18 = .ok (.iconst 0, 1) := by decide +kernel
theorem dL_commitOf_19 : decode cL_commitOf 19 = .ok (.ireturn, 1) := by decide +kernel
theorem dL_operationCount_0 : decode cL_operationCount 0 = .ok (.aload_n 2, 1) := by decide +kernel
theorem dL_operationCount_1 : decode cL_operationCount 1 = .ok (.iconst 0, 1) := by decide +kernel
theorem dL_operationCount_2 : decode cL_operationCount 2 = .ok (.aload_n 0, 1) := by decide +kernel
theorem dL_operationCount_3 : decode cL_operationCount 3 = .ok (.iload_n 1, 1) := by decide +kernel
theorem dL_operationCount_4 : decode cL_operationCount 4 = .ok (.invokevirtual 75, 3) := by decide +kernel
theorem dL_operationCount_7 : decode cL_operationCount 7 = .ok (.i2l, 1) := by decide +kernel
theorem dL_operationCount_8 : decode cL_operationCount 8 = .ok (.lastore, 1) := by decide +kernel
theorem dL_operationCount_9 : decode cL_operationCount 9 = .ok (.goto 6, 3) := by decide +kernel
theorem dL_operationCount_12 : decode cL_operationCount 12 = .ok (.astore_n 3, 1) := by decide +kernel
theorem dL_operationCount_13 : decode cL_operationCount 13 = .ok (.iconst 1, 1) := by decide +kernel
theorem dL_operationCount_14 : decode cL_operationCount 14 = .ok (.ireturn, 1) := by decide +kernel
theorem dL_operationCount_15 : decode cL_operationCount 15 = .ok (.iconst 0, 1) := by decide +kernel
theorem dL_operationCount_16 : decode cL_operationCount 16 = .ok (.ireturn, 1) := by decide +kernel
theorem dL_recordedKeys_0 : decode cL_recordedKeys 0 = .ok (.aload_n 2, 1) := by decide +kernel
theorem dL_recordedKeys_1 : decode cL_recordedKeys 1 = .ok (.iconst 0, 1) := by decide +kernel
theorem dL_recordedKeys_2 : decode cL_recordedKeys 2 = .ok (.aload_n 0, 1) := by decide +kernel
theorem dL_recordedKeys_3 : decode cL_recordedKeys 3 = .ok (.iload_n 1, 1) := by decide +kernel
theorem dL_recordedKeys_4 : decode cL_recordedKeys 4 = .ok (.invokevirtual 78, 3) := by decide +kernel
theorem dL_recordedKeys_7 : decode cL_recordedKeys 7 = .ok (.i2l, 1) := by decide +kernel
theorem dL_recordedKeys_8 : decode cL_recordedKeys 8 = .ok (.lastore, 1) := by decide +kernel
theorem dL_recordedKeys_9 : decode cL_recordedKeys 9 = .ok (.goto 6, 3) := by decide +kernel
theorem dL_recordedKeys_12 : decode cL_recordedKeys 12 = .ok (.astore_n 3, 1) := by decide +kernel
theorem dL_recordedKeys_13 : decode cL_recordedKeys 13 = .ok (.iconst 1, 1) := by decide +kernel
theorem dL_recordedKeys_14 : decode cL_recordedKeys 14 = .ok (.ireturn, 1) := by decide +kernel
theorem dL_recordedKeys_15 : decode cL_recordedKeys 15 = .ok (.iconst 0, 1) := by decide +kernel
theorem dL_recordedKeys_16 : decode cL_recordedKeys 16 = .ok (.ireturn, 1) := by decide +kernel
theorem dL_predicateCount_0 : decode cL_predicateCount 0 = .ok (.aload_n 2, 1) := by decide +kernel
theorem dL_predicateCount_1 : decode cL_predicateCount 1 = .ok (.iconst 0, 1) := by decide +kernel
theorem dL_predicateCount_2 : decode cL_predicateCount 2 = .ok (.aload_n 0, 1) := by decide +kernel
theorem dL_predicateCount_3 : decode cL_predicateCount 3 = .ok (.iload_n 1, 1) := by decide +kernel
theorem dL_predicateCount_4 : decode cL_predicateCount 4 = .ok (.invokevirtual 81, 3) := by decide +kernel
theorem dL_predicateCount_7 : decode cL_predicateCount 7 = .ok (.i2l, 1) := by decide +kernel
theorem dL_predicateCount_8 : decode cL_predicateCount 8 = .ok (.lastore, 1) := by decide +kernel
theorem dL_predicateCount_9 : decode cL_predicateCount 9 = .ok (.goto 6, 3) := by decide +kernel
theorem dL_predicateCount_12 : decode cL_predicateCount 12 = .ok (.astore_n 3, 1) := by decide +kernel
theorem dL_predicateCount_13 : decode cL_predicateCount 13 = .ok (.iconst 1, 1) := by decide +kernel
theorem dL_predicateCount_14 : decode cL_predicateCount 14 = .ok (.ireturn, 1) := by decide +kernel
theorem dL_predicateCount_15 : decode cL_predicateCount 15 = .ok (.iconst 0, 1) := by decide +kernel
theorem dL_predicateCount_16 : decode cL_predicateCount 16 = .ok (.ireturn, 1) := by decide +kernel
theorem dL_writtenKeys_0 : decode cL_writtenKeys 0 = .ok (.aload_n 2, 1) := by decide +kernel
theorem dL_writtenKeys_1 : decode cL_writtenKeys 1 = .ok (.iconst 0, 1) := by decide +kernel
theorem dL_writtenKeys_2 : decode cL_writtenKeys 2 = .ok (.aload_n 0, 1) := by decide +kernel
theorem dL_writtenKeys_3 : decode cL_writtenKeys 3 = .ok (.iload_n 1, 1) := by decide +kernel
theorem dL_writtenKeys_4 : decode cL_writtenKeys 4 = .ok (.invokevirtual 84, 3) := by decide +kernel
theorem dL_writtenKeys_7 : decode cL_writtenKeys 7 = .ok (.i2l, 1) := by decide +kernel
theorem dL_writtenKeys_8 : decode cL_writtenKeys 8 = .ok (.lastore, 1) := by decide +kernel
theorem dL_writtenKeys_9 : decode cL_writtenKeys 9 = .ok (.goto 6, 3) := by decide +kernel
theorem dL_writtenKeys_12 : decode cL_writtenKeys 12 = .ok (.astore_n 3, 1) := by decide +kernel
theorem dL_writtenKeys_13 : decode cL_writtenKeys 13 = .ok (.iconst 1, 1) := by decide +kernel
theorem dL_writtenKeys_14 : decode cL_writtenKeys 14 = .ok (.ireturn, 1) := by decide +kernel
theorem dL_writtenKeys_15 : decode cL_writtenKeys 15 = .ok (.iconst 0, 1) := by decide +kernel
theorem dL_writtenKeys_16 : decode cL_writtenKeys 16 = .ok (.ireturn, 1) := by decide +kernel
theorem dL_isStale_0 : decode cL_isStale 0 = .ok (.aload_n 2, 1) := by decide +kernel
theorem dL_isStale_1 : decode cL_isStale 1 = .ok (.iconst 0, 1) := by decide +kernel
theorem dL_isStale_2 : decode cL_isStale 2 = .ok (.aload_n 0, 1) := by decide +kernel
theorem dL_isStale_3 : decode cL_isStale 3 = .ok (.iload_n 1, 1) := by decide +kernel
theorem dL_isStale_4 : decode cL_isStale 4 = .ok (.invokevirtual 87, 3) := by decide +kernel
theorem dL_isStale_7 : decode cL_isStale 7 = .ok (.ifCond .eq 7, 3) := by decide +kernel
theorem dL_isStale_10 : decode cL_isStale 10 = .ok (.lconst 1, 1) := by decide +kernel
theorem dL_isStale_11 : decode cL_isStale 11 = .ok (.goto 4, 3) := by decide +kernel
theorem dL_isStale_14 : decode cL_isStale 14 = .ok (.lconst 0, 1) := by decide +kernel
theorem dL_isStale_15 : decode cL_isStale 15 = .ok (.lastore, 1) := by decide +kernel
theorem dL_isStale_16 : decode cL_isStale 16 = .ok (.goto 9, 3) := by decide +kernel
theorem dL_isStale_19 : decode cL_isStale 19 = .ok (.astore_n 3, 1) := by decide +kernel
theorem dL_isStale_20 : decode cL_isStale 20 = .ok (.iconst 1, 1) := by decide +kernel
theorem dL_isStale_21 : decode cL_isStale 21 = .ok (.ireturn, 1) := by decide +kernel
theorem dL_isStale_22 : decode cL_isStale 22 = .ok (.astore_n 3, 1) := by decide +kernel
theorem dL_isStale_23 : decode cL_isStale 23 = .ok (.iconst 2, 1) := by decide +kernel
theorem dL_isStale_24 : decode cL_isStale 24 = .ok (.ireturn, 1) := by decide +kernel
theorem dL_isStale_25 : decode cL_isStale 25 = .ok (.iconst 0, 1) := by decide +kernel
theorem dL_isStale_26 : decode cL_isStale 26 = .ok (.ireturn, 1) := by decide +kernel
theorem dL_rivals_0 : decode cL_rivals 0 = .ok (.aload_n 2, 1) := by decide +kernel
theorem dL_rivals_1 : decode cL_rivals 1 = .ok (.iconst 0, 1) := by decide +kernel
theorem dL_rivals_2 : decode cL_rivals 2 = .ok (.aload_n 0, 1) := by decide +kernel
theorem dL_rivals_3 : decode cL_rivals 3 = .ok (.iload_n 1, 1) := by decide +kernel
theorem dL_rivals_4 : decode cL_rivals 4 = .ok (.invokevirtual 91, 3) := by decide +kernel
theorem dL_rivals_7 : decode cL_rivals 7 = .ok (.i2l, 1) := by decide +kernel
theorem dL_rivals_8 : decode cL_rivals 8 = .ok (.lastore, 1) := by decide +kernel
theorem dL_rivals_9 : decode cL_rivals 9 = .ok (.goto 9, 3) := by decide +kernel
theorem dL_rivals_12 : decode cL_rivals 12 = .ok (.astore_n 3, 1) := by decide +kernel
theorem dL_rivals_13 : decode cL_rivals 13 = .ok (.iconst 1, 1) := by decide +kernel
theorem dL_rivals_14 : decode cL_rivals 14 = .ok (.ireturn, 1) := by decide +kernel
theorem dL_rivals_15 : decode cL_rivals 15 = .ok (.astore_n 3, 1) := by decide +kernel
theorem dL_rivals_16 : decode cL_rivals 16 = .ok (.iconst 2, 1) := by decide +kernel
theorem dL_rivals_17 : decode cL_rivals 17 = .ok (.ireturn, 1) := by decide +kernel
theorem dL_rivals_18 : decode cL_rivals 18 = .ok (.iconst 0, 1) := by decide +kernel
theorem dL_rivals_19 : decode cL_rivals 19 = .ok (.ireturn, 1) := by decide +kernel
theorem dL_value_0 : decode cL_value 0 = .ok (.aload_n 2, 1) := by decide +kernel
theorem dL_value_1 : decode cL_value 1 = .ok (.iconst 0, 1) := by decide +kernel
theorem dL_value_2 : decode cL_value 2 = .ok (.aload_n 0, 1) := by decide +kernel
theorem dL_value_3 : decode cL_value 3 = .ok (.iload_n 1, 1) := by decide +kernel
theorem dL_value_4 : decode cL_value 4 = .ok (.invokevirtual 94, 3) := by decide +kernel
theorem dL_value_7 : decode cL_value 7 = .ok (.i2l, 1) := by decide +kernel
theorem dL_value_8 : decode cL_value 8 = .ok (.lastore, 1) := by decide +kernel
theorem dL_value_9 : decode cL_value 9 = .ok (.goto 6, 3) := by decide +kernel
theorem dL_value_12 : decode cL_value 12 = .ok (.astore_n 3, 1) := by decide +kernel
theorem dL_value_13 : decode cL_value 13 = .ok (.iconst 1, 1) := by decide +kernel
theorem dL_value_14 : decode cL_value 14 = .ok (.ireturn, 1) := by decide +kernel
theorem dL_value_15 : decode cL_value 15 = .ok (.iconst 0, 1) := by decide +kernel
theorem dL_value_16 : decode cL_value 16 = .ok (.ireturn, 1) := by decide +kernel
theorem dL_valueAt_0 : decode cL_valueAt 0 = .ok (.aload_n 3, 1) := by decide +kernel
theorem dL_valueAt_1 : decode cL_valueAt 1 = .ok (.iconst 0, 1) := by decide +kernel
theorem dL_valueAt_2 : decode cL_valueAt 2 = .ok (.aload_n 0, 1) := by decide +kernel
theorem dL_valueAt_3 : decode cL_valueAt 3 = .ok (.iload_n 1, 1) := by decide +kernel
theorem dL_valueAt_4 : decode cL_valueAt 4 = .ok (.iload_n 2, 1) := by decide +kernel
theorem dL_valueAt_5 : decode cL_valueAt 5 = .ok (.invokevirtual 97, 3) := by decide +kernel
theorem dL_valueAt_8 : decode cL_valueAt 8 = .ok (.i2l, 1) := by decide +kernel
theorem dL_valueAt_9 : decode cL_valueAt 9 = .ok (.lastore, 1) := by decide +kernel
theorem dL_valueAt_10 : decode cL_valueAt 10 = .ok (.goto 11, 3) := by decide +kernel
theorem dL_valueAt_13 : decode cL_valueAt 13 = .ok (.astore 4, 2) := by decide +kernel
theorem dL_valueAt_15 : decode cL_valueAt 15 = .ok (.iconst 1, 1) := by decide +kernel
theorem dL_valueAt_16 : decode cL_valueAt 16 = .ok (.ireturn, 1) := by decide +kernel
theorem dL_valueAt_17 : decode cL_valueAt 17 = .ok (.astore 4, 2) := by decide +kernel
theorem dL_valueAt_19 : decode cL_valueAt 19 = .ok (.iconst 2, 1) := by decide +kernel
theorem dL_valueAt_20 : decode cL_valueAt 20 = .ok (.ireturn, 1) := by decide +kernel
theorem dL_valueAt_21 : decode cL_valueAt 21 = .ok (.iconst 0, 1) := by decide +kernel
theorem dL_valueAt_22 : decode cL_valueAt 22 = .ok (.ireturn, 1) := by decide +kernel
theorem dL_writerOf_0 : decode cL_writerOf 0 = .ok (.aload_n 2, 1) := by decide +kernel
theorem dL_writerOf_1 : decode cL_writerOf 1 = .ok (.iconst 0, 1) := by decide +kernel
theorem dL_writerOf_2 : decode cL_writerOf 2 = .ok (.aload_n 0, 1) := by decide +kernel
theorem dL_writerOf_3 : decode cL_writerOf 3 = .ok (.iload_n 1, 1) := by decide +kernel
theorem dL_writerOf_4 : decode cL_writerOf 4 = .ok (.invokevirtual 100, 3) := by decide +kernel
theorem dL_writerOf_7 : decode cL_writerOf 7 = .ok (.i2l, 1) := by decide +kernel
theorem dL_writerOf_8 : decode cL_writerOf 8 = .ok (.lastore, 1) := by decide +kernel
theorem dL_writerOf_9 : decode cL_writerOf 9 = .ok (.goto 6, 3) := by decide +kernel
theorem dL_writerOf_12 : decode cL_writerOf 12 = .ok (.astore_n 3, 1) := by decide +kernel
theorem dL_writerOf_13 : decode cL_writerOf 13 = .ok (.iconst 1, 1) := by decide +kernel
theorem dL_writerOf_14 : decode cL_writerOf 14 = .ok (.ireturn, 1) := by decide +kernel
theorem dL_writerOf_15 : decode cL_writerOf 15 = .ok (.iconst 0, 1) := by decide +kernel
theorem dL_writerOf_16 : decode cL_writerOf 16 = .ok (.ireturn, 1) := by decide +kernel
theorem dL_transactionOf_0 : decode cL_transactionOf 0 = .ok (.aload_n 2, 1) := by decide +kernel
theorem dL_transactionOf_1 : decode cL_transactionOf 1 = .ok (.iconst 0, 1) := by decide +kernel
theorem dL_transactionOf_2 : decode cL_transactionOf 2 = .ok (.aload_n 0, 1) := by decide +kernel
theorem dL_transactionOf_3 : decode cL_transactionOf 3 = .ok (.iload_n 1, 1) := by decide +kernel
theorem dL_transactionOf_4 : decode cL_transactionOf 4 = .ok (.invokevirtual 103, 3) := by decide +kernel
theorem dL_transactionOf_7 : decode cL_transactionOf 7 = .ok (.i2l, 1) := by decide +kernel
theorem dL_transactionOf_8 : decode cL_transactionOf 8 = .ok (.lastore, 1) := by decide +kernel
theorem dL_transactionOf_9 : decode cL_transactionOf 9 = .ok (.goto 6, 3) := by decide +kernel
theorem dL_transactionOf_12 : decode cL_transactionOf 12 = .ok (.astore_n 3, 1) := by decide +kernel
theorem dL_transactionOf_13 : decode cL_transactionOf 13 = .ok (.iconst 1, 1) := by decide +kernel
theorem dL_transactionOf_14 : decode cL_transactionOf 14 = .ok (.ireturn, 1) := by decide +kernel
theorem dL_transactionOf_15 : decode cL_transactionOf 15 = .ok (.iconst 0, 1) := by decide +kernel
theorem dL_transactionOf_16 : decode cL_transactionOf 16 = .ok (.ireturn, 1) := by decide +kernel
theorem dL_dependency_0 : decode cL_dependency 0 = .ok (.aload_n 3, 1) := by decide +kernel
theorem dL_dependency_1 : decode cL_dependency 1 = .ok (.iconst 0, 1) := by decide +kernel
theorem dL_dependency_2 : decode cL_dependency 2 = .ok (.aload_n 0, 1) := by decide +kernel
theorem dL_dependency_3 : decode cL_dependency 3 = .ok (.iload_n 1, 1) := by decide +kernel
theorem dL_dependency_4 : decode cL_dependency 4 = .ok (.iload_n 2, 1) := by decide +kernel
theorem dL_dependency_5 : decode cL_dependency 5 = .ok (.invokevirtual 106, 3) := by decide +kernel
theorem dL_dependency_8 : decode cL_dependency 8 = .ok (.i2l, 1) := by decide +kernel
theorem dL_dependency_9 : decode cL_dependency 9 = .ok (.lastore, 1) := by decide +kernel
theorem dL_dependency_10 : decode cL_dependency 10 = .ok (.goto 11, 3) := by decide +kernel
theorem dL_dependency_13 : decode cL_dependency 13 = .ok (.astore 4, 2) := by decide +kernel
theorem dL_dependency_15 : decode cL_dependency 15 = .ok (.iconst 1, 1) := by decide +kernel
theorem dL_dependency_16 : decode cL_dependency 16 = .ok (.ireturn, 1) := by decide +kernel
theorem dL_dependency_17 : decode cL_dependency 17 = .ok (.astore 4, 2) := by decide +kernel
theorem dL_dependency_19 : decode cL_dependency 19 = .ok (.iconst 2, 1) := by decide +kernel
theorem dL_dependency_20 : decode cL_dependency 20 = .ok (.ireturn, 1) := by decide +kernel
theorem dL_dependency_21 : decode cL_dependency 21 = .ok (.iconst 0, 1) := by decide +kernel
theorem dL_dependency_22 : decode cL_dependency 22 = .ok (.ireturn, 1) := by decide +kernel
theorem dL_rewind_0 : decode cL_rewind 0 = .ok (.aload_n 2, 1) := by decide +kernel
theorem dL_rewind_1 : decode cL_rewind 1 = .ok (.iconst 0, 1) := by decide +kernel
theorem dL_rewind_2 : decode cL_rewind 2 = .ok (.aload_n 0, 1) := by decide +kernel
theorem dL_rewind_3 : decode cL_rewind 3 = .ok (.iload_n 1, 1) := by decide +kernel
theorem dL_rewind_4 : decode cL_rewind 4 = .ok (.invokevirtual 109, 3) := by decide +kernel
theorem dL_rewind_7 : decode cL_rewind 7 = .ok (.i2l, 1) := by decide +kernel
theorem dL_rewind_8 : decode cL_rewind 8 = .ok (.lastore, 1) := by decide +kernel
theorem dL_rewind_9 : decode cL_rewind 9 = .ok (.goto 9, 3) := by decide +kernel
theorem dL_rewind_12 : decode cL_rewind 12 = .ok (.astore_n 3, 1) := by decide +kernel
theorem dL_rewind_13 : decode cL_rewind 13 = .ok (.iconst 1, 1) := by decide +kernel
theorem dL_rewind_14 : decode cL_rewind 14 = .ok (.ireturn, 1) := by decide +kernel
theorem dL_rewind_15 : decode cL_rewind 15 = .ok (.astore_n 3, 1) := by decide +kernel
theorem dL_rewind_16 : decode cL_rewind 16 = .ok (.iconst 2, 1) := by decide +kernel
theorem dL_rewind_17 : decode cL_rewind 17 = .ok (.ireturn, 1) := by decide +kernel
theorem dL_rewind_18 : decode cL_rewind 18 = .ok (.iconst 0, 1) := by decide +kernel
theorem dL_rewind_19 : decode cL_rewind 19 = .ok (.ireturn, 1) := by decide +kernel
theorem dL_addConstraint_0 : decode cL_addConstraint 0 = .ok (.aload 5, 2) := by decide +kernel
theorem dL_addConstraint_2 : decode cL_addConstraint 2 = .ok (.iconst 0, 1) := by decide +kernel
theorem dL_addConstraint_3 : decode cL_addConstraint 3 = .ok (.aload_n 0, 1) := by decide +kernel
theorem dL_addConstraint_4 : decode cL_addConstraint 4 = .ok (.iload_n 1, 1) := by decide +kernel
theorem dL_addConstraint_5 : decode cL_addConstraint 5 = .ok (.iload_n 2, 1) := by decide +kernel
theorem dL_addConstraint_6 : decode cL_addConstraint 6 = .ok (.iload_n 3, 1) := by decide +kernel
theorem dL_addConstraint_7 : decode cL_addConstraint 7 = .ok (.iload 4, 2) := by decide +kernel
theorem dL_addConstraint_9 : decode cL_addConstraint 9 = .ok (.invokevirtual 112, 3) := by decide +kernel
theorem dL_addConstraint_12 : decode cL_addConstraint 12 = .ok (.i2l, 1) := by decide +kernel
theorem dL_addConstraint_13 : decode cL_addConstraint 13 = .ok (.lastore, 1) := by decide +kernel
theorem dL_addConstraint_14 : decode cL_addConstraint 14 = .ok (.goto 11, 3) := by decide +kernel
theorem dL_addConstraint_17 : decode cL_addConstraint 17 = .ok (.astore 6, 2) := by decide +kernel
theorem dL_addConstraint_19 : decode cL_addConstraint 19 = .ok (.iconst 1, 1) := by decide +kernel
theorem dL_addConstraint_20 : decode cL_addConstraint 20 = .ok (.ireturn, 1) := by decide +kernel
theorem dL_addConstraint_21 : decode cL_addConstraint 21 = .ok (.astore 6, 2) := by decide +kernel
theorem dL_addConstraint_23 : decode cL_addConstraint 23 = .ok (.iconst 2, 1) := by decide +kernel
theorem dL_addConstraint_24 : decode cL_addConstraint 24 = .ok (.ireturn, 1) := by decide +kernel
theorem dL_addConstraint_25 : decode cL_addConstraint 25 = .ok (.iconst 0, 1) := by decide +kernel
theorem dL_addConstraint_26 : decode cL_addConstraint 26 = .ok (.ireturn, 1) := by decide +kernel
theorem dL_aborts_0 : decode cL_aborts 0 = .ok (.aload_n 2, 1) := by decide +kernel
theorem dL_aborts_1 : decode cL_aborts 1 = .ok (.iconst 0, 1) := by decide +kernel
theorem dL_aborts_2 : decode cL_aborts 2 = .ok (.aload_n 0, 1) := by decide +kernel
theorem dL_aborts_3 : decode cL_aborts 3 = .ok (.iload_n 1, 1) := by decide +kernel
theorem dL_aborts_4 : decode cL_aborts 4 = .ok (.invokevirtual 115, 3) := by decide +kernel
theorem dL_aborts_7 : decode cL_aborts 7 = .ok (.i2l, 1) := by decide +kernel
theorem dL_aborts_8 : decode cL_aborts 8 = .ok (.lastore, 1) := by decide +kernel
theorem dL_aborts_9 : decode cL_aborts 9 = .ok (.goto 6, 3) := by decide +kernel
theorem dL_aborts_12 : decode cL_aborts 12 = .ok (.astore_n 3, 1) := by decide +kernel
theorem dL_aborts_13 : decode cL_aborts 13 = .ok (.iconst 1, 1) := by decide +kernel
theorem dL_aborts_14 : decode cL_aborts 14 = .ok (.ireturn, 1) := by decide +kernel
theorem dL_aborts_15 : decode cL_aborts 15 = .ok (.iconst 0, 1) := by decide +kernel
theorem dL_aborts_16 : decode cL_aborts 16 = .ok (.ireturn, 1) := by decide +kernel
theorem dL_averageAttempts_0 : decode cL_averageAttempts 0 = .ok (.aload_n 1, 1) := by decide +kernel
theorem dL_averageAttempts_1 : decode cL_averageAttempts 1 = .ok (.iconst 0, 1) := by decide +kernel
theorem dL_averageAttempts_2 : decode cL_averageAttempts 2 = .ok (.aload_n 0, 1) := by decide +kernel
theorem dL_averageAttempts_3 : decode cL_averageAttempts 3 = .ok (.invokevirtual 118, 3) := by decide +kernel
theorem dL_averageAttempts_6 : decode cL_averageAttempts 6 = .ok (.dastore, 1) := by decide +kernel
theorem dL_averageAttempts_7 : decode cL_averageAttempts 7 = .ok (.goto 6, 3) := by decide +kernel
theorem dL_averageAttempts_10 : decode cL_averageAttempts 10 = .ok (.astore_n 2, 1) := by decide +kernel
theorem dL_averageAttempts_11 : decode cL_averageAttempts 11 = .ok (.iconst 1, 1) := by decide +kernel
theorem dL_averageAttempts_12 : decode cL_averageAttempts 12 = .ok (.ireturn, 1) := by decide +kernel
theorem dL_averageAttempts_13 : decode cL_averageAttempts 13 = .ok (.iconst 0, 1) := by decide +kernel
theorem dL_averageAttempts_14 : decode cL_averageAttempts 14 = .ok (.ireturn, 1) := by decide +kernel
theorem dL_abortRate_0 : decode cL_abortRate 0 = .ok (.aload_n 1, 1) := by decide +kernel
theorem dL_abortRate_1 : decode cL_abortRate 1 = .ok (.iconst 0, 1) := by decide +kernel
theorem dL_abortRate_2 : decode cL_abortRate 2 = .ok (.aload_n 0, 1) := by decide +kernel
theorem dL_abortRate_3 : decode cL_abortRate 3 = .ok (.invokevirtual 122, 3) := by decide +kernel
theorem dL_abortRate_6 : decode cL_abortRate 6 = .ok (.f2d, 1) := by decide +kernel
theorem dL_abortRate_7 : decode cL_abortRate 7 = .ok (.dastore, 1) := by decide +kernel
theorem dL_abortRate_8 : decode cL_abortRate 8 = .ok (.goto 6, 3) := by decide +kernel
theorem dL_abortRate_11 : decode cL_abortRate 11 = .ok (.astore_n 2, 1) := by decide +kernel
theorem dL_abortRate_12 : decode cL_abortRate 12 = .ok (.iconst 1, 1) := by decide +kernel
theorem dL_abortRate_13 : decode cL_abortRate 13 = .ok (.ireturn, 1) := by decide +kernel
theorem dL_abortRate_14 : decode cL_abortRate 14 = .ok (.iconst 0, 1) := by decide +kernel
theorem dL_abortRate_15 : decode cL_abortRate 15 = .ok (.ireturn, 1) := by decide +kernel
theorem dL_appendCharacter_0 : decode cL_appendCharacter 0 = .ok (.aload_n 2, 1) := by decide +kernel
theorem dL_appendCharacter_1 : decode cL_appendCharacter 1 = .ok (.iconst 0, 1) := by decide +kernel
theorem dL_appendCharacter_2 : decode cL_appendCharacter 2 = .ok (.aload_n 0, 1) := by decide +kernel
theorem dL_appendCharacter_3 : decode cL_appendCharacter 3 = .ok (.iload_n 1, 1) := by decide +kernel
theorem dL_appendCharacter_4 : decode cL_appendCharacter 4 = .ok (.invokevirtual 126, 3) := by decide +kernel
theorem dL_appendCharacter_7 : decode cL_appendCharacter 7 = .ok (.i2l, 1) := by decide +kernel
theorem dL_appendCharacter_8 : decode cL_appendCharacter 8 = .ok (.lastore, 1) := by decide +kernel
theorem dL_appendCharacter_9 : decode cL_appendCharacter 9 = .ok (.goto 9, 3) := by decide +kernel
theorem dL_appendCharacter_12 : decode cL_appendCharacter 12 = .ok (.astore_n 3, 1) := by decide +kernel
theorem dL_appendCharacter_13 : decode cL_appendCharacter 13 = .ok (.iconst 1, 1) := by decide +kernel
theorem dL_appendCharacter_14 : decode cL_appendCharacter 14 = .ok (.ireturn, 1) := by decide +kernel
theorem dL_appendCharacter_15 : decode cL_appendCharacter 15 = .ok (.astore_n 3, 1) := by decide +kernel
theorem dL_appendCharacter_16 : decode cL_appendCharacter 16 = .ok (.iconst 2, 1) := by decide +kernel
theorem dL_appendCharacter_17 : decode cL_appendCharacter 17 = .ok (.ireturn, 1) := by decide +kernel
theorem dL_appendCharacter_18 : decode cL_appendCharacter 18 = .ok (.iconst 0, 1) := by decide +kernel
theorem dL_appendCharacter_19 : decode cL_appendCharacter 19 = .ok (.ireturn, 1) := by decide +kernel
theorem dL_runScript_0 : decode cL_runScript 0 = .ok (.aload_n 1, 1) := by decide +kernel
theorem dL_runScript_1 : decode cL_runScript 1 = .ok (.iconst 0, 1) := by decide +kernel
theorem dL_runScript_2 : decode cL_runScript 2 = .ok (.aload_n 0, 1) := by decide +kernel
theorem dL_runScript_3 : decode cL_runScript 3 = .ok (.invokevirtual 129, 3) := by decide +kernel
theorem dL_runScript_6 : decode cL_runScript 6 = .ok (.i2l, 1) := by decide +kernel
theorem dL_runScript_7 : decode cL_runScript 7 = .ok (.lastore, 1) := by decide +kernel
theorem dL_runScript_8 : decode cL_runScript 8 = .ok (.goto 9, 3) := by decide +kernel
theorem dL_runScript_11 : decode cL_runScript 11 = .ok (.astore_n 2, 1) := by decide +kernel
theorem dL_runScript_12 : decode cL_runScript 12 = .ok (.iconst 1, 1) := by decide +kernel
theorem dL_runScript_13 : decode cL_runScript 13 = .ok (.ireturn, 1) := by decide +kernel
theorem dL_runScript_14 : decode cL_runScript 14 = .ok (.astore_n 2, 1) := by decide +kernel
theorem dL_runScript_15 : decode cL_runScript 15 = .ok (.iconst 2, 1) := by decide +kernel
theorem dL_runScript_16 : decode cL_runScript 16 = .ok (.ireturn, 1) := by decide +kernel
theorem dL_runScript_17 : decode cL_runScript 17 = .ok (.iconst 0, 1) := by decide +kernel
theorem dL_runScript_18 : decode cL_runScript 18 = .ok (.ireturn, 1) := by decide +kernel
theorem dL_law_0 : decode cL_law 0 = .ok (.new 8, 3) := by decide +kernel
theorem dL_law_3 : decode cL_law 3 = .ok (.dup, 1) := by decide +kernel
theorem dL_law_4 : decode cL_law 4 = .ok (.invokespecial 132, 3) := by decide +kernel
theorem dL_law_7 : decode cL_law 7 = .ok (.astore_n 1, 1) := by decide +kernel
theorem dL_law_8 : decode cL_law 8 = .ok (.new 133, 3) := by decide +kernel
theorem dL_law_11 : decode cL_law 11 = .ok (.dup, 1) := by decide +kernel
theorem dL_law_12 : decode cL_law 12 = .ok (.invokespecial 135, 3) := by decide +kernel
theorem dL_law_15 : decode cL_law 15 = .ok (.astore_n 2, 1) := by decide +kernel
theorem dL_law_16 : decode cL_law 16 = .ok (.iconst 1, 1) := by decide +kernel
theorem dL_law_17 : decode cL_law 17 = .ok (.newarray .long, 2) := by decide +kernel
theorem dL_law_19 : decode cL_law 19 = .ok (.astore_n 3, 1) := by decide +kernel
theorem dL_law_20 : decode cL_law 20 = .ok (.iconst 1, 1) := by decide +kernel
theorem dL_law_21 : decode cL_law 21 = .ok (.newarray .double, 2) := by decide +kernel
theorem dL_law_23 : decode cL_law 23 = .ok (.astore 4, 2) := by decide +kernel
theorem dL_law_25 : decode cL_law 25 = .ok (.iconst 0, 1) := by decide +kernel
theorem dL_law_26 : decode cL_law 26 = .ok (.istore 5, 2) := by decide +kernel
theorem dL_law_28 : decode cL_law 28 = .ok (.iload 5, 2) := by decide +kernel
theorem dL_law_30 : decode cL_law 30 = .ok (.aload_n 0, 1) := by decide +kernel
theorem dL_law_31 : decode cL_law 31 = .ok (.arraylength, 1) := by decide +kernel
theorem dL_law_32 : decode cL_law 32 = .ok (.iconst 5, 1) := by decide +kernel
theorem dL_law_33 : decode cL_law 33 = .ok (.isub, 1) := by decide +kernel
theorem dL_law_34 : decode cL_law 34 = .ok (.if_icmp .gt 2317, 3) := by decide +kernel
theorem dL_law_37 : decode cL_law 37 = .ok (.aload_n 0, 1) := by decide +kernel
theorem dL_law_38 : decode cL_law 38 = .ok (.iload 5, 2) := by decide +kernel
theorem dL_law_40 : decode cL_law 40 = .ok (.iaload, 1) := by decide +kernel
theorem dL_law_41 : decode cL_law 41 = .ok (.bipush 63, 2) := by decide +kernel
theorem dL_law_43 : decode cL_law 43 = .ok (.iand, 1) := by decide +kernel
theorem dL_law_44 : decode cL_law 44 = .ok (.tableswitch 2301 0 40 #[180, 240, 284, 340, 408, 500, 580, 640, 688, 768, 824, 860, 873, 886, 899, 943, 999, 1055, 1111, 1167, 1223, 1279, 1335, 1391, 1454, 1510, 1566, 1634, 1690, 1746, 1814, 1827, 1840, 1896, 1988, 2001, 2057, 2122, 2188, 2244, 2288], 180) := by decide +kernel
theorem dL_law_224 : decode cL_law 224 = .ok (.aload_n 1, 1) := by decide +kernel
theorem dL_law_225 : decode cL_law 225 = .ok (.aload_n 0, 1) := by decide +kernel
theorem dL_law_226 : decode cL_law 226 = .ok (.iload 5, 2) := by decide +kernel
theorem dL_law_228 : decode cL_law 228 = .ok (.iconst 1, 1) := by decide +kernel
theorem dL_law_229 : decode cL_law 229 = .ok (.iadd, 1) := by decide +kernel
theorem dL_law_230 : decode cL_law 230 = .ok (.iaload, 1) := by decide +kernel
theorem dL_law_231 : decode cL_law 231 = .ok (.aload_n 0, 1) := by decide +kernel
theorem dL_law_232 : decode cL_law 232 = .ok (.iload 5, 2) := by decide +kernel
theorem dL_law_234 : decode cL_law 234 = .ok (.iconst 2, 1) := by decide +kernel
theorem dL_law_235 : decode cL_law 235 = .ok (.iadd, 1) := by decide +kernel
theorem dL_law_236 : decode cL_law 236 = .ok (.iaload, 1) := by decide +kernel
theorem dL_law_237 : decode cL_law 237 = .ok (.aload_n 0, 1) := by decide +kernel
theorem dL_law_238 : decode cL_law 238 = .ok (.iload 5, 2) := by decide +kernel
theorem dL_law_240 : decode cL_law 240 = .ok (.iconst 3, 1) := by decide +kernel
theorem dL_law_241 : decode cL_law 241 = .ok (.iadd, 1) := by decide +kernel
theorem dL_law_242 : decode cL_law 242 = .ok (.iaload, 1) := by decide +kernel
theorem dL_law_243 : decode cL_law 243 = .ok (.invokestatic 136, 3) := by decide +kernel
theorem dL_law_246 : decode cL_law 246 = .ok (.istore 6, 2) := by decide +kernel
theorem dL_law_248 : decode cL_law 248 = .ok (.aload_n 2, 1) := by decide +kernel
theorem dL_law_249 : decode cL_law 249 = .ok (.aload_n 0, 1) := by decide +kernel
theorem dL_law_250 : decode cL_law 250 = .ok (.iload 5, 2) := by decide +kernel
theorem dL_law_252 : decode cL_law 252 = .ok (.iconst 1, 1) := by decide +kernel
theorem dL_law_253 : decode cL_law 253 = .ok (.iadd, 1) := by decide +kernel
theorem dL_law_254 : decode cL_law 254 = .ok (.iaload, 1) := by decide +kernel
theorem dL_law_255 : decode cL_law 255 = .ok (.aload_n 0, 1) := by decide +kernel
theorem dL_law_256 : decode cL_law 256 = .ok (.iload 5, 2) := by decide +kernel
theorem dL_law_258 : decode cL_law 258 = .ok (.iconst 2, 1) := by decide +kernel
theorem dL_law_259 : decode cL_law 259 = .ok (.iadd, 1) := by decide +kernel
theorem dL_law_260 : decode cL_law 260 = .ok (.iaload, 1) := by decide +kernel
theorem dL_law_261 : decode cL_law 261 = .ok (.aload_n 0, 1) := by decide +kernel
theorem dL_law_262 : decode cL_law 262 = .ok (.iload 5, 2) := by decide +kernel
theorem dL_law_264 : decode cL_law 264 = .ok (.iconst 3, 1) := by decide +kernel
theorem dL_law_265 : decode cL_law 265 = .ok (.iadd, 1) := by decide +kernel
theorem dL_law_266 : decode cL_law 266 = .ok (.iaload, 1) := by decide +kernel
theorem dL_law_267 : decode cL_law 267 = .ok (.invokevirtual 141, 3) := by decide +kernel
theorem dL_law_270 : decode cL_law 270 = .ok (.aload_n 2, 1) := by decide +kernel
theorem dL_law_271 : decode cL_law 271 = .ok (.invokevirtual 142, 3) := by decide +kernel
theorem dL_law_274 : decode cL_law 274 = .ok (.iload 6, 2) := by decide +kernel
theorem dL_law_276 : decode cL_law 276 = .ok (.if_icmp .eq 5, 3) := by decide +kernel
theorem dL_law_279 : decode cL_law 279 = .ok (.iconst 0, 1) := by decide +kernel
theorem dL_law_280 : decode cL_law 280 = .ok (.ireturn, 1) := by decide +kernel
theorem dL_law_281 : decode cL_law 281 = .ok (.goto 2064, 3) := by decide +kernel
theorem dL_law_284 : decode cL_law 284 = .ok (.aload_n 1, 1) := by decide +kernel
theorem dL_law_285 : decode cL_law 285 = .ok (.aload_n 3, 1) := by decide +kernel
theorem dL_law_286 : decode cL_law 286 = .ok (.invokestatic 145, 3) := by decide +kernel
theorem dL_law_289 : decode cL_law 289 = .ok (.istore 6, 2) := by decide +kernel
theorem dL_law_291 : decode cL_law 291 = .ok (.aload_n 2, 1) := by decide +kernel
theorem dL_law_292 : decode cL_law 292 = .ok (.invokevirtual 148, 3) := by decide +kernel
theorem dL_law_295 : decode cL_law 295 = .ok (.istore 7, 2) := by decide +kernel
theorem dL_law_297 : decode cL_law 297 = .ok (.aload_n 2, 1) := by decide +kernel
theorem dL_law_298 : decode cL_law 298 = .ok (.invokevirtual 142, 3) := by decide +kernel
theorem dL_law_301 : decode cL_law 301 = .ok (.iload 6, 2) := by decide +kernel
theorem dL_law_303 : decode cL_law 303 = .ok (.if_icmp .eq 5, 3) := by decide +kernel
theorem dL_law_306 : decode cL_law 306 = .ok (.iconst 0, 1) := by decide +kernel
theorem dL_law_307 : decode cL_law 307 = .ok (.ireturn, 1) := by decide +kernel
theorem dL_law_308 : decode cL_law 308 = .ok (.iload 6, 2) := by decide +kernel
theorem dL_law_310 : decode cL_law 310 = .ok (.ifCond .ne 15, 3) := by decide +kernel
theorem dL_law_313 : decode cL_law 313 = .ok (.aload_n 3, 1) := by decide +kernel
theorem dL_law_314 : decode cL_law 314 = .ok (.iconst 0, 1) := by decide +kernel
theorem dL_law_315 : decode cL_law 315 = .ok (.laload, 1) := by decide +kernel
theorem dL_law_316 : decode cL_law 316 = .ok (.iload 7, 2) := by decide +kernel
theorem dL_law_318 : decode cL_law 318 = .ok (.i2l, 1) := by decide +kernel
theorem dL_law_319 : decode cL_law 319 = .ok (.lcmp, 1) := by decide +kernel
theorem dL_law_320 : decode cL_law 320 = .ok (.ifCond .eq 5, 3) := by decide +kernel
theorem dL_law_323 : decode cL_law 323 = .ok (.iconst 0, 1) := by decide +kernel
theorem dL_law_324 : decode cL_law 324 = .ok (.ireturn, 1) := by decide +kernel
theorem dL_law_325 : decode cL_law 325 = .ok (.goto 2020, 3) := by decide +kernel
theorem dL_law_328 : decode cL_law 328 = .ok (.aload_n 1, 1) := by decide +kernel
theorem dL_law_329 : decode cL_law 329 = .ok (.aload_n 0, 1) := by decide +kernel
theorem dL_law_330 : decode cL_law 330 = .ok (.iload 5, 2) := by decide +kernel
theorem dL_law_332 : decode cL_law 332 = .ok (.iconst 1, 1) := by decide +kernel
theorem dL_law_333 : decode cL_law 333 = .ok (.iadd, 1) := by decide +kernel
theorem dL_law_334 : decode cL_law 334 = .ok (.iaload, 1) := by decide +kernel
theorem dL_law_335 : decode cL_law 335 = .ok (.aload_n 3, 1) := by decide +kernel
theorem dL_law_336 : decode cL_law 336 = .ok (.invokestatic 149, 3) := by decide +kernel
theorem dL_law_339 : decode cL_law 339 = .ok (.istore 6, 2) := by decide +kernel
theorem dL_law_341 : decode cL_law 341 = .ok (.aload_n 2, 1) := by decide +kernel
theorem dL_law_342 : decode cL_law 342 = .ok (.aload_n 0, 1) := by decide +kernel
theorem dL_law_343 : decode cL_law 343 = .ok (.iload 5, 2) := by decide +kernel
theorem dL_law_345 : decode cL_law 345 = .ok (.iconst 1, 1) := by decide +kernel
theorem dL_law_346 : decode cL_law 346 = .ok (.iadd, 1) := by decide +kernel
theorem dL_law_347 : decode cL_law 347 = .ok (.iaload, 1) := by decide +kernel
theorem dL_law_348 : decode cL_law 348 = .ok (.invokevirtual 152, 3) := by decide +kernel
theorem dL_law_351 : decode cL_law 351 = .ok (.istore 7, 2) := by decide +kernel
theorem dL_law_353 : decode cL_law 353 = .ok (.aload_n 2, 1) := by decide +kernel
theorem dL_law_354 : decode cL_law 354 = .ok (.invokevirtual 142, 3) := by decide +kernel
theorem dL_law_357 : decode cL_law 357 = .ok (.iload 6, 2) := by decide +kernel
theorem dL_law_359 : decode cL_law 359 = .ok (.if_icmp .eq 5, 3) := by decide +kernel
theorem dL_law_362 : decode cL_law 362 = .ok (.iconst 0, 1) := by decide +kernel
theorem dL_law_363 : decode cL_law 363 = .ok (.ireturn, 1) := by decide +kernel
theorem dL_law_364 : decode cL_law 364 = .ok (.iload 6, 2) := by decide +kernel
theorem dL_law_366 : decode cL_law 366 = .ok (.ifCond .ne 15, 3) := by decide +kernel
theorem dL_law_369 : decode cL_law 369 = .ok (.aload_n 3, 1) := by decide +kernel
theorem dL_law_370 : decode cL_law 370 = .ok (.iconst 0, 1) := by decide +kernel
theorem dL_law_371 : decode cL_law 371 = .ok (.laload, 1) := by decide +kernel
theorem dL_law_372 : decode cL_law 372 = .ok (.iload 7, 2) := by decide +kernel
theorem dL_law_374 : decode cL_law 374 = .ok (.i2l, 1) := by decide +kernel
theorem dL_law_375 : decode cL_law 375 = .ok (.lcmp, 1) := by decide +kernel
theorem dL_law_376 : decode cL_law 376 = .ok (.ifCond .eq 5, 3) := by decide +kernel
theorem dL_law_379 : decode cL_law 379 = .ok (.iconst 0, 1) := by decide +kernel
theorem dL_law_380 : decode cL_law 380 = .ok (.ireturn, 1) := by decide +kernel
theorem dL_law_381 : decode cL_law 381 = .ok (.goto 1964, 3) := by decide +kernel
theorem dL_law_384 : decode cL_law 384 = .ok (.aload_n 1, 1) := by decide +kernel
theorem dL_law_385 : decode cL_law 385 = .ok (.aload_n 0, 1) := by decide +kernel
theorem dL_law_386 : decode cL_law 386 = .ok (.iload 5, 2) := by decide +kernel
theorem dL_law_388 : decode cL_law 388 = .ok (.iconst 1, 1) := by decide +kernel
theorem dL_law_389 : decode cL_law 389 = .ok (.iadd, 1) := by decide +kernel
theorem dL_law_390 : decode cL_law 390 = .ok (.iaload, 1) := by decide +kernel
theorem dL_law_391 : decode cL_law 391 = .ok (.aload_n 0, 1) := by decide +kernel
theorem dL_law_392 : decode cL_law 392 = .ok (.iload 5, 2) := by decide +kernel
theorem dL_law_394 : decode cL_law 394 = .ok (.iconst 2, 1) := by decide +kernel
theorem dL_law_395 : decode cL_law 395 = .ok (.iadd, 1) := by decide +kernel
theorem dL_law_396 : decode cL_law 396 = .ok (.iaload, 1) := by decide +kernel
theorem dL_law_397 : decode cL_law 397 = .ok (.aload_n 3, 1) := by decide +kernel
theorem dL_law_398 : decode cL_law 398 = .ok (.invokestatic 153, 3) := by decide +kernel
theorem dL_law_401 : decode cL_law 401 = .ok (.istore 6, 2) := by decide +kernel
theorem dL_law_403 : decode cL_law 403 = .ok (.aload_n 2, 1) := by decide +kernel
theorem dL_law_404 : decode cL_law 404 = .ok (.aload_n 0, 1) := by decide +kernel
theorem dL_law_405 : decode cL_law 405 = .ok (.iload 5, 2) := by decide +kernel
theorem dL_law_407 : decode cL_law 407 = .ok (.iconst 1, 1) := by decide +kernel
theorem dL_law_408 : decode cL_law 408 = .ok (.iadd, 1) := by decide +kernel
theorem dL_law_409 : decode cL_law 409 = .ok (.iaload, 1) := by decide +kernel
theorem dL_law_410 : decode cL_law 410 = .ok (.aload_n 0, 1) := by decide +kernel
theorem dL_law_411 : decode cL_law 411 = .ok (.iload 5, 2) := by decide +kernel
theorem dL_law_413 : decode cL_law 413 = .ok (.iconst 2, 1) := by decide +kernel
theorem dL_law_414 : decode cL_law 414 = .ok (.iadd, 1) := by decide +kernel
theorem dL_law_415 : decode cL_law 415 = .ok (.iaload, 1) := by decide +kernel
theorem dL_law_416 : decode cL_law 416 = .ok (.invokevirtual 156, 3) := by decide +kernel
theorem dL_law_419 : decode cL_law 419 = .ok (.istore 7, 2) := by decide +kernel
theorem dL_law_421 : decode cL_law 421 = .ok (.aload_n 2, 1) := by decide +kernel
theorem dL_law_422 : decode cL_law 422 = .ok (.invokevirtual 142, 3) := by decide +kernel
theorem dL_law_425 : decode cL_law 425 = .ok (.iload 6, 2) := by decide +kernel
theorem dL_law_427 : decode cL_law 427 = .ok (.if_icmp .eq 5, 3) := by decide +kernel
theorem dL_law_430 : decode cL_law 430 = .ok (.iconst 0, 1) := by decide +kernel
theorem dL_law_431 : decode cL_law 431 = .ok (.ireturn, 1) := by decide +kernel
theorem dL_law_432 : decode cL_law 432 = .ok (.iload 6, 2) := by decide +kernel
theorem dL_law_434 : decode cL_law 434 = .ok (.ifCond .ne 15, 3) := by decide +kernel
theorem dL_law_437 : decode cL_law 437 = .ok (.aload_n 3, 1) := by decide +kernel
theorem dL_law_438 : decode cL_law 438 = .ok (.iconst 0, 1) := by decide +kernel
theorem dL_law_439 : decode cL_law 439 = .ok (.laload, 1) := by decide +kernel
theorem dL_law_440 : decode cL_law 440 = .ok (.iload 7, 2) := by decide +kernel
theorem dL_law_442 : decode cL_law 442 = .ok (.i2l, 1) := by decide +kernel
theorem dL_law_443 : decode cL_law 443 = .ok (.lcmp, 1) := by decide +kernel
theorem dL_law_444 : decode cL_law 444 = .ok (.ifCond .eq 5, 3) := by decide +kernel
theorem dL_law_447 : decode cL_law 447 = .ok (.iconst 0, 1) := by decide +kernel
theorem dL_law_448 : decode cL_law 448 = .ok (.ireturn, 1) := by decide +kernel
theorem dL_law_449 : decode cL_law 449 = .ok (.goto 1896, 3) := by decide +kernel
theorem dL_law_452 : decode cL_law 452 = .ok (.aload_n 1, 1) := by decide +kernel
theorem dL_law_453 : decode cL_law 453 = .ok (.aload_n 0, 1) := by decide +kernel
theorem dL_law_454 : decode cL_law 454 = .ok (.iload 5, 2) := by decide +kernel
theorem dL_law_456 : decode cL_law 456 = .ok (.iconst 1, 1) := by decide +kernel
theorem dL_law_457 : decode cL_law 457 = .ok (.iadd, 1) := by decide +kernel
theorem dL_law_458 : decode cL_law 458 = .ok (.iaload, 1) := by decide +kernel
theorem dL_law_459 : decode cL_law 459 = .ok (.aload_n 0, 1) := by decide +kernel
theorem dL_law_460 : decode cL_law 460 = .ok (.iload 5, 2) := by decide +kernel
theorem dL_law_462 : decode cL_law 462 = .ok (.iconst 2, 1) := by decide +kernel
theorem dL_law_463 : decode cL_law 463 = .ok (.iadd, 1) := by decide +kernel
theorem dL_law_464 : decode cL_law 464 = .ok (.iaload, 1) := by decide +kernel
theorem dL_law_465 : decode cL_law 465 = .ok (.aload_n 0, 1) := by decide +kernel
theorem dL_law_466 : decode cL_law 466 = .ok (.iload 5, 2) := by decide +kernel
theorem dL_law_468 : decode cL_law 468 = .ok (.iconst 3, 1) := by decide +kernel
theorem dL_law_469 : decode cL_law 469 = .ok (.iadd, 1) := by decide +kernel
theorem dL_law_470 : decode cL_law 470 = .ok (.iaload, 1) := by decide +kernel
theorem dL_law_471 : decode cL_law 471 = .ok (.aload_n 0, 1) := by decide +kernel
theorem dL_law_472 : decode cL_law 472 = .ok (.iload 5, 2) := by decide +kernel
theorem dL_law_474 : decode cL_law 474 = .ok (.iconst 4, 1) := by decide +kernel
theorem dL_law_475 : decode cL_law 475 = .ok (.iadd, 1) := by decide +kernel
theorem dL_law_476 : decode cL_law 476 = .ok (.iaload, 1) := by decide +kernel
theorem dL_law_477 : decode cL_law 477 = .ok (.aload_n 3, 1) := by decide +kernel
theorem dL_law_478 : decode cL_law 478 = .ok (.invokestatic 157, 3) := by decide +kernel
theorem dL_law_481 : decode cL_law 481 = .ok (.istore 6, 2) := by decide +kernel
theorem dL_law_483 : decode cL_law 483 = .ok (.aload_n 2, 1) := by decide +kernel
theorem dL_law_484 : decode cL_law 484 = .ok (.aload_n 0, 1) := by decide +kernel
theorem dL_law_485 : decode cL_law 485 = .ok (.iload 5, 2) := by decide +kernel
theorem dL_law_487 : decode cL_law 487 = .ok (.iconst 1, 1) := by decide +kernel
theorem dL_law_488 : decode cL_law 488 = .ok (.iadd, 1) := by decide +kernel
theorem dL_law_489 : decode cL_law 489 = .ok (.iaload, 1) := by decide +kernel
theorem dL_law_490 : decode cL_law 490 = .ok (.aload_n 0, 1) := by decide +kernel
theorem dL_law_491 : decode cL_law 491 = .ok (.iload 5, 2) := by decide +kernel
theorem dL_law_493 : decode cL_law 493 = .ok (.iconst 2, 1) := by decide +kernel
theorem dL_law_494 : decode cL_law 494 = .ok (.iadd, 1) := by decide +kernel
theorem dL_law_495 : decode cL_law 495 = .ok (.iaload, 1) := by decide +kernel
theorem dL_law_496 : decode cL_law 496 = .ok (.aload_n 0, 1) := by decide +kernel
theorem dL_law_497 : decode cL_law 497 = .ok (.iload 5, 2) := by decide +kernel
theorem dL_law_499 : decode cL_law 499 = .ok (.iconst 3, 1) := by decide +kernel
theorem dL_law_500 : decode cL_law 500 = .ok (.iadd, 1) := by decide +kernel
theorem dL_law_501 : decode cL_law 501 = .ok (.iaload, 1) := by decide +kernel
theorem dL_law_502 : decode cL_law 502 = .ok (.aload_n 0, 1) := by decide +kernel
theorem dL_law_503 : decode cL_law 503 = .ok (.iload 5, 2) := by decide +kernel
theorem dL_law_505 : decode cL_law 505 = .ok (.iconst 4, 1) := by decide +kernel
theorem dL_law_506 : decode cL_law 506 = .ok (.iadd, 1) := by decide +kernel
theorem dL_law_507 : decode cL_law 507 = .ok (.iaload, 1) := by decide +kernel
theorem dL_law_508 : decode cL_law 508 = .ok (.invokevirtual 160, 3) := by decide +kernel
theorem dL_law_511 : decode cL_law 511 = .ok (.istore 7, 2) := by decide +kernel
theorem dL_law_513 : decode cL_law 513 = .ok (.aload_n 2, 1) := by decide +kernel
theorem dL_law_514 : decode cL_law 514 = .ok (.invokevirtual 142, 3) := by decide +kernel
theorem dL_law_517 : decode cL_law 517 = .ok (.iload 6, 2) := by decide +kernel
theorem dL_law_519 : decode cL_law 519 = .ok (.if_icmp .eq 5, 3) := by decide +kernel
theorem dL_law_522 : decode cL_law 522 = .ok (.iconst 0, 1) := by decide +kernel
theorem dL_law_523 : decode cL_law 523 = .ok (.ireturn, 1) := by decide +kernel
theorem dL_law_524 : decode cL_law 524 = .ok (.iload 6, 2) := by decide +kernel
theorem dL_law_526 : decode cL_law 526 = .ok (.ifCond .ne 15, 3) := by decide +kernel
theorem dL_law_529 : decode cL_law 529 = .ok (.aload_n 3, 1) := by decide +kernel
theorem dL_law_530 : decode cL_law 530 = .ok (.iconst 0, 1) := by decide +kernel
theorem dL_law_531 : decode cL_law 531 = .ok (.laload, 1) := by decide +kernel
theorem dL_law_532 : decode cL_law 532 = .ok (.iload 7, 2) := by decide +kernel
theorem dL_law_534 : decode cL_law 534 = .ok (.i2l, 1) := by decide +kernel
theorem dL_law_535 : decode cL_law 535 = .ok (.lcmp, 1) := by decide +kernel
theorem dL_law_536 : decode cL_law 536 = .ok (.ifCond .eq 5, 3) := by decide +kernel
theorem dL_law_539 : decode cL_law 539 = .ok (.iconst 0, 1) := by decide +kernel
theorem dL_law_540 : decode cL_law 540 = .ok (.ireturn, 1) := by decide +kernel
theorem dL_law_541 : decode cL_law 541 = .ok (.goto 1804, 3) := by decide +kernel
theorem dL_law_544 : decode cL_law 544 = .ok (.aload_n 1, 1) := by decide +kernel
theorem dL_law_545 : decode cL_law 545 = .ok (.aload_n 0, 1) := by decide +kernel
theorem dL_law_546 : decode cL_law 546 = .ok (.iload 5, 2) := by decide +kernel
theorem dL_law_548 : decode cL_law 548 = .ok (.iconst 1, 1) := by decide +kernel
theorem dL_law_549 : decode cL_law 549 = .ok (.iadd, 1) := by decide +kernel
theorem dL_law_550 : decode cL_law 550 = .ok (.iaload, 1) := by decide +kernel
theorem dL_law_551 : decode cL_law 551 = .ok (.aload_n 0, 1) := by decide +kernel
theorem dL_law_552 : decode cL_law 552 = .ok (.iload 5, 2) := by decide +kernel
theorem dL_law_554 : decode cL_law 554 = .ok (.iconst 2, 1) := by decide +kernel
theorem dL_law_555 : decode cL_law 555 = .ok (.iadd, 1) := by decide +kernel
theorem dL_law_556 : decode cL_law 556 = .ok (.iaload, 1) := by decide +kernel
theorem dL_law_557 : decode cL_law 557 = .ok (.aload_n 0, 1) := by decide +kernel
theorem dL_law_558 : decode cL_law 558 = .ok (.iload 5, 2) := by decide +kernel
theorem dL_law_560 : decode cL_law 560 = .ok (.iconst 3, 1) := by decide +kernel
theorem dL_law_561 : decode cL_law 561 = .ok (.iadd, 1) := by decide +kernel
theorem dL_law_562 : decode cL_law 562 = .ok (.iaload, 1) := by decide +kernel
theorem dL_law_563 : decode cL_law 563 = .ok (.aload_n 3, 1) := by decide +kernel
theorem dL_law_564 : decode cL_law 564 = .ok (.invokestatic 161, 3) := by decide +kernel
theorem dL_law_567 : decode cL_law 567 = .ok (.istore 6, 2) := by decide +kernel
theorem dL_law_569 : decode cL_law 569 = .ok (.aload_n 2, 1) := by decide +kernel
theorem dL_law_570 : decode cL_law 570 = .ok (.aload_n 0, 1) := by decide +kernel
theorem dL_law_571 : decode cL_law 571 = .ok (.iload 5, 2) := by decide +kernel
theorem dL_law_573 : decode cL_law 573 = .ok (.iconst 1, 1) := by decide +kernel
theorem dL_law_574 : decode cL_law 574 = .ok (.iadd, 1) := by decide +kernel
theorem dL_law_575 : decode cL_law 575 = .ok (.iaload, 1) := by decide +kernel
theorem dL_law_576 : decode cL_law 576 = .ok (.aload_n 0, 1) := by decide +kernel
theorem dL_law_577 : decode cL_law 577 = .ok (.iload 5, 2) := by decide +kernel
theorem dL_law_579 : decode cL_law 579 = .ok (.iconst 2, 1) := by decide +kernel
theorem dL_law_580 : decode cL_law 580 = .ok (.iadd, 1) := by decide +kernel
theorem dL_law_581 : decode cL_law 581 = .ok (.iaload, 1) := by decide +kernel
theorem dL_law_582 : decode cL_law 582 = .ok (.aload_n 0, 1) := by decide +kernel
theorem dL_law_583 : decode cL_law 583 = .ok (.iload 5, 2) := by decide +kernel
theorem dL_law_585 : decode cL_law 585 = .ok (.iconst 3, 1) := by decide +kernel
theorem dL_law_586 : decode cL_law 586 = .ok (.iadd, 1) := by decide +kernel
theorem dL_law_587 : decode cL_law 587 = .ok (.iaload, 1) := by decide +kernel
theorem dL_law_588 : decode cL_law 588 = .ok (.invokevirtual 164, 3) := by decide +kernel
theorem dL_law_591 : decode cL_law 591 = .ok (.istore 7, 2) := by decide +kernel
theorem dL_law_593 : decode cL_law 593 = .ok (.aload_n 2, 1) := by decide +kernel
theorem dL_law_594 : decode cL_law 594 = .ok (.invokevirtual 142, 3) := by decide +kernel
theorem dL_law_597 : decode cL_law 597 = .ok (.iload 6, 2) := by decide +kernel
theorem dL_law_599 : decode cL_law 599 = .ok (.if_icmp .eq 5, 3) := by decide +kernel
theorem dL_law_602 : decode cL_law 602 = .ok (.iconst 0, 1) := by decide +kernel
theorem dL_law_603 : decode cL_law 603 = .ok (.ireturn, 1) := by decide +kernel
theorem dL_law_604 : decode cL_law 604 = .ok (.iload 6, 2) := by decide +kernel
theorem dL_law_606 : decode cL_law 606 = .ok (.ifCond .ne 15, 3) := by decide +kernel
theorem dL_law_609 : decode cL_law 609 = .ok (.aload_n 3, 1) := by decide +kernel
theorem dL_law_610 : decode cL_law 610 = .ok (.iconst 0, 1) := by decide +kernel
theorem dL_law_611 : decode cL_law 611 = .ok (.laload, 1) := by decide +kernel
theorem dL_law_612 : decode cL_law 612 = .ok (.iload 7, 2) := by decide +kernel
theorem dL_law_614 : decode cL_law 614 = .ok (.i2l, 1) := by decide +kernel
theorem dL_law_615 : decode cL_law 615 = .ok (.lcmp, 1) := by decide +kernel
theorem dL_law_616 : decode cL_law 616 = .ok (.ifCond .eq 5, 3) := by decide +kernel
theorem dL_law_619 : decode cL_law 619 = .ok (.iconst 0, 1) := by decide +kernel
theorem dL_law_620 : decode cL_law 620 = .ok (.ireturn, 1) := by decide +kernel
theorem dL_law_621 : decode cL_law 621 = .ok (.goto 1724, 3) := by decide +kernel
theorem dL_law_624 : decode cL_law 624 = .ok (.aload_n 1, 1) := by decide +kernel
theorem dL_law_625 : decode cL_law 625 = .ok (.aload_n 0, 1) := by decide +kernel
theorem dL_law_626 : decode cL_law 626 = .ok (.iload 5, 2) := by decide +kernel
theorem dL_law_628 : decode cL_law 628 = .ok (.iconst 1, 1) := by decide +kernel
theorem dL_law_629 : decode cL_law 629 = .ok (.iadd, 1) := by decide +kernel
theorem dL_law_630 : decode cL_law 630 = .ok (.iaload, 1) := by decide +kernel
theorem dL_law_631 : decode cL_law 631 = .ok (.aload_n 0, 1) := by decide +kernel
theorem dL_law_632 : decode cL_law 632 = .ok (.iload 5, 2) := by decide +kernel
theorem dL_law_634 : decode cL_law 634 = .ok (.iconst 2, 1) := by decide +kernel
theorem dL_law_635 : decode cL_law 635 = .ok (.iadd, 1) := by decide +kernel
theorem dL_law_636 : decode cL_law 636 = .ok (.iaload, 1) := by decide +kernel
theorem dL_law_637 : decode cL_law 637 = .ok (.aload_n 0, 1) := by decide +kernel
theorem dL_law_638 : decode cL_law 638 = .ok (.iload 5, 2) := by decide +kernel
theorem dL_law_640 : decode cL_law 640 = .ok (.iconst 3, 1) := by decide +kernel
theorem dL_law_641 : decode cL_law 641 = .ok (.iadd, 1) := by decide +kernel
theorem dL_law_642 : decode cL_law 642 = .ok (.iaload, 1) := by decide +kernel
theorem dL_law_643 : decode cL_law 643 = .ok (.invokestatic 165, 3) := by decide +kernel
theorem dL_law_646 : decode cL_law 646 = .ok (.istore 6, 2) := by decide +kernel
theorem dL_law_648 : decode cL_law 648 = .ok (.aload_n 2, 1) := by decide +kernel
theorem dL_law_649 : decode cL_law 649 = .ok (.aload_n 0, 1) := by decide +kernel
theorem dL_law_650 : decode cL_law 650 = .ok (.iload 5, 2) := by decide +kernel
theorem dL_law_652 : decode cL_law 652 = .ok (.iconst 1, 1) := by decide +kernel
theorem dL_law_653 : decode cL_law 653 = .ok (.iadd, 1) := by decide +kernel
theorem dL_law_654 : decode cL_law 654 = .ok (.iaload, 1) := by decide +kernel
theorem dL_law_655 : decode cL_law 655 = .ok (.aload_n 0, 1) := by decide +kernel
theorem dL_law_656 : decode cL_law 656 = .ok (.iload 5, 2) := by decide +kernel
theorem dL_law_658 : decode cL_law 658 = .ok (.iconst 2, 1) := by decide +kernel
theorem dL_law_659 : decode cL_law 659 = .ok (.iadd, 1) := by decide +kernel
theorem dL_law_660 : decode cL_law 660 = .ok (.iaload, 1) := by decide +kernel
theorem dL_law_661 : decode cL_law 661 = .ok (.aload_n 0, 1) := by decide +kernel
theorem dL_law_662 : decode cL_law 662 = .ok (.iload 5, 2) := by decide +kernel
theorem dL_law_664 : decode cL_law 664 = .ok (.iconst 3, 1) := by decide +kernel
theorem dL_law_665 : decode cL_law 665 = .ok (.iadd, 1) := by decide +kernel
theorem dL_law_666 : decode cL_law 666 = .ok (.iaload, 1) := by decide +kernel
theorem dL_law_667 : decode cL_law 667 = .ok (.invokevirtual 167, 3) := by decide +kernel
theorem dL_law_670 : decode cL_law 670 = .ok (.aload_n 2, 1) := by decide +kernel
theorem dL_law_671 : decode cL_law 671 = .ok (.invokevirtual 142, 3) := by decide +kernel
theorem dL_law_674 : decode cL_law 674 = .ok (.iload 6, 2) := by decide +kernel
theorem dL_law_676 : decode cL_law 676 = .ok (.if_icmp .eq 5, 3) := by decide +kernel
theorem dL_law_679 : decode cL_law 679 = .ok (.iconst 0, 1) := by decide +kernel
theorem dL_law_680 : decode cL_law 680 = .ok (.ireturn, 1) := by decide +kernel
theorem dL_law_681 : decode cL_law 681 = .ok (.goto 1664, 3) := by decide +kernel
theorem dL_law_684 : decode cL_law 684 = .ok (.aload_n 1, 1) := by decide +kernel
theorem dL_law_685 : decode cL_law 685 = .ok (.aload_n 0, 1) := by decide +kernel
theorem dL_law_686 : decode cL_law 686 = .ok (.iload 5, 2) := by decide +kernel
theorem dL_law_688 : decode cL_law 688 = .ok (.iconst 1, 1) := by decide +kernel
theorem dL_law_689 : decode cL_law 689 = .ok (.iadd, 1) := by decide +kernel
theorem dL_law_690 : decode cL_law 690 = .ok (.iaload, 1) := by decide +kernel
theorem dL_law_691 : decode cL_law 691 = .ok (.aload_n 0, 1) := by decide +kernel
theorem dL_law_692 : decode cL_law 692 = .ok (.iload 5, 2) := by decide +kernel
theorem dL_law_694 : decode cL_law 694 = .ok (.iconst 2, 1) := by decide +kernel
theorem dL_law_695 : decode cL_law 695 = .ok (.iadd, 1) := by decide +kernel
theorem dL_law_696 : decode cL_law 696 = .ok (.iaload, 1) := by decide +kernel
theorem dL_law_697 : decode cL_law 697 = .ok (.invokestatic 168, 3) := by decide +kernel
theorem dL_law_700 : decode cL_law 700 = .ok (.istore 6, 2) := by decide +kernel
theorem dL_law_702 : decode cL_law 702 = .ok (.aload_n 2, 1) := by decide +kernel
theorem dL_law_703 : decode cL_law 703 = .ok (.aload_n 0, 1) := by decide +kernel
theorem dL_law_704 : decode cL_law 704 = .ok (.iload 5, 2) := by decide +kernel
theorem dL_law_706 : decode cL_law 706 = .ok (.iconst 1, 1) := by decide +kernel
theorem dL_law_707 : decode cL_law 707 = .ok (.iadd, 1) := by decide +kernel
theorem dL_law_708 : decode cL_law 708 = .ok (.iaload, 1) := by decide +kernel
theorem dL_law_709 : decode cL_law 709 = .ok (.aload_n 0, 1) := by decide +kernel
theorem dL_law_710 : decode cL_law 710 = .ok (.iload 5, 2) := by decide +kernel
theorem dL_law_712 : decode cL_law 712 = .ok (.iconst 2, 1) := by decide +kernel
theorem dL_law_713 : decode cL_law 713 = .ok (.iadd, 1) := by decide +kernel
theorem dL_law_714 : decode cL_law 714 = .ok (.iaload, 1) := by decide +kernel
theorem dL_law_715 : decode cL_law 715 = .ok (.invokevirtual 171, 3) := by decide +kernel
theorem dL_law_718 : decode cL_law 718 = .ok (.aload_n 2, 1) := by decide +kernel
theorem dL_law_719 : decode cL_law 719 = .ok (.invokevirtual 142, 3) := by decide +kernel
theorem dL_law_722 : decode cL_law 722 = .ok (.iload 6, 2) := by decide +kernel
theorem dL_law_724 : decode cL_law 724 = .ok (.if_icmp .eq 5, 3) := by decide +kernel
theorem dL_law_727 : decode cL_law 727 = .ok (.iconst 0, 1) := by decide +kernel
theorem dL_law_728 : decode cL_law 728 = .ok (.ireturn, 1) := by decide +kernel
theorem dL_law_729 : decode cL_law 729 = .ok (.goto 1616, 3) := by decide +kernel
theorem dL_law_732 : decode cL_law 732 = .ok (.aload_n 1, 1) := by decide +kernel
theorem dL_law_733 : decode cL_law 733 = .ok (.aload_n 0, 1) := by decide +kernel
theorem dL_law_734 : decode cL_law 734 = .ok (.iload 5, 2) := by decide +kernel
theorem dL_law_736 : decode cL_law 736 = .ok (.iconst 1, 1) := by decide +kernel
theorem dL_law_737 : decode cL_law 737 = .ok (.iadd, 1) := by decide +kernel
theorem dL_law_738 : decode cL_law 738 = .ok (.iaload, 1) := by decide +kernel
theorem dL_law_739 : decode cL_law 739 = .ok (.aload_n 0, 1) := by decide +kernel
theorem dL_law_740 : decode cL_law 740 = .ok (.iload 5, 2) := by decide +kernel
theorem dL_law_742 : decode cL_law 742 = .ok (.iconst 2, 1) := by decide +kernel
theorem dL_law_743 : decode cL_law 743 = .ok (.iadd, 1) := by decide +kernel
theorem dL_law_744 : decode cL_law 744 = .ok (.iaload, 1) := by decide +kernel
theorem dL_law_745 : decode cL_law 745 = .ok (.aload_n 0, 1) := by decide +kernel
theorem dL_law_746 : decode cL_law 746 = .ok (.iload 5, 2) := by decide +kernel
theorem dL_law_748 : decode cL_law 748 = .ok (.iconst 3, 1) := by decide +kernel
theorem dL_law_749 : decode cL_law 749 = .ok (.iadd, 1) := by decide +kernel
theorem dL_law_750 : decode cL_law 750 = .ok (.iaload, 1) := by decide +kernel
theorem dL_law_751 : decode cL_law 751 = .ok (.aload_n 3, 1) := by decide +kernel
theorem dL_law_752 : decode cL_law 752 = .ok (.invokestatic 172, 3) := by decide +kernel
theorem dL_law_755 : decode cL_law 755 = .ok (.istore 6, 2) := by decide +kernel
theorem dL_law_757 : decode cL_law 757 = .ok (.aload_n 2, 1) := by decide +kernel
theorem dL_law_758 : decode cL_law 758 = .ok (.aload_n 0, 1) := by decide +kernel
theorem dL_law_759 : decode cL_law 759 = .ok (.iload 5, 2) := by decide +kernel
theorem dL_law_761 : decode cL_law 761 = .ok (.iconst 1, 1) := by decide +kernel
theorem dL_law_762 : decode cL_law 762 = .ok (.iadd, 1) := by decide +kernel
theorem dL_law_763 : decode cL_law 763 = .ok (.iaload, 1) := by decide +kernel
theorem dL_law_764 : decode cL_law 764 = .ok (.aload_n 0, 1) := by decide +kernel
theorem dL_law_765 : decode cL_law 765 = .ok (.iload 5, 2) := by decide +kernel
theorem dL_law_767 : decode cL_law 767 = .ok (.iconst 2, 1) := by decide +kernel
theorem dL_law_768 : decode cL_law 768 = .ok (.iadd, 1) := by decide +kernel
theorem dL_law_769 : decode cL_law 769 = .ok (.iaload, 1) := by decide +kernel
theorem dL_law_770 : decode cL_law 770 = .ok (.aload_n 0, 1) := by decide +kernel
theorem dL_law_771 : decode cL_law 771 = .ok (.iload 5, 2) := by decide +kernel
theorem dL_law_773 : decode cL_law 773 = .ok (.iconst 3, 1) := by decide +kernel
theorem dL_law_774 : decode cL_law 774 = .ok (.iadd, 1) := by decide +kernel
theorem dL_law_775 : decode cL_law 775 = .ok (.iaload, 1) := by decide +kernel
theorem dL_law_776 : decode cL_law 776 = .ok (.invokevirtual 174, 3) := by decide +kernel
theorem dL_law_779 : decode cL_law 779 = .ok (.istore 7, 2) := by decide +kernel
theorem dL_law_781 : decode cL_law 781 = .ok (.aload_n 2, 1) := by decide +kernel
theorem dL_law_782 : decode cL_law 782 = .ok (.invokevirtual 142, 3) := by decide +kernel
theorem dL_law_785 : decode cL_law 785 = .ok (.iload 6, 2) := by decide +kernel
theorem dL_law_787 : decode cL_law 787 = .ok (.if_icmp .eq 5, 3) := by decide +kernel
theorem dL_law_790 : decode cL_law 790 = .ok (.iconst 0, 1) := by decide +kernel
theorem dL_law_791 : decode cL_law 791 = .ok (.ireturn, 1) := by decide +kernel
theorem dL_law_792 : decode cL_law 792 = .ok (.iload 6, 2) := by decide +kernel
theorem dL_law_794 : decode cL_law 794 = .ok (.ifCond .ne 15, 3) := by decide +kernel
theorem dL_law_797 : decode cL_law 797 = .ok (.aload_n 3, 1) := by decide +kernel
theorem dL_law_798 : decode cL_law 798 = .ok (.iconst 0, 1) := by decide +kernel
theorem dL_law_799 : decode cL_law 799 = .ok (.laload, 1) := by decide +kernel
theorem dL_law_800 : decode cL_law 800 = .ok (.iload 7, 2) := by decide +kernel
theorem dL_law_802 : decode cL_law 802 = .ok (.i2l, 1) := by decide +kernel
theorem dL_law_803 : decode cL_law 803 = .ok (.lcmp, 1) := by decide +kernel
theorem dL_law_804 : decode cL_law 804 = .ok (.ifCond .eq 5, 3) := by decide +kernel
theorem dL_law_807 : decode cL_law 807 = .ok (.iconst 0, 1) := by decide +kernel
theorem dL_law_808 : decode cL_law 808 = .ok (.ireturn, 1) := by decide +kernel
theorem dL_law_809 : decode cL_law 809 = .ok (.goto 1536, 3) := by decide +kernel
theorem dL_law_812 : decode cL_law 812 = .ok (.aload_n 1, 1) := by decide +kernel
theorem dL_law_813 : decode cL_law 813 = .ok (.aload_n 0, 1) := by decide +kernel
theorem dL_law_814 : decode cL_law 814 = .ok (.iload 5, 2) := by decide +kernel
theorem dL_law_816 : decode cL_law 816 = .ok (.iconst 1, 1) := by decide +kernel
end
section
theorem dL_law_817 : decode cL_law 817 = .ok (.iadd, 1) := by decide +kernel
theorem dL_law_818 : decode cL_law 818 = .ok (.iaload, 1) := by decide +kernel
theorem dL_law_819 : decode cL_law 819 = .ok (.aload_n 3, 1) := by decide +kernel
theorem dL_law_820 : decode cL_law 820 = .ok (.invokestatic 175, 3) := by decide +kernel
theorem dL_law_823 : decode cL_law 823 = .ok (.istore 6, 2) := by decide +kernel
theorem dL_law_825 : decode cL_law 825 = .ok (.aload_n 2, 1) := by decide +kernel
theorem dL_law_826 : decode cL_law 826 = .ok (.aload_n 0, 1) := by decide +kernel
theorem dL_law_827 : decode cL_law 827 = .ok (.iload 5, 2) := by decide +kernel
theorem dL_law_829 : decode cL_law 829 = .ok (.iconst 1, 1) := by decide +kernel
theorem dL_law_830 : decode cL_law 830 = .ok (.iadd, 1) := by decide +kernel
theorem dL_law_831 : decode cL_law 831 = .ok (.iaload, 1) := by decide +kernel
theorem dL_law_832 : decode cL_law 832 = .ok (.invokevirtual 177, 3) := by decide +kernel
theorem dL_law_835 : decode cL_law 835 = .ok (.istore 7, 2) := by decide +kernel
theorem dL_law_837 : decode cL_law 837 = .ok (.aload_n 2, 1) := by decide +kernel
theorem dL_law_838 : decode cL_law 838 = .ok (.invokevirtual 142, 3) := by decide +kernel
theorem dL_law_841 : decode cL_law 841 = .ok (.iload 6, 2) := by decide +kernel
theorem dL_law_843 : decode cL_law 843 = .ok (.if_icmp .eq 5, 3) := by decide +kernel
theorem dL_law_846 : decode cL_law 846 = .ok (.iconst 0, 1) := by decide +kernel
theorem dL_law_847 : decode cL_law 847 = .ok (.ireturn, 1) := by decide +kernel
theorem dL_law_848 : decode cL_law 848 = .ok (.iload 6, 2) := by decide +kernel
theorem dL_law_850 : decode cL_law 850 = .ok (.ifCond .ne 15, 3) := by decide +kernel
theorem dL_law_853 : decode cL_law 853 = .ok (.aload_n 3, 1) := by decide +kernel
theorem dL_law_854 : decode cL_law 854 = .ok (.iconst 0, 1) := by decide +kernel
theorem dL_law_855 : decode cL_law 855 = .ok (.laload, 1) := by decide +kernel
theorem dL_law_856 : decode cL_law 856 = .ok (.iload 7, 2) := by decide +kernel
theorem dL_law_858 : decode cL_law 858 = .ok (.i2l, 1) := by decide +kernel
theorem dL_law_859 : decode cL_law 859 = .ok (.lcmp, 1) := by decide +kernel
theorem dL_law_860 : decode cL_law 860 = .ok (.ifCond .eq 5, 3) := by decide +kernel
theorem dL_law_863 : decode cL_law 863 = .ok (.iconst 0, 1) := by decide +kernel
theorem dL_law_864 : decode cL_law 864 = .ok (.ireturn, 1) := by decide +kernel
theorem dL_law_865 : decode cL_law 865 = .ok (.goto 1480, 3) := by decide +kernel
theorem dL_law_868 : decode cL_law 868 = .ok (.aload_n 1, 1) := by decide +kernel
theorem dL_law_869 : decode cL_law 869 = .ok (.aload_n 0, 1) := by decide +kernel
theorem dL_law_870 : decode cL_law 870 = .ok (.iload 5, 2) := by decide +kernel
theorem dL_law_872 : decode cL_law 872 = .ok (.iconst 1, 1) := by decide +kernel
theorem dL_law_873 : decode cL_law 873 = .ok (.iadd, 1) := by decide +kernel
theorem dL_law_874 : decode cL_law 874 = .ok (.iaload, 1) := by decide +kernel
theorem dL_law_875 : decode cL_law 875 = .ok (.invokestatic 178, 3) := by decide +kernel
theorem dL_law_878 : decode cL_law 878 = .ok (.istore 6, 2) := by decide +kernel
theorem dL_law_880 : decode cL_law 880 = .ok (.aload_n 2, 1) := by decide +kernel
theorem dL_law_881 : decode cL_law 881 = .ok (.aload_n 0, 1) := by decide +kernel
theorem dL_law_882 : decode cL_law 882 = .ok (.iload 5, 2) := by decide +kernel
theorem dL_law_884 : decode cL_law 884 = .ok (.iconst 1, 1) := by decide +kernel
theorem dL_law_885 : decode cL_law 885 = .ok (.iadd, 1) := by decide +kernel
theorem dL_law_886 : decode cL_law 886 = .ok (.iaload, 1) := by decide +kernel
theorem dL_law_887 : decode cL_law 887 = .ok (.invokevirtual 181, 3) := by decide +kernel
theorem dL_law_890 : decode cL_law 890 = .ok (.aload_n 2, 1) := by decide +kernel
theorem dL_law_891 : decode cL_law 891 = .ok (.invokevirtual 142, 3) := by decide +kernel
theorem dL_law_894 : decode cL_law 894 = .ok (.iload 6, 2) := by decide +kernel
theorem dL_law_896 : decode cL_law 896 = .ok (.if_icmp .eq 5, 3) := by decide +kernel
theorem dL_law_899 : decode cL_law 899 = .ok (.iconst 0, 1) := by decide +kernel
theorem dL_law_900 : decode cL_law 900 = .ok (.ireturn, 1) := by decide +kernel
theorem dL_law_901 : decode cL_law 901 = .ok (.goto 1444, 3) := by decide +kernel
theorem dL_law_904 : decode cL_law 904 = .ok (.aload_n 1, 1) := by decide +kernel
theorem dL_law_905 : decode cL_law 905 = .ok (.invokevirtual 182, 3) := by decide +kernel
theorem dL_law_908 : decode cL_law 908 = .ok (.aload_n 2, 1) := by decide +kernel
theorem dL_law_909 : decode cL_law 909 = .ok (.invokevirtual 185, 3) := by decide +kernel
theorem dL_law_912 : decode cL_law 912 = .ok (.if_icmp .eq 1433, 3) := by decide +kernel
theorem dL_law_915 : decode cL_law 915 = .ok (.iconst 0, 1) := by decide +kernel
theorem dL_law_916 : decode cL_law 916 = .ok (.ireturn, 1) := by decide +kernel
theorem dL_law_917 : decode cL_law 917 = .ok (.aload_n 1, 1) := by decide +kernel
theorem dL_law_918 : decode cL_law 918 = .ok (.invokevirtual 186, 3) := by decide +kernel
theorem dL_law_921 : decode cL_law 921 = .ok (.aload_n 2, 1) := by decide +kernel
theorem dL_law_922 : decode cL_law 922 = .ok (.invokevirtual 189, 3) := by decide +kernel
theorem dL_law_925 : decode cL_law 925 = .ok (.if_icmp .eq 1420, 3) := by decide +kernel
theorem dL_law_928 : decode cL_law 928 = .ok (.iconst 0, 1) := by decide +kernel
theorem dL_law_929 : decode cL_law 929 = .ok (.ireturn, 1) := by decide +kernel
theorem dL_law_930 : decode cL_law 930 = .ok (.aload_n 1, 1) := by decide +kernel
theorem dL_law_931 : decode cL_law 931 = .ok (.invokevirtual 190, 3) := by decide +kernel
theorem dL_law_934 : decode cL_law 934 = .ok (.aload_n 2, 1) := by decide +kernel
theorem dL_law_935 : decode cL_law 935 = .ok (.invokevirtual 193, 3) := by decide +kernel
theorem dL_law_938 : decode cL_law 938 = .ok (.if_icmp .eq 1407, 3) := by decide +kernel
theorem dL_law_941 : decode cL_law 941 = .ok (.iconst 0, 1) := by decide +kernel
theorem dL_law_942 : decode cL_law 942 = .ok (.ireturn, 1) := by decide +kernel
theorem dL_law_943 : decode cL_law 943 = .ok (.aload_n 1, 1) := by decide +kernel
theorem dL_law_944 : decode cL_law 944 = .ok (.aload_n 3, 1) := by decide +kernel
theorem dL_law_945 : decode cL_law 945 = .ok (.invokestatic 194, 3) := by decide +kernel
theorem dL_law_948 : decode cL_law 948 = .ok (.istore 6, 2) := by decide +kernel
theorem dL_law_950 : decode cL_law 950 = .ok (.aload_n 2, 1) := by decide +kernel
theorem dL_law_951 : decode cL_law 951 = .ok (.invokevirtual 196, 3) := by decide +kernel
theorem dL_law_954 : decode cL_law 954 = .ok (.istore 7, 2) := by decide +kernel
theorem dL_law_956 : decode cL_law 956 = .ok (.aload_n 2, 1) := by decide +kernel
theorem dL_law_957 : decode cL_law 957 = .ok (.invokevirtual 142, 3) := by decide +kernel
theorem dL_law_960 : decode cL_law 960 = .ok (.iload 6, 2) := by decide +kernel
theorem dL_law_962 : decode cL_law 962 = .ok (.if_icmp .eq 5, 3) := by decide +kernel
theorem dL_law_965 : decode cL_law 965 = .ok (.iconst 0, 1) := by decide +kernel
theorem dL_law_966 : decode cL_law 966 = .ok (.ireturn, 1) := by decide +kernel
theorem dL_law_967 : decode cL_law 967 = .ok (.iload 6, 2) := by decide +kernel
theorem dL_law_969 : decode cL_law 969 = .ok (.ifCond .ne 15, 3) := by decide +kernel
theorem dL_law_972 : decode cL_law 972 = .ok (.aload_n 3, 1) := by decide +kernel
theorem dL_law_973 : decode cL_law 973 = .ok (.iconst 0, 1) := by decide +kernel
theorem dL_law_974 : decode cL_law 974 = .ok (.laload, 1) := by decide +kernel
theorem dL_law_975 : decode cL_law 975 = .ok (.iload 7, 2) := by decide +kernel
theorem dL_law_977 : decode cL_law 977 = .ok (.i2l, 1) := by decide +kernel
theorem dL_law_978 : decode cL_law 978 = .ok (.lcmp, 1) := by decide +kernel
theorem dL_law_979 : decode cL_law 979 = .ok (.ifCond .eq 5, 3) := by decide +kernel
theorem dL_law_982 : decode cL_law 982 = .ok (.iconst 0, 1) := by decide +kernel
theorem dL_law_983 : decode cL_law 983 = .ok (.ireturn, 1) := by decide +kernel
theorem dL_law_984 : decode cL_law 984 = .ok (.goto 1361, 3) := by decide +kernel
theorem dL_law_987 : decode cL_law 987 = .ok (.aload_n 1, 1) := by decide +kernel
theorem dL_law_988 : decode cL_law 988 = .ok (.aload_n 0, 1) := by decide +kernel
theorem dL_law_989 : decode cL_law 989 = .ok (.iload 5, 2) := by decide +kernel
theorem dL_law_991 : decode cL_law 991 = .ok (.iconst 1, 1) := by decide +kernel
theorem dL_law_992 : decode cL_law 992 = .ok (.iadd, 1) := by decide +kernel
theorem dL_law_993 : decode cL_law 993 = .ok (.iaload, 1) := by decide +kernel
theorem dL_law_994 : decode cL_law 994 = .ok (.aload_n 3, 1) := by decide +kernel
theorem dL_law_995 : decode cL_law 995 = .ok (.invokestatic 197, 3) := by decide +kernel
theorem dL_law_998 : decode cL_law 998 = .ok (.istore 6, 2) := by decide +kernel
theorem dL_law_1000 : decode cL_law 1000 = .ok (.aload_n 2, 1) := by decide +kernel
theorem dL_law_1001 : decode cL_law 1001 = .ok (.aload_n 0, 1) := by decide +kernel
theorem dL_law_1002 : decode cL_law 1002 = .ok (.iload 5, 2) := by decide +kernel
theorem dL_law_1004 : decode cL_law 1004 = .ok (.iconst 1, 1) := by decide +kernel
theorem dL_law_1005 : decode cL_law 1005 = .ok (.iadd, 1) := by decide +kernel
theorem dL_law_1006 : decode cL_law 1006 = .ok (.iaload, 1) := by decide +kernel
theorem dL_law_1007 : decode cL_law 1007 = .ok (.invokevirtual 199, 3) := by decide +kernel
theorem dL_law_1010 : decode cL_law 1010 = .ok (.istore 7, 2) := by decide +kernel
theorem dL_law_1012 : decode cL_law 1012 = .ok (.aload_n 2, 1) := by decide +kernel
theorem dL_law_1013 : decode cL_law 1013 = .ok (.invokevirtual 142, 3) := by decide +kernel
theorem dL_law_1016 : decode cL_law 1016 = .ok (.iload 6, 2) := by decide +kernel
theorem dL_law_1018 : decode cL_law 1018 = .ok (.if_icmp .eq 5, 3) := by decide +kernel
theorem dL_law_1021 : decode cL_law 1021 = .ok (.iconst 0, 1) := by decide +kernel
theorem dL_law_1022 : decode cL_law 1022 = .ok (.ireturn, 1) := by decide +kernel
theorem dL_law_1023 : decode cL_law 1023 = .ok (.iload 6, 2) := by decide +kernel
theorem dL_law_1025 : decode cL_law 1025 = .ok (.ifCond .ne 15, 3) := by decide +kernel
theorem dL_law_1028 : decode cL_law 1028 = .ok (.aload_n 3, 1) := by decide +kernel
theorem dL_law_1029 : decode cL_law 1029 = .ok (.iconst 0, 1) := by decide +kernel
theorem dL_law_1030 : decode cL_law 1030 = .ok (.laload, 1) := by decide +kernel
theorem dL_law_1031 : decode cL_law 1031 = .ok (.iload 7, 2) := by decide +kernel
theorem dL_law_1033 : decode cL_law 1033 = .ok (.i2l, 1) := by decide +kernel
theorem dL_law_1034 : decode cL_law 1034 = .ok (.lcmp, 1) := by decide +kernel
theorem dL_law_1035 : decode cL_law 1035 = .ok (.ifCond .eq 5, 3) := by decide +kernel
theorem dL_law_1038 : decode cL_law 1038 = .ok (.iconst 0, 1) := by decide +kernel
theorem dL_law_1039 : decode cL_law 1039 = .ok (.ireturn, 1) := by decide +kernel
theorem dL_law_1040 : decode cL_law 1040 = .ok (.goto 1305, 3) := by decide +kernel
theorem dL_law_1043 : decode cL_law 1043 = .ok (.aload_n 1, 1) := by decide +kernel
theorem dL_law_1044 : decode cL_law 1044 = .ok (.aload_n 0, 1) := by decide +kernel
theorem dL_law_1045 : decode cL_law 1045 = .ok (.iload 5, 2) := by decide +kernel
theorem dL_law_1047 : decode cL_law 1047 = .ok (.iconst 1, 1) := by decide +kernel
theorem dL_law_1048 : decode cL_law 1048 = .ok (.iadd, 1) := by decide +kernel
theorem dL_law_1049 : decode cL_law 1049 = .ok (.iaload, 1) := by decide +kernel
theorem dL_law_1050 : decode cL_law 1050 = .ok (.aload_n 3, 1) := by decide +kernel
theorem dL_law_1051 : decode cL_law 1051 = .ok (.invokestatic 200, 3) := by decide +kernel
theorem dL_law_1054 : decode cL_law 1054 = .ok (.istore 6, 2) := by decide +kernel
theorem dL_law_1056 : decode cL_law 1056 = .ok (.aload_n 2, 1) := by decide +kernel
theorem dL_law_1057 : decode cL_law 1057 = .ok (.aload_n 0, 1) := by decide +kernel
theorem dL_law_1058 : decode cL_law 1058 = .ok (.iload 5, 2) := by decide +kernel
theorem dL_law_1060 : decode cL_law 1060 = .ok (.iconst 1, 1) := by decide +kernel
theorem dL_law_1061 : decode cL_law 1061 = .ok (.iadd, 1) := by decide +kernel
theorem dL_law_1062 : decode cL_law 1062 = .ok (.iaload, 1) := by decide +kernel
theorem dL_law_1063 : decode cL_law 1063 = .ok (.invokevirtual 202, 3) := by decide +kernel
theorem dL_law_1066 : decode cL_law 1066 = .ok (.istore 7, 2) := by decide +kernel
theorem dL_law_1068 : decode cL_law 1068 = .ok (.aload_n 2, 1) := by decide +kernel
theorem dL_law_1069 : decode cL_law 1069 = .ok (.invokevirtual 142, 3) := by decide +kernel
theorem dL_law_1072 : decode cL_law 1072 = .ok (.iload 6, 2) := by decide +kernel
theorem dL_law_1074 : decode cL_law 1074 = .ok (.if_icmp .eq 5, 3) := by decide +kernel
theorem dL_law_1077 : decode cL_law 1077 = .ok (.iconst 0, 1) := by decide +kernel
theorem dL_law_1078 : decode cL_law 1078 = .ok (.ireturn, 1) := by decide +kernel
theorem dL_law_1079 : decode cL_law 1079 = .ok (.iload 6, 2) := by decide +kernel
theorem dL_law_1081 : decode cL_law 1081 = .ok (.ifCond .ne 15, 3) := by decide +kernel
theorem dL_law_1084 : decode cL_law 1084 = .ok (.aload_n 3, 1) := by decide +kernel
theorem dL_law_1085 : decode cL_law 1085 = .ok (.iconst 0, 1) := by decide +kernel
theorem dL_law_1086 : decode cL_law 1086 = .ok (.laload, 1) := by decide +kernel
theorem dL_law_1087 : decode cL_law 1087 = .ok (.iload 7, 2) := by decide +kernel
theorem dL_law_1089 : decode cL_law 1089 = .ok (.i2l, 1) := by decide +kernel
theorem dL_law_1090 : decode cL_law 1090 = .ok (.lcmp, 1) := by decide +kernel
theorem dL_law_1091 : decode cL_law 1091 = .ok (.ifCond .eq 5, 3) := by decide +kernel
theorem dL_law_1094 : decode cL_law 1094 = .ok (.iconst 0, 1) := by decide +kernel
theorem dL_law_1095 : decode cL_law 1095 = .ok (.ireturn, 1) := by decide +kernel
theorem dL_law_1096 : decode cL_law 1096 = .ok (.goto 1249, 3) := by decide +kernel
theorem dL_law_1099 : decode cL_law 1099 = .ok (.aload_n 1, 1) := by decide +kernel
theorem dL_law_1100 : decode cL_law 1100 = .ok (.aload_n 0, 1) := by decide +kernel
theorem dL_law_1101 : decode cL_law 1101 = .ok (.iload 5, 2) := by decide +kernel
theorem dL_law_1103 : decode cL_law 1103 = .ok (.iconst 1, 1) := by decide +kernel
theorem dL_law_1104 : decode cL_law 1104 = .ok (.iadd, 1) := by decide +kernel
theorem dL_law_1105 : decode cL_law 1105 = .ok (.iaload, 1) := by decide +kernel
theorem dL_law_1106 : decode cL_law 1106 = .ok (.aload_n 3, 1) := by decide +kernel
theorem dL_law_1107 : decode cL_law 1107 = .ok (.invokestatic 203, 3) := by decide +kernel
theorem dL_law_1110 : decode cL_law 1110 = .ok (.istore 6, 2) := by decide +kernel
theorem dL_law_1112 : decode cL_law 1112 = .ok (.aload_n 2, 1) := by decide +kernel
theorem dL_law_1113 : decode cL_law 1113 = .ok (.aload_n 0, 1) := by decide +kernel
theorem dL_law_1114 : decode cL_law 1114 = .ok (.iload 5, 2) := by decide +kernel
theorem dL_law_1116 : decode cL_law 1116 = .ok (.iconst 1, 1) := by decide +kernel
theorem dL_law_1117 : decode cL_law 1117 = .ok (.iadd, 1) := by decide +kernel
theorem dL_law_1118 : decode cL_law 1118 = .ok (.iaload, 1) := by decide +kernel
theorem dL_law_1119 : decode cL_law 1119 = .ok (.invokevirtual 205, 3) := by decide +kernel
theorem dL_law_1122 : decode cL_law 1122 = .ok (.istore 7, 2) := by decide +kernel
theorem dL_law_1124 : decode cL_law 1124 = .ok (.aload_n 2, 1) := by decide +kernel
theorem dL_law_1125 : decode cL_law 1125 = .ok (.invokevirtual 142, 3) := by decide +kernel
theorem dL_law_1128 : decode cL_law 1128 = .ok (.iload 6, 2) := by decide +kernel
theorem dL_law_1130 : decode cL_law 1130 = .ok (.if_icmp .eq 5, 3) := by decide +kernel
theorem dL_law_1133 : decode cL_law 1133 = .ok (.iconst 0, 1) := by decide +kernel
theorem dL_law_1134 : decode cL_law 1134 = .ok (.ireturn, 1) := by decide +kernel
theorem dL_law_1135 : decode cL_law 1135 = .ok (.iload 6, 2) := by decide +kernel
theorem dL_law_1137 : decode cL_law 1137 = .ok (.ifCond .ne 15, 3) := by decide +kernel
theorem dL_law_1140 : decode cL_law 1140 = .ok (.aload_n 3, 1) := by decide +kernel
theorem dL_law_1141 : decode cL_law 1141 = .ok (.iconst 0, 1) := by decide +kernel
theorem dL_law_1142 : decode cL_law 1142 = .ok (.laload, 1) := by decide +kernel
theorem dL_law_1143 : decode cL_law 1143 = .ok (.iload 7, 2) := by decide +kernel
theorem dL_law_1145 : decode cL_law 1145 = .ok (.i2l, 1) := by decide +kernel
theorem dL_law_1146 : decode cL_law 1146 = .ok (.lcmp, 1) := by decide +kernel
theorem dL_law_1147 : decode cL_law 1147 = .ok (.ifCond .eq 5, 3) := by decide +kernel
theorem dL_law_1150 : decode cL_law 1150 = .ok (.iconst 0, 1) := by decide +kernel
theorem dL_law_1151 : decode cL_law 1151 = .ok (.ireturn, 1) := by decide +kernel
theorem dL_law_1152 : decode cL_law 1152 = .ok (.goto 1193, 3) := by decide +kernel
theorem dL_law_1155 : decode cL_law 1155 = .ok (.aload_n 1, 1) := by decide +kernel
theorem dL_law_1156 : decode cL_law 1156 = .ok (.aload_n 0, 1) := by decide +kernel
theorem dL_law_1157 : decode cL_law 1157 = .ok (.iload 5, 2) := by decide +kernel
theorem dL_law_1159 : decode cL_law 1159 = .ok (.iconst 1, 1) := by decide +kernel
theorem dL_law_1160 : decode cL_law 1160 = .ok (.iadd, 1) := by decide +kernel
theorem dL_law_1161 : decode cL_law 1161 = .ok (.iaload, 1) := by decide +kernel
theorem dL_law_1162 : decode cL_law 1162 = .ok (.aload_n 3, 1) := by decide +kernel
theorem dL_law_1163 : decode cL_law 1163 = .ok (.invokestatic 206, 3) := by decide +kernel
theorem dL_law_1166 : decode cL_law 1166 = .ok (.istore 6, 2) := by decide +kernel
theorem dL_law_1168 : decode cL_law 1168 = .ok (.aload_n 2, 1) := by decide +kernel
theorem dL_law_1169 : decode cL_law 1169 = .ok (.aload_n 0, 1) := by decide +kernel
theorem dL_law_1170 : decode cL_law 1170 = .ok (.iload 5, 2) := by decide +kernel
theorem dL_law_1172 : decode cL_law 1172 = .ok (.iconst 1, 1) := by decide +kernel
theorem dL_law_1173 : decode cL_law 1173 = .ok (.iadd, 1) := by decide +kernel
theorem dL_law_1174 : decode cL_law 1174 = .ok (.iaload, 1) := by decide +kernel
theorem dL_law_1175 : decode cL_law 1175 = .ok (.invokevirtual 208, 3) := by decide +kernel
theorem dL_law_1178 : decode cL_law 1178 = .ok (.istore 7, 2) := by decide +kernel
theorem dL_law_1180 : decode cL_law 1180 = .ok (.aload_n 2, 1) := by decide +kernel
theorem dL_law_1181 : decode cL_law 1181 = .ok (.invokevirtual 142, 3) := by decide +kernel
theorem dL_law_1184 : decode cL_law 1184 = .ok (.iload 6, 2) := by decide +kernel
theorem dL_law_1186 : decode cL_law 1186 = .ok (.if_icmp .eq 5, 3) := by decide +kernel
theorem dL_law_1189 : decode cL_law 1189 = .ok (.iconst 0, 1) := by decide +kernel
theorem dL_law_1190 : decode cL_law 1190 = .ok (.ireturn, 1) := by decide +kernel
theorem dL_law_1191 : decode cL_law 1191 = .ok (.iload 6, 2) := by decide +kernel
theorem dL_law_1193 : decode cL_law 1193 = .ok (.ifCond .ne 15, 3) := by decide +kernel
theorem dL_law_1196 : decode cL_law 1196 = .ok (.aload_n 3, 1) := by decide +kernel
theorem dL_law_1197 : decode cL_law 1197 = .ok (.iconst 0, 1) := by decide +kernel
theorem dL_law_1198 : decode cL_law 1198 = .ok (.laload, 1) := by decide +kernel
theorem dL_law_1199 : decode cL_law 1199 = .ok (.iload 7, 2) := by decide +kernel
theorem dL_law_1201 : decode cL_law 1201 = .ok (.i2l, 1) := by decide +kernel
theorem dL_law_1202 : decode cL_law 1202 = .ok (.lcmp, 1) := by decide +kernel
theorem dL_law_1203 : decode cL_law 1203 = .ok (.ifCond .eq 5, 3) := by decide +kernel
theorem dL_law_1206 : decode cL_law 1206 = .ok (.iconst 0, 1) := by decide +kernel
theorem dL_law_1207 : decode cL_law 1207 = .ok (.ireturn, 1) := by decide +kernel
theorem dL_law_1208 : decode cL_law 1208 = .ok (.goto 1137, 3) := by decide +kernel
theorem dL_law_1211 : decode cL_law 1211 = .ok (.aload_n 1, 1) := by decide +kernel
theorem dL_law_1212 : decode cL_law 1212 = .ok (.aload_n 0, 1) := by decide +kernel
theorem dL_law_1213 : decode cL_law 1213 = .ok (.iload 5, 2) := by decide +kernel
theorem dL_law_1215 : decode cL_law 1215 = .ok (.iconst 1, 1) := by decide +kernel
theorem dL_law_1216 : decode cL_law 1216 = .ok (.iadd, 1) := by decide +kernel
theorem dL_law_1217 : decode cL_law 1217 = .ok (.iaload, 1) := by decide +kernel
theorem dL_law_1218 : decode cL_law 1218 = .ok (.aload_n 3, 1) := by decide +kernel
theorem dL_law_1219 : decode cL_law 1219 = .ok (.invokestatic 209, 3) := by decide +kernel
theorem dL_law_1222 : decode cL_law 1222 = .ok (.istore 6, 2) := by decide +kernel
theorem dL_law_1224 : decode cL_law 1224 = .ok (.aload_n 2, 1) := by decide +kernel
theorem dL_law_1225 : decode cL_law 1225 = .ok (.aload_n 0, 1) := by decide +kernel
theorem dL_law_1226 : decode cL_law 1226 = .ok (.iload 5, 2) := by decide +kernel
theorem dL_law_1228 : decode cL_law 1228 = .ok (.iconst 1, 1) := by decide +kernel
theorem dL_law_1229 : decode cL_law 1229 = .ok (.iadd, 1) := by decide +kernel
theorem dL_law_1230 : decode cL_law 1230 = .ok (.iaload, 1) := by decide +kernel
theorem dL_law_1231 : decode cL_law 1231 = .ok (.invokevirtual 211, 3) := by decide +kernel
theorem dL_law_1234 : decode cL_law 1234 = .ok (.istore 7, 2) := by decide +kernel
theorem dL_law_1236 : decode cL_law 1236 = .ok (.aload_n 2, 1) := by decide +kernel
theorem dL_law_1237 : decode cL_law 1237 = .ok (.invokevirtual 142, 3) := by decide +kernel
theorem dL_law_1240 : decode cL_law 1240 = .ok (.iload 6, 2) := by decide +kernel
theorem dL_law_1242 : decode cL_law 1242 = .ok (.if_icmp .eq 5, 3) := by decide +kernel
theorem dL_law_1245 : decode cL_law 1245 = .ok (.iconst 0, 1) := by decide +kernel
theorem dL_law_1246 : decode cL_law 1246 = .ok (.ireturn, 1) := by decide +kernel
theorem dL_law_1247 : decode cL_law 1247 = .ok (.iload 6, 2) := by decide +kernel
theorem dL_law_1249 : decode cL_law 1249 = .ok (.ifCond .ne 15, 3) := by decide +kernel
theorem dL_law_1252 : decode cL_law 1252 = .ok (.aload_n 3, 1) := by decide +kernel
theorem dL_law_1253 : decode cL_law 1253 = .ok (.iconst 0, 1) := by decide +kernel
theorem dL_law_1254 : decode cL_law 1254 = .ok (.laload, 1) := by decide +kernel
theorem dL_law_1255 : decode cL_law 1255 = .ok (.iload 7, 2) := by decide +kernel
theorem dL_law_1257 : decode cL_law 1257 = .ok (.i2l, 1) := by decide +kernel
theorem dL_law_1258 : decode cL_law 1258 = .ok (.lcmp, 1) := by decide +kernel
theorem dL_law_1259 : decode cL_law 1259 = .ok (.ifCond .eq 5, 3) := by decide +kernel
theorem dL_law_1262 : decode cL_law 1262 = .ok (.iconst 0, 1) := by decide +kernel
theorem dL_law_1263 : decode cL_law 1263 = .ok (.ireturn, 1) := by decide +kernel
theorem dL_law_1264 : decode cL_law 1264 = .ok (.goto 1081, 3) := by decide +kernel
theorem dL_law_1267 : decode cL_law 1267 = .ok (.aload_n 1, 1) := by decide +kernel
theorem dL_law_1268 : decode cL_law 1268 = .ok (.aload_n 0, 1) := by decide +kernel
theorem dL_law_1269 : decode cL_law 1269 = .ok (.iload 5, 2) := by decide +kernel
theorem dL_law_1271 : decode cL_law 1271 = .ok (.iconst 1, 1) := by decide +kernel
theorem dL_law_1272 : decode cL_law 1272 = .ok (.iadd, 1) := by decide +kernel
theorem dL_law_1273 : decode cL_law 1273 = .ok (.iaload, 1) := by decide +kernel
theorem dL_law_1274 : decode cL_law 1274 = .ok (.aload_n 3, 1) := by decide +kernel
theorem dL_law_1275 : decode cL_law 1275 = .ok (.invokestatic 212, 3) := by decide +kernel
theorem dL_law_1278 : decode cL_law 1278 = .ok (.istore 6, 2) := by decide +kernel
theorem dL_law_1280 : decode cL_law 1280 = .ok (.aload_n 2, 1) := by decide +kernel
theorem dL_law_1281 : decode cL_law 1281 = .ok (.aload_n 0, 1) := by decide +kernel
theorem dL_law_1282 : decode cL_law 1282 = .ok (.iload 5, 2) := by decide +kernel
theorem dL_law_1284 : decode cL_law 1284 = .ok (.iconst 1, 1) := by decide +kernel
theorem dL_law_1285 : decode cL_law 1285 = .ok (.iadd, 1) := by decide +kernel
theorem dL_law_1286 : decode cL_law 1286 = .ok (.iaload, 1) := by decide +kernel
theorem dL_law_1287 : decode cL_law 1287 = .ok (.invokevirtual 214, 3) := by decide +kernel
theorem dL_law_1290 : decode cL_law 1290 = .ok (.istore 7, 2) := by decide +kernel
theorem dL_law_1292 : decode cL_law 1292 = .ok (.aload_n 2, 1) := by decide +kernel
theorem dL_law_1293 : decode cL_law 1293 = .ok (.invokevirtual 142, 3) := by decide +kernel
theorem dL_law_1296 : decode cL_law 1296 = .ok (.iload 6, 2) := by decide +kernel
theorem dL_law_1298 : decode cL_law 1298 = .ok (.if_icmp .eq 5, 3) := by decide +kernel
theorem dL_law_1301 : decode cL_law 1301 = .ok (.iconst 0, 1) := by decide +kernel
theorem dL_law_1302 : decode cL_law 1302 = .ok (.ireturn, 1) := by decide +kernel
theorem dL_law_1303 : decode cL_law 1303 = .ok (.iload 6, 2) := by decide +kernel
theorem dL_law_1305 : decode cL_law 1305 = .ok (.ifCond .ne 15, 3) := by decide +kernel
theorem dL_law_1308 : decode cL_law 1308 = .ok (.aload_n 3, 1) := by decide +kernel
theorem dL_law_1309 : decode cL_law 1309 = .ok (.iconst 0, 1) := by decide +kernel
theorem dL_law_1310 : decode cL_law 1310 = .ok (.laload, 1) := by decide +kernel
theorem dL_law_1311 : decode cL_law 1311 = .ok (.iload 7, 2) := by decide +kernel
theorem dL_law_1313 : decode cL_law 1313 = .ok (.i2l, 1) := by decide +kernel
theorem dL_law_1314 : decode cL_law 1314 = .ok (.lcmp, 1) := by decide +kernel
theorem dL_law_1315 : decode cL_law 1315 = .ok (.ifCond .eq 5, 3) := by decide +kernel
theorem dL_law_1318 : decode cL_law 1318 = .ok (.iconst 0, 1) := by decide +kernel
theorem dL_law_1319 : decode cL_law 1319 = .ok (.ireturn, 1) := by decide +kernel
theorem dL_law_1320 : decode cL_law 1320 = .ok (.goto 1025, 3) := by decide +kernel
theorem dL_law_1323 : decode cL_law 1323 = .ok (.aload_n 1, 1) := by decide +kernel
theorem dL_law_1324 : decode cL_law 1324 = .ok (.aload_n 0, 1) := by decide +kernel
theorem dL_law_1325 : decode cL_law 1325 = .ok (.iload 5, 2) := by decide +kernel
theorem dL_law_1327 : decode cL_law 1327 = .ok (.iconst 1, 1) := by decide +kernel
theorem dL_law_1328 : decode cL_law 1328 = .ok (.iadd, 1) := by decide +kernel
theorem dL_law_1329 : decode cL_law 1329 = .ok (.iaload, 1) := by decide +kernel
theorem dL_law_1330 : decode cL_law 1330 = .ok (.aload_n 3, 1) := by decide +kernel
theorem dL_law_1331 : decode cL_law 1331 = .ok (.invokestatic 215, 3) := by decide +kernel
theorem dL_law_1334 : decode cL_law 1334 = .ok (.istore 6, 2) := by decide +kernel
theorem dL_law_1336 : decode cL_law 1336 = .ok (.aload_n 2, 1) := by decide +kernel
theorem dL_law_1337 : decode cL_law 1337 = .ok (.aload_n 0, 1) := by decide +kernel
theorem dL_law_1338 : decode cL_law 1338 = .ok (.iload 5, 2) := by decide +kernel
theorem dL_law_1340 : decode cL_law 1340 = .ok (.iconst 1, 1) := by decide +kernel
theorem dL_law_1341 : decode cL_law 1341 = .ok (.iadd, 1) := by decide +kernel
theorem dL_law_1342 : decode cL_law 1342 = .ok (.iaload, 1) := by decide +kernel
theorem dL_law_1343 : decode cL_law 1343 = .ok (.invokevirtual 217, 3) := by decide +kernel
theorem dL_law_1346 : decode cL_law 1346 = .ok (.istore 7, 2) := by decide +kernel
theorem dL_law_1348 : decode cL_law 1348 = .ok (.aload_n 2, 1) := by decide +kernel
theorem dL_law_1349 : decode cL_law 1349 = .ok (.invokevirtual 142, 3) := by decide +kernel
theorem dL_law_1352 : decode cL_law 1352 = .ok (.iload 6, 2) := by decide +kernel
theorem dL_law_1354 : decode cL_law 1354 = .ok (.if_icmp .eq 5, 3) := by decide +kernel
theorem dL_law_1357 : decode cL_law 1357 = .ok (.iconst 0, 1) := by decide +kernel
theorem dL_law_1358 : decode cL_law 1358 = .ok (.ireturn, 1) := by decide +kernel
theorem dL_law_1359 : decode cL_law 1359 = .ok (.iload 6, 2) := by decide +kernel
theorem dL_law_1361 : decode cL_law 1361 = .ok (.ifCond .ne 15, 3) := by decide +kernel
theorem dL_law_1364 : decode cL_law 1364 = .ok (.aload_n 3, 1) := by decide +kernel
theorem dL_law_1365 : decode cL_law 1365 = .ok (.iconst 0, 1) := by decide +kernel
theorem dL_law_1366 : decode cL_law 1366 = .ok (.laload, 1) := by decide +kernel
theorem dL_law_1367 : decode cL_law 1367 = .ok (.iload 7, 2) := by decide +kernel
theorem dL_law_1369 : decode cL_law 1369 = .ok (.i2l, 1) := by decide +kernel
theorem dL_law_1370 : decode cL_law 1370 = .ok (.lcmp, 1) := by decide +kernel
theorem dL_law_1371 : decode cL_law 1371 = .ok (.ifCond .eq 5, 3) := by decide +kernel
theorem dL_law_1374 : decode cL_law 1374 = .ok (.iconst 0, 1) := by decide +kernel
theorem dL_law_1375 : decode cL_law 1375 = .ok (.ireturn, 1) := by decide +kernel
theorem dL_law_1376 : decode cL_law 1376 = .ok (.goto 969, 3) := by decide +kernel
theorem dL_law_1379 : decode cL_law 1379 = .ok (.aload_n 1, 1) := by decide +kernel
theorem dL_law_1380 : decode cL_law 1380 = .ok (.aload_n 0, 1) := by decide +kernel
theorem dL_law_1381 : decode cL_law 1381 = .ok (.iload 5, 2) := by decide +kernel
theorem dL_law_1383 : decode cL_law 1383 = .ok (.iconst 1, 1) := by decide +kernel
theorem dL_law_1384 : decode cL_law 1384 = .ok (.iadd, 1) := by decide +kernel
theorem dL_law_1385 : decode cL_law 1385 = .ok (.iaload, 1) := by decide +kernel
theorem dL_law_1386 : decode cL_law 1386 = .ok (.aload_n 3, 1) := by decide +kernel
theorem dL_law_1387 : decode cL_law 1387 = .ok (.invokestatic 218, 3) := by decide +kernel
theorem dL_law_1390 : decode cL_law 1390 = .ok (.istore 6, 2) := by decide +kernel
theorem dL_law_1392 : decode cL_law 1392 = .ok (.aload_n 2, 1) := by decide +kernel
theorem dL_law_1393 : decode cL_law 1393 = .ok (.aload_n 0, 1) := by decide +kernel
theorem dL_law_1394 : decode cL_law 1394 = .ok (.iload 5, 2) := by decide +kernel
theorem dL_law_1396 : decode cL_law 1396 = .ok (.iconst 1, 1) := by decide +kernel
theorem dL_law_1397 : decode cL_law 1397 = .ok (.iadd, 1) := by decide +kernel
theorem dL_law_1398 : decode cL_law 1398 = .ok (.iaload, 1) := by decide +kernel
theorem dL_law_1399 : decode cL_law 1399 = .ok (.invokevirtual 220, 3) := by decide +kernel
theorem dL_law_1402 : decode cL_law 1402 = .ok (.istore 7, 2) := by decide +kernel
theorem dL_law_1404 : decode cL_law 1404 = .ok (.aload_n 2, 1) := by decide +kernel
theorem dL_law_1405 : decode cL_law 1405 = .ok (.invokevirtual 142, 3) := by decide +kernel
theorem dL_law_1408 : decode cL_law 1408 = .ok (.iload 6, 2) := by decide +kernel
theorem dL_law_1410 : decode cL_law 1410 = .ok (.if_icmp .eq 5, 3) := by decide +kernel
theorem dL_law_1413 : decode cL_law 1413 = .ok (.iconst 0, 1) := by decide +kernel
theorem dL_law_1414 : decode cL_law 1414 = .ok (.ireturn, 1) := by decide +kernel
theorem dL_law_1415 : decode cL_law 1415 = .ok (.iload 6, 2) := by decide +kernel
theorem dL_law_1417 : decode cL_law 1417 = .ok (.ifCond .ne 15, 3) := by decide +kernel
theorem dL_law_1420 : decode cL_law 1420 = .ok (.aload_n 3, 1) := by decide +kernel
theorem dL_law_1421 : decode cL_law 1421 = .ok (.iconst 0, 1) := by decide +kernel
theorem dL_law_1422 : decode cL_law 1422 = .ok (.laload, 1) := by decide +kernel
theorem dL_law_1423 : decode cL_law 1423 = .ok (.iload 7, 2) := by decide +kernel
theorem dL_law_1425 : decode cL_law 1425 = .ok (.i2l, 1) := by decide +kernel
theorem dL_law_1426 : decode cL_law 1426 = .ok (.lcmp, 1) := by decide +kernel
theorem dL_law_1427 : decode cL_law 1427 = .ok (.ifCond .eq 5, 3) := by decide +kernel
theorem dL_law_1430 : decode cL_law 1430 = .ok (.iconst 0, 1) := by decide +kernel
theorem dL_law_1431 : decode cL_law 1431 = .ok (.ireturn, 1) := by decide +kernel
theorem dL_law_1432 : decode cL_law 1432 = .ok (.goto 913, 3) := by decide +kernel
theorem dL_law_1435 : decode cL_law 1435 = .ok (.aload_n 1, 1) := by decide +kernel
theorem dL_law_1436 : decode cL_law 1436 = .ok (.aload_n 0, 1) := by decide +kernel
theorem dL_law_1437 : decode cL_law 1437 = .ok (.iload 5, 2) := by decide +kernel
theorem dL_law_1439 : decode cL_law 1439 = .ok (.iconst 1, 1) := by decide +kernel
theorem dL_law_1440 : decode cL_law 1440 = .ok (.iadd, 1) := by decide +kernel
theorem dL_law_1441 : decode cL_law 1441 = .ok (.iaload, 1) := by decide +kernel
theorem dL_law_1442 : decode cL_law 1442 = .ok (.aload_n 3, 1) := by decide +kernel
theorem dL_law_1443 : decode cL_law 1443 = .ok (.invokestatic 221, 3) := by decide +kernel
theorem dL_law_1446 : decode cL_law 1446 = .ok (.istore 6, 2) := by decide +kernel
theorem dL_law_1448 : decode cL_law 1448 = .ok (.aload_n 2, 1) := by decide +kernel
theorem dL_law_1449 : decode cL_law 1449 = .ok (.aload_n 0, 1) := by decide +kernel
theorem dL_law_1450 : decode cL_law 1450 = .ok (.iload 5, 2) := by decide +kernel
theorem dL_law_1452 : decode cL_law 1452 = .ok (.iconst 1, 1) := by decide +kernel
theorem dL_law_1453 : decode cL_law 1453 = .ok (.iadd, 1) := by decide +kernel
theorem dL_law_1454 : decode cL_law 1454 = .ok (.iaload, 1) := by decide +kernel
theorem dL_law_1455 : decode cL_law 1455 = .ok (.invokevirtual 223, 3) := by decide +kernel
theorem dL_law_1458 : decode cL_law 1458 = .ok (.istore 7, 2) := by decide +kernel
theorem dL_law_1460 : decode cL_law 1460 = .ok (.aload_n 2, 1) := by decide +kernel
theorem dL_law_1461 : decode cL_law 1461 = .ok (.invokevirtual 142, 3) := by decide +kernel
theorem dL_law_1464 : decode cL_law 1464 = .ok (.iload 6, 2) := by decide +kernel
theorem dL_law_1466 : decode cL_law 1466 = .ok (.if_icmp .eq 5, 3) := by decide +kernel
theorem dL_law_1469 : decode cL_law 1469 = .ok (.iconst 0, 1) := by decide +kernel
theorem dL_law_1470 : decode cL_law 1470 = .ok (.ireturn, 1) := by decide +kernel
theorem dL_law_1471 : decode cL_law 1471 = .ok (.iload 6, 2) := by decide +kernel
theorem dL_law_1473 : decode cL_law 1473 = .ok (.ifCond .ne 22, 3) := by decide +kernel
theorem dL_law_1476 : decode cL_law 1476 = .ok (.aload_n 3, 1) := by decide +kernel
theorem dL_law_1477 : decode cL_law 1477 = .ok (.iconst 0, 1) := by decide +kernel
theorem dL_law_1478 : decode cL_law 1478 = .ok (.laload, 1) := by decide +kernel
theorem dL_law_1479 : decode cL_law 1479 = .ok (.iload 7, 2) := by decide +kernel
theorem dL_law_1481 : decode cL_law 1481 = .ok (.ifCond .eq 7, 3) := by decide +kernel
theorem dL_law_1484 : decode cL_law 1484 = .ok (.lconst 1, 1) := by decide +kernel
theorem dL_law_1485 : decode cL_law 1485 = .ok (.goto 4, 3) := by decide +kernel
theorem dL_law_1488 : decode cL_law 1488 = .ok (.lconst 0, 1) := by decide +kernel
theorem dL_law_1489 : decode cL_law 1489 = .ok (.lcmp, 1) := by decide +kernel
theorem dL_law_1490 : decode cL_law 1490 = .ok (.ifCond .eq 5, 3) := by decide +kernel
theorem dL_law_1493 : decode cL_law 1493 = .ok (.iconst 0, 1) := by decide +kernel
theorem dL_law_1494 : decode cL_law 1494 = .ok (.ireturn, 1) := by decide +kernel
theorem dL_law_1495 : decode cL_law 1495 = .ok (.goto 850, 3) := by decide +kernel
theorem dL_law_1498 : decode cL_law 1498 = .ok (.aload_n 1, 1) := by decide +kernel
theorem dL_law_1499 : decode cL_law 1499 = .ok (.aload_n 0, 1) := by decide +kernel
theorem dL_law_1500 : decode cL_law 1500 = .ok (.iload 5, 2) := by decide +kernel
theorem dL_law_1502 : decode cL_law 1502 = .ok (.iconst 1, 1) := by decide +kernel
theorem dL_law_1503 : decode cL_law 1503 = .ok (.iadd, 1) := by decide +kernel
theorem dL_law_1504 : decode cL_law 1504 = .ok (.iaload, 1) := by decide +kernel
theorem dL_law_1505 : decode cL_law 1505 = .ok (.aload_n 3, 1) := by decide +kernel
theorem dL_law_1506 : decode cL_law 1506 = .ok (.invokestatic 224, 3) := by decide +kernel
theorem dL_law_1509 : decode cL_law 1509 = .ok (.istore 6, 2) := by decide +kernel
theorem dL_law_1511 : decode cL_law 1511 = .ok (.aload_n 2, 1) := by decide +kernel
theorem dL_law_1512 : decode cL_law 1512 = .ok (.aload_n 0, 1) := by decide +kernel
theorem dL_law_1513 : decode cL_law 1513 = .ok (.iload 5, 2) := by decide +kernel
theorem dL_law_1515 : decode cL_law 1515 = .ok (.iconst 1, 1) := by decide +kernel
theorem dL_law_1516 : decode cL_law 1516 = .ok (.iadd, 1) := by decide +kernel
theorem dL_law_1517 : decode cL_law 1517 = .ok (.iaload, 1) := by decide +kernel
theorem dL_law_1518 : decode cL_law 1518 = .ok (.invokevirtual 226, 3) := by decide +kernel
theorem dL_law_1521 : decode cL_law 1521 = .ok (.istore 7, 2) := by decide +kernel
theorem dL_law_1523 : decode cL_law 1523 = .ok (.aload_n 2, 1) := by decide +kernel
theorem dL_law_1524 : decode cL_law 1524 = .ok (.invokevirtual 142, 3) := by decide +kernel
theorem dL_law_1527 : decode cL_law 1527 = .ok (.iload 6, 2) := by decide +kernel
theorem dL_law_1529 : decode cL_law 1529 = .ok (.if_icmp .eq 5, 3) := by decide +kernel
theorem dL_law_1532 : decode cL_law 1532 = .ok (.iconst 0, 1) := by decide +kernel
theorem dL_law_1533 : decode cL_law 1533 = .ok (.ireturn, 1) := by decide +kernel
theorem dL_law_1534 : decode cL_law 1534 = .ok (.iload 6, 2) := by decide +kernel
theorem dL_law_1536 : decode cL_law 1536 = .ok (.ifCond .ne 15, 3) := by decide +kernel
theorem dL_law_1539 : decode cL_law 1539 = .ok (.aload_n 3, 1) := by decide +kernel
theorem dL_law_1540 : decode cL_law 1540 = .ok (.iconst 0, 1) := by decide +kernel
theorem dL_law_1541 : decode cL_law 1541 = .ok (.laload, 1) := by decide +kernel
theorem dL_law_1542 : decode cL_law 1542 = .ok (.iload 7, 2) := by decide +kernel
theorem dL_law_1544 : decode cL_law 1544 = .ok (.i2l, 1) := by decide +kernel
theorem dL_law_1545 : decode cL_law 1545 = .ok (.lcmp, 1) := by decide +kernel
theorem dL_law_1546 : decode cL_law 1546 = .ok (.ifCond .eq 5, 3) := by decide +kernel
theorem dL_law_1549 : decode cL_law 1549 = .ok (.iconst 0, 1) := by decide +kernel
theorem dL_law_1550 : decode cL_law 1550 = .ok (.ireturn, 1) := by decide +kernel
theorem dL_law_1551 : decode cL_law 1551 = .ok (.goto 794, 3) := by decide +kernel
theorem dL_law_1554 : decode cL_law 1554 = .ok (.aload_n 1, 1) := by decide +kernel
theorem dL_law_1555 : decode cL_law 1555 = .ok (.aload_n 0, 1) := by decide +kernel
theorem dL_law_1556 : decode cL_law 1556 = .ok (.iload 5, 2) := by decide +kernel
theorem dL_law_1558 : decode cL_law 1558 = .ok (.iconst 1, 1) := by decide +kernel
theorem dL_law_1559 : decode cL_law 1559 = .ok (.iadd, 1) := by decide +kernel
theorem dL_law_1560 : decode cL_law 1560 = .ok (.iaload, 1) := by decide +kernel
theorem dL_law_1561 : decode cL_law 1561 = .ok (.aload_n 3, 1) := by decide +kernel
theorem dL_law_1562 : decode cL_law 1562 = .ok (.invokestatic 227, 3) := by decide +kernel
theorem dL_law_1565 : decode cL_law 1565 = .ok (.istore 6, 2) := by decide +kernel
theorem dL_law_1567 : decode cL_law 1567 = .ok (.aload_n 2, 1) := by decide +kernel
theorem dL_law_1568 : decode cL_law 1568 = .ok (.aload_n 0, 1) := by decide +kernel
theorem dL_law_1569 : decode cL_law 1569 = .ok (.iload 5, 2) := by decide +kernel
theorem dL_law_1571 : decode cL_law 1571 = .ok (.iconst 1, 1) := by decide +kernel
theorem dL_law_1572 : decode cL_law 1572 = .ok (.iadd, 1) := by decide +kernel
theorem dL_law_1573 : decode cL_law 1573 = .ok (.iaload, 1) := by decide +kernel
theorem dL_law_1574 : decode cL_law 1574 = .ok (.invokevirtual 229, 3) := by decide +kernel
theorem dL_law_1577 : decode cL_law 1577 = .ok (.istore 7, 2) := by decide +kernel
theorem dL_law_1579 : decode cL_law 1579 = .ok (.aload_n 2, 1) := by decide +kernel
theorem dL_law_1580 : decode cL_law 1580 = .ok (.invokevirtual 142, 3) := by decide +kernel
theorem dL_law_1583 : decode cL_law 1583 = .ok (.iload 6, 2) := by decide +kernel
theorem dL_law_1585 : decode cL_law 1585 = .ok (.if_icmp .eq 5, 3) := by decide +kernel
theorem dL_law_1588 : decode cL_law 1588 = .ok (.iconst 0, 1) := by decide +kernel
theorem dL_law_1589 : decode cL_law 1589 = .ok (.ireturn, 1) := by decide +kernel
theorem dL_law_1590 : decode cL_law 1590 = .ok (.iload 6, 2) := by decide +kernel
theorem dL_law_1592 : decode cL_law 1592 = .ok (.ifCond .ne 15, 3) := by decide +kernel
theorem dL_law_1595 : decode cL_law 1595 = .ok (.aload_n 3, 1) := by decide +kernel
theorem dL_law_1596 : decode cL_law 1596 = .ok (.iconst 0, 1) := by decide +kernel
theorem dL_law_1597 : decode cL_law 1597 = .ok (.laload, 1) := by decide +kernel
theorem dL_law_1598 : decode cL_law 1598 = .ok (.iload 7, 2) := by decide +kernel
theorem dL_law_1600 : decode cL_law 1600 = .ok (.i2l, 1) := by decide +kernel
theorem dL_law_1601 : decode cL_law 1601 = .ok (.lcmp, 1) := by decide +kernel
theorem dL_law_1602 : decode cL_law 1602 = .ok (.ifCond .eq 5, 3) := by decide +kernel
theorem dL_law_1605 : decode cL_law 1605 = .ok (.iconst 0, 1) := by decide +kernel
theorem dL_law_1606 : decode cL_law 1606 = .ok (.ireturn, 1) := by decide +kernel
theorem dL_law_1607 : decode cL_law 1607 = .ok (.goto 738, 3) := by decide +kernel
theorem dL_law_1610 : decode cL_law 1610 = .ok (.aload_n 1, 1) := by decide +kernel
theorem dL_law_1611 : decode cL_law 1611 = .ok (.aload_n 0, 1) := by decide +kernel
theorem dL_law_1612 : decode cL_law 1612 = .ok (.iload 5, 2) := by decide +kernel
theorem dL_law_1614 : decode cL_law 1614 = .ok (.iconst 1, 1) := by decide +kernel
theorem dL_law_1615 : decode cL_law 1615 = .ok (.iadd, 1) := by decide +kernel
theorem dL_law_1616 : decode cL_law 1616 = .ok (.iaload, 1) := by decide +kernel
theorem dL_law_1617 : decode cL_law 1617 = .ok (.aload_n 0, 1) := by decide +kernel
theorem dL_law_1618 : decode cL_law 1618 = .ok (.iload 5, 2) := by decide +kernel
theorem dL_law_1620 : decode cL_law 1620 = .ok (.iconst 2, 1) := by decide +kernel
theorem dL_law_1621 : decode cL_law 1621 = .ok (.iadd, 1) := by decide +kernel
theorem dL_law_1622 : decode cL_law 1622 = .ok (.iaload, 1) := by decide +kernel
theorem dL_law_1623 : decode cL_law 1623 = .ok (.aload_n 3, 1) := by decide +kernel
theorem dL_law_1624 : decode cL_law 1624 = .ok (.invokestatic 230, 3) := by decide +kernel
theorem dL_law_1627 : decode cL_law 1627 = .ok (.istore 6, 2) := by decide +kernel
theorem dL_law_1629 : decode cL_law 1629 = .ok (.aload_n 2, 1) := by decide +kernel
theorem dL_law_1630 : decode cL_law 1630 = .ok (.aload_n 0, 1) := by decide +kernel
theorem dL_law_1631 : decode cL_law 1631 = .ok (.iload 5, 2) := by decide +kernel
theorem dL_law_1633 : decode cL_law 1633 = .ok (.iconst 1, 1) := by decide +kernel
theorem dL_law_1634 : decode cL_law 1634 = .ok (.iadd, 1) := by decide +kernel
theorem dL_law_1635 : decode cL_law 1635 = .ok (.iaload, 1) := by decide +kernel
theorem dL_law_1636 : decode cL_law 1636 = .ok (.aload_n 0, 1) := by decide +kernel
theorem dL_law_1637 : decode cL_law 1637 = .ok (.iload 5, 2) := by decide +kernel
theorem dL_law_1639 : decode cL_law 1639 = .ok (.iconst 2, 1) := by decide +kernel
theorem dL_law_1640 : decode cL_law 1640 = .ok (.iadd, 1) := by decide +kernel
theorem dL_law_1641 : decode cL_law 1641 = .ok (.iaload, 1) := by decide +kernel
theorem dL_law_1642 : decode cL_law 1642 = .ok (.invokevirtual 232, 3) := by decide +kernel
theorem dL_law_1645 : decode cL_law 1645 = .ok (.istore 7, 2) := by decide +kernel
theorem dL_law_1647 : decode cL_law 1647 = .ok (.aload_n 2, 1) := by decide +kernel
theorem dL_law_1648 : decode cL_law 1648 = .ok (.invokevirtual 142, 3) := by decide +kernel
theorem dL_law_1651 : decode cL_law 1651 = .ok (.iload 6, 2) := by decide +kernel
theorem dL_law_1653 : decode cL_law 1653 = .ok (.if_icmp .eq 5, 3) := by decide +kernel
theorem dL_law_1656 : decode cL_law 1656 = .ok (.iconst 0, 1) := by decide +kernel
theorem dL_law_1657 : decode cL_law 1657 = .ok (.ireturn, 1) := by decide +kernel
theorem dL_law_1658 : decode cL_law 1658 = .ok (.iload 6, 2) := by decide +kernel
theorem dL_law_1660 : decode cL_law 1660 = .ok (.ifCond .ne 15, 3) := by decide +kernel
theorem dL_law_1663 : decode cL_law 1663 = .ok (.aload_n 3, 1) := by decide +kernel
theorem dL_law_1664 : decode cL_law 1664 = .ok (.iconst 0, 1) := by decide +kernel
theorem dL_law_1665 : decode cL_law 1665 = .ok (.laload, 1) := by decide +kernel
theorem dL_law_1666 : decode cL_law 1666 = .ok (.iload 7, 2) := by decide +kernel
theorem dL_law_1668 : decode cL_law 1668 = .ok (.i2l, 1) := by decide +kernel
theorem dL_law_1669 : decode cL_law 1669 = .ok (.lcmp, 1) := by decide +kernel
theorem dL_law_1670 : decode cL_law 1670 = .ok (.ifCond .eq 5, 3) := by decide +kernel
theorem dL_law_1673 : decode cL_law 1673 = .ok (.iconst 0, 1) := by decide +kernel
theorem dL_law_1674 : decode cL_law 1674 = .ok (.ireturn, 1) := by decide +kernel
theorem dL_law_1675 : decode cL_law 1675 = .ok (.goto 670, 3) := by decide +kernel
theorem dL_law_1678 : decode cL_law 1678 = .ok (.aload_n 1, 1) := by decide +kernel
theorem dL_law_1679 : decode cL_law 1679 = .ok (.aload_n 0, 1) := by decide +kernel
theorem dL_law_1680 : decode cL_law 1680 = .ok (.iload 5, 2) := by decide +kernel
theorem dL_law_1682 : decode cL_law 1682 = .ok (.iconst 1, 1) := by decide +kernel
theorem dL_law_1683 : decode cL_law 1683 = .ok (.iadd, 1) := by decide +kernel
theorem dL_law_1684 : decode cL_law 1684 = .ok (.iaload, 1) := by decide +kernel
theorem dL_law_1685 : decode cL_law 1685 = .ok (.aload_n 3, 1) := by decide +kernel
theorem dL_law_1686 : decode cL_law 1686 = .ok (.invokestatic 233, 3) := by decide +kernel
theorem dL_law_1689 : decode cL_law 1689 = .ok (.istore 6, 2) := by decide +kernel
theorem dL_law_1691 : decode cL_law 1691 = .ok (.aload_n 2, 1) := by decide +kernel
theorem dL_law_1692 : decode cL_law 1692 = .ok (.aload_n 0, 1) := by decide +kernel
theorem dL_law_1693 : decode cL_law 1693 = .ok (.iload 5, 2) := by decide +kernel
theorem dL_law_1695 : decode cL_law 1695 = .ok (.iconst 1, 1) := by decide +kernel
theorem dL_law_1696 : decode cL_law 1696 = .ok (.iadd, 1) := by decide +kernel
theorem dL_law_1697 : decode cL_law 1697 = .ok (.iaload, 1) := by decide +kernel
theorem dL_law_1698 : decode cL_law 1698 = .ok (.invokevirtual 235, 3) := by decide +kernel
theorem dL_law_1701 : decode cL_law 1701 = .ok (.istore 7, 2) := by decide +kernel
theorem dL_law_1703 : decode cL_law 1703 = .ok (.aload_n 2, 1) := by decide +kernel
theorem dL_law_1704 : decode cL_law 1704 = .ok (.invokevirtual 142, 3) := by decide +kernel
theorem dL_law_1707 : decode cL_law 1707 = .ok (.iload 6, 2) := by decide +kernel
theorem dL_law_1709 : decode cL_law 1709 = .ok (.if_icmp .eq 5, 3) := by decide +kernel
theorem dL_law_1712 : decode cL_law 1712 = .ok (.iconst 0, 1) := by decide +kernel
theorem dL_law_1713 : decode cL_law 1713 = .ok (.ireturn, 1) := by decide +kernel
theorem dL_law_1714 : decode cL_law 1714 = .ok (.iload 6, 2) := by decide +kernel
theorem dL_law_1716 : decode cL_law 1716 = .ok (.ifCond .ne 15, 3) := by decide +kernel
theorem dL_law_1719 : decode cL_law 1719 = .ok (.aload_n 3, 1) := by decide +kernel
theorem dL_law_1720 : decode cL_law 1720 = .ok (.iconst 0, 1) := by decide +kernel
theorem dL_law_1721 : decode cL_law 1721 = .ok (.laload, 1) := by decide +kernel
theorem dL_law_1722 : decode cL_law 1722 = .ok (.iload 7, 2) := by decide +kernel
theorem dL_law_1724 : decode cL_law 1724 = .ok (.i2l, 1) := by decide +kernel
theorem dL_law_1725 : decode cL_law 1725 = .ok (.lcmp, 1) := by decide +kernel
theorem dL_law_1726 : decode cL_law 1726 = .ok (.ifCond .eq 5, 3) := by decide +kernel
theorem dL_law_1729 : decode cL_law 1729 = .ok (.iconst 0, 1) := by decide +kernel
theorem dL_law_1730 : decode cL_law 1730 = .ok (.ireturn, 1) := by decide +kernel
theorem dL_law_1731 : decode cL_law 1731 = .ok (.goto 614, 3) := by decide +kernel
theorem dL_law_1734 : decode cL_law 1734 = .ok (.aload_n 1, 1) := by decide +kernel
theorem dL_law_1735 : decode cL_law 1735 = .ok (.aload_n 0, 1) := by decide +kernel
theorem dL_law_1736 : decode cL_law 1736 = .ok (.iload 5, 2) := by decide +kernel
theorem dL_law_1738 : decode cL_law 1738 = .ok (.iconst 1, 1) := by decide +kernel
theorem dL_law_1739 : decode cL_law 1739 = .ok (.iadd, 1) := by decide +kernel
theorem dL_law_1740 : decode cL_law 1740 = .ok (.iaload, 1) := by decide +kernel
theorem dL_law_1741 : decode cL_law 1741 = .ok (.aload_n 3, 1) := by decide +kernel
theorem dL_law_1742 : decode cL_law 1742 = .ok (.invokestatic 236, 3) := by decide +kernel
theorem dL_law_1745 : decode cL_law 1745 = .ok (.istore 6, 2) := by decide +kernel
theorem dL_law_1747 : decode cL_law 1747 = .ok (.aload_n 2, 1) := by decide +kernel
theorem dL_law_1748 : decode cL_law 1748 = .ok (.aload_n 0, 1) := by decide +kernel
theorem dL_law_1749 : decode cL_law 1749 = .ok (.iload 5, 2) := by decide +kernel
theorem dL_law_1751 : decode cL_law 1751 = .ok (.iconst 1, 1) := by decide +kernel
theorem dL_law_1752 : decode cL_law 1752 = .ok (.iadd, 1) := by decide +kernel
theorem dL_law_1753 : decode cL_law 1753 = .ok (.iaload, 1) := by decide +kernel
theorem dL_law_1754 : decode cL_law 1754 = .ok (.invokevirtual 238, 3) := by decide +kernel
theorem dL_law_1757 : decode cL_law 1757 = .ok (.istore 7, 2) := by decide +kernel
theorem dL_law_1759 : decode cL_law 1759 = .ok (.aload_n 2, 1) := by decide +kernel
theorem dL_law_1760 : decode cL_law 1760 = .ok (.invokevirtual 142, 3) := by decide +kernel
theorem dL_law_1763 : decode cL_law 1763 = .ok (.iload 6, 2) := by decide +kernel
theorem dL_law_1765 : decode cL_law 1765 = .ok (.if_icmp .eq 5, 3) := by decide +kernel
theorem dL_law_1768 : decode cL_law 1768 = .ok (.iconst 0, 1) := by decide +kernel
theorem dL_law_1769 : decode cL_law 1769 = .ok (.ireturn, 1) := by decide +kernel
theorem dL_law_1770 : decode cL_law 1770 = .ok (.iload 6, 2) := by decide +kernel
theorem dL_law_1772 : decode cL_law 1772 = .ok (.ifCond .ne 15, 3) := by decide +kernel
theorem dL_law_1775 : decode cL_law 1775 = .ok (.aload_n 3, 1) := by decide +kernel
theorem dL_law_1776 : decode cL_law 1776 = .ok (.iconst 0, 1) := by decide +kernel
theorem dL_law_1777 : decode cL_law 1777 = .ok (.laload, 1) := by decide +kernel
theorem dL_law_1778 : decode cL_law 1778 = .ok (.iload 7, 2) := by decide +kernel
theorem dL_law_1780 : decode cL_law 1780 = .ok (.i2l, 1) := by decide +kernel
theorem dL_law_1781 : decode cL_law 1781 = .ok (.lcmp, 1) := by decide +kernel
theorem dL_law_1782 : decode cL_law 1782 = .ok (.ifCond .eq 5, 3) := by decide +kernel
theorem dL_law_1785 : decode cL_law 1785 = .ok (.iconst 0, 1) := by decide +kernel
theorem dL_law_1786 : decode cL_law 1786 = .ok (.ireturn, 1) := by decide +kernel
theorem dL_law_1787 : decode cL_law 1787 = .ok (.goto 558, 3) := by decide +kernel
theorem dL_law_1790 : decode cL_law 1790 = .ok (.aload_n 1, 1) := by decide +kernel
theorem dL_law_1791 : decode cL_law 1791 = .ok (.aload_n 0, 1) := by decide +kernel
theorem dL_law_1792 : decode cL_law 1792 = .ok (.iload 5, 2) := by decide +kernel
theorem dL_law_1794 : decode cL_law 1794 = .ok (.iconst 1, 1) := by decide +kernel
theorem dL_law_1795 : decode cL_law 1795 = .ok (.iadd, 1) := by decide +kernel
theorem dL_law_1796 : decode cL_law 1796 = .ok (.iaload, 1) := by decide +kernel
theorem dL_law_1797 : decode cL_law 1797 = .ok (.aload_n 0, 1) := by decide +kernel
theorem dL_law_1798 : decode cL_law 1798 = .ok (.iload 5, 2) := by decide +kernel
theorem dL_law_1800 : decode cL_law 1800 = .ok (.iconst 2, 1) := by decide +kernel
theorem dL_law_1801 : decode cL_law 1801 = .ok (.iadd, 1) := by decide +kernel
theorem dL_law_1802 : decode cL_law 1802 = .ok (.iaload, 1) := by decide +kernel
theorem dL_law_1803 : decode cL_law 1803 = .ok (.aload_n 3, 1) := by decide +kernel
theorem dL_law_1804 : decode cL_law 1804 = .ok (.invokestatic 239, 3) := by decide +kernel
theorem dL_law_1807 : decode cL_law 1807 = .ok (.istore 6, 2) := by decide +kernel
theorem dL_law_1809 : decode cL_law 1809 = .ok (.aload_n 2, 1) := by decide +kernel
theorem dL_law_1810 : decode cL_law 1810 = .ok (.aload_n 0, 1) := by decide +kernel
theorem dL_law_1811 : decode cL_law 1811 = .ok (.iload 5, 2) := by decide +kernel
theorem dL_law_1813 : decode cL_law 1813 = .ok (.iconst 1, 1) := by decide +kernel
theorem dL_law_1814 : decode cL_law 1814 = .ok (.iadd, 1) := by decide +kernel
theorem dL_law_1815 : decode cL_law 1815 = .ok (.iaload, 1) := by decide +kernel
theorem dL_law_1816 : decode cL_law 1816 = .ok (.aload_n 0, 1) := by decide +kernel
theorem dL_law_1817 : decode cL_law 1817 = .ok (.iload 5, 2) := by decide +kernel
theorem dL_law_1819 : decode cL_law 1819 = .ok (.iconst 2, 1) := by decide +kernel
theorem dL_law_1820 : decode cL_law 1820 = .ok (.iadd, 1) := by decide +kernel
theorem dL_law_1821 : decode cL_law 1821 = .ok (.iaload, 1) := by decide +kernel
theorem dL_law_1822 : decode cL_law 1822 = .ok (.invokevirtual 241, 3) := by decide +kernel
theorem dL_law_1825 : decode cL_law 1825 = .ok (.istore 7, 2) := by decide +kernel
theorem dL_law_1827 : decode cL_law 1827 = .ok (.aload_n 2, 1) := by decide +kernel
theorem dL_law_1828 : decode cL_law 1828 = .ok (.invokevirtual 142, 3) := by decide +kernel
theorem dL_law_1831 : decode cL_law 1831 = .ok (.iload 6, 2) := by decide +kernel
theorem dL_law_1833 : decode cL_law 1833 = .ok (.if_icmp .eq 5, 3) := by decide +kernel
theorem dL_law_1836 : decode cL_law 1836 = .ok (.iconst 0, 1) := by decide +kernel
theorem dL_law_1837 : decode cL_law 1837 = .ok (.ireturn, 1) := by decide +kernel
theorem dL_law_1838 : decode cL_law 1838 = .ok (.iload 6, 2) := by decide +kernel
theorem dL_law_1840 : decode cL_law 1840 = .ok (.ifCond .ne 15, 3) := by decide +kernel
theorem dL_law_1843 : decode cL_law 1843 = .ok (.aload_n 3, 1) := by decide +kernel
theorem dL_law_1844 : decode cL_law 1844 = .ok (.iconst 0, 1) := by decide +kernel
theorem dL_law_1845 : decode cL_law 1845 = .ok (.laload, 1) := by decide +kernel
theorem dL_law_1846 : decode cL_law 1846 = .ok (.iload 7, 2) := by decide +kernel
theorem dL_law_1848 : decode cL_law 1848 = .ok (.i2l, 1) := by decide +kernel
theorem dL_law_1849 : decode cL_law 1849 = .ok (.lcmp, 1) := by decide +kernel
theorem dL_law_1850 : decode cL_law 1850 = .ok (.ifCond .eq 5, 3) := by decide +kernel
theorem dL_law_1853 : decode cL_law 1853 = .ok (.iconst 0, 1) := by decide +kernel
theorem dL_law_1854 : decode cL_law 1854 = .ok (.ireturn, 1) := by decide +kernel
theorem dL_law_1855 : decode cL_law 1855 = .ok (.goto 490, 3) := by decide +kernel
theorem dL_law_1858 : decode cL_law 1858 = .ok (.aload_n 1, 1) := by decide +kernel
theorem dL_law_1859 : decode cL_law 1859 = .ok (.invokevirtual 242, 3) := by decide +kernel
theorem dL_law_1862 : decode cL_law 1862 = .ok (.aload_n 2, 1) := by decide +kernel
theorem dL_law_1863 : decode cL_law 1863 = .ok (.invokevirtual 245, 3) := by decide +kernel
theorem dL_law_1866 : decode cL_law 1866 = .ok (.if_icmp .eq 479, 3) := by decide +kernel
theorem dL_law_1869 : decode cL_law 1869 = .ok (.iconst 0, 1) := by decide +kernel
theorem dL_law_1870 : decode cL_law 1870 = .ok (.ireturn, 1) := by decide +kernel
theorem dL_law_1871 : decode cL_law 1871 = .ok (.aload_n 1, 1) := by decide +kernel
theorem dL_law_1872 : decode cL_law 1872 = .ok (.invokevirtual 246, 3) := by decide +kernel
theorem dL_law_1875 : decode cL_law 1875 = .ok (.aload_n 2, 1) := by decide +kernel
theorem dL_law_1876 : decode cL_law 1876 = .ok (.invokevirtual 249, 3) := by decide +kernel
theorem dL_law_1879 : decode cL_law 1879 = .ok (.if_icmp .eq 466, 3) := by decide +kernel
theorem dL_law_1882 : decode cL_law 1882 = .ok (.iconst 0, 1) := by decide +kernel
theorem dL_law_1883 : decode cL_law 1883 = .ok (.ireturn, 1) := by decide +kernel
theorem dL_law_1884 : decode cL_law 1884 = .ok (.aload_n 1, 1) := by decide +kernel
theorem dL_law_1885 : decode cL_law 1885 = .ok (.aload_n 0, 1) := by decide +kernel
theorem dL_law_1886 : decode cL_law 1886 = .ok (.iload 5, 2) := by decide +kernel
theorem dL_law_1888 : decode cL_law 1888 = .ok (.iconst 1, 1) := by decide +kernel
theorem dL_law_1889 : decode cL_law 1889 = .ok (.iadd, 1) := by decide +kernel
theorem dL_law_1890 : decode cL_law 1890 = .ok (.iaload, 1) := by decide +kernel
theorem dL_law_1891 : decode cL_law 1891 = .ok (.aload_n 3, 1) := by decide +kernel
theorem dL_law_1892 : decode cL_law 1892 = .ok (.invokestatic 250, 3) := by decide +kernel
theorem dL_law_1895 : decode cL_law 1895 = .ok (.istore 6, 2) := by decide +kernel
theorem dL_law_1897 : decode cL_law 1897 = .ok (.aload_n 2, 1) := by decide +kernel
theorem dL_law_1898 : decode cL_law 1898 = .ok (.aload_n 0, 1) := by decide +kernel
theorem dL_law_1899 : decode cL_law 1899 = .ok (.iload 5, 2) := by decide +kernel
theorem dL_law_1901 : decode cL_law 1901 = .ok (.iconst 1, 1) := by decide +kernel
theorem dL_law_1902 : decode cL_law 1902 = .ok (.iadd, 1) := by decide +kernel
theorem dL_law_1903 : decode cL_law 1903 = .ok (.iaload, 1) := by decide +kernel
theorem dL_law_1904 : decode cL_law 1904 = .ok (.invokevirtual 252, 3) := by decide +kernel
theorem dL_law_1907 : decode cL_law 1907 = .ok (.istore 7, 2) := by decide +kernel
theorem dL_law_1909 : decode cL_law 1909 = .ok (.aload_n 2, 1) := by decide +kernel
theorem dL_law_1910 : decode cL_law 1910 = .ok (.invokevirtual 142, 3) := by decide +kernel
theorem dL_law_1913 : decode cL_law 1913 = .ok (.iload 6, 2) := by decide +kernel
theorem dL_law_1915 : decode cL_law 1915 = .ok (.if_icmp .eq 5, 3) := by decide +kernel
theorem dL_law_1918 : decode cL_law 1918 = .ok (.iconst 0, 1) := by decide +kernel
theorem dL_law_1919 : decode cL_law 1919 = .ok (.ireturn, 1) := by decide +kernel
theorem dL_law_1920 : decode cL_law 1920 = .ok (.iload 6, 2) := by decide +kernel
theorem dL_law_1922 : decode cL_law 1922 = .ok (.ifCond .ne 15, 3) := by decide +kernel
theorem dL_law_1925 : decode cL_law 1925 = .ok (.aload_n 3, 1) := by decide +kernel
theorem dL_law_1926 : decode cL_law 1926 = .ok (.iconst 0, 1) := by decide +kernel
theorem dL_law_1927 : decode cL_law 1927 = .ok (.laload, 1) := by decide +kernel
theorem dL_law_1928 : decode cL_law 1928 = .ok (.iload 7, 2) := by decide +kernel
theorem dL_law_1930 : decode cL_law 1930 = .ok (.i2l, 1) := by decide +kernel
theorem dL_law_1931 : decode cL_law 1931 = .ok (.lcmp, 1) := by decide +kernel
theorem dL_law_1932 : decode cL_law 1932 = .ok (.ifCond .eq 5, 3) := by decide +kernel
theorem dL_law_1935 : decode cL_law 1935 = .ok (.iconst 0, 1) := by decide +kernel
theorem dL_law_1936 : decode cL_law 1936 = .ok (.ireturn, 1) := by decide +kernel
theorem dL_law_1937 : decode cL_law 1937 = .ok (.goto 408, 3) := by decide +kernel
theorem dL_law_1940 : decode cL_law 1940 = .ok (.aload_n 1, 1) := by decide +kernel
theorem dL_law_1941 : decode cL_law 1941 = .ok (.aload_n 0, 1) := by decide +kernel
theorem dL_law_1942 : decode cL_law 1942 = .ok (.iload 5, 2) := by decide +kernel
theorem dL_law_1944 : decode cL_law 1944 = .ok (.iconst 1, 1) := by decide +kernel
theorem dL_law_1945 : decode cL_law 1945 = .ok (.iadd, 1) := by decide +kernel
theorem dL_law_1946 : decode cL_law 1946 = .ok (.iaload, 1) := by decide +kernel
theorem dL_law_1947 : decode cL_law 1947 = .ok (.aload_n 0, 1) := by decide +kernel
theorem dL_law_1948 : decode cL_law 1948 = .ok (.iload 5, 2) := by decide +kernel
theorem dL_law_1950 : decode cL_law 1950 = .ok (.iconst 2, 1) := by decide +kernel
theorem dL_law_1951 : decode cL_law 1951 = .ok (.iadd, 1) := by decide +kernel
theorem dL_law_1952 : decode cL_law 1952 = .ok (.iaload, 1) := by decide +kernel
theorem dL_law_1953 : decode cL_law 1953 = .ok (.aload_n 0, 1) := by decide +kernel
theorem dL_law_1954 : decode cL_law 1954 = .ok (.iload 5, 2) := by decide +kernel
theorem dL_law_1956 : decode cL_law 1956 = .ok (.iconst 3, 1) := by decide +kernel
theorem dL_law_1957 : decode cL_law 1957 = .ok (.iadd, 1) := by decide +kernel
theorem dL_law_1958 : decode cL_law 1958 = .ok (.iaload, 1) := by decide +kernel
theorem dL_law_1959 : decode cL_law 1959 = .ok (.aload_n 0, 1) := by decide +kernel
theorem dL_law_1960 : decode cL_law 1960 = .ok (.iload 5, 2) := by decide +kernel
theorem dL_law_1962 : decode cL_law 1962 = .ok (.iconst 4, 1) := by decide +kernel
theorem dL_law_1963 : decode cL_law 1963 = .ok (.iadd, 1) := by decide +kernel
theorem dL_law_1964 : decode cL_law 1964 = .ok (.iaload, 1) := by decide +kernel
theorem dL_law_1965 : decode cL_law 1965 = .ok (.aload_n 3, 1) := by decide +kernel
theorem dL_law_1966 : decode cL_law 1966 = .ok (.invokestatic 253, 3) := by decide +kernel
theorem dL_law_1969 : decode cL_law 1969 = .ok (.istore 6, 2) := by decide +kernel
theorem dL_law_1971 : decode cL_law 1971 = .ok (.aload_n 2, 1) := by decide +kernel
theorem dL_law_1972 : decode cL_law 1972 = .ok (.aload_n 0, 1) := by decide +kernel
theorem dL_law_1973 : decode cL_law 1973 = .ok (.iload 5, 2) := by decide +kernel
theorem dL_law_1975 : decode cL_law 1975 = .ok (.iconst 1, 1) := by decide +kernel
theorem dL_law_1976 : decode cL_law 1976 = .ok (.iadd, 1) := by decide +kernel
theorem dL_law_1977 : decode cL_law 1977 = .ok (.iaload, 1) := by decide +kernel
theorem dL_law_1978 : decode cL_law 1978 = .ok (.aload_n 0, 1) := by decide +kernel
theorem dL_law_1979 : decode cL_law 1979 = .ok (.iload 5, 2) := by decide +kernel
theorem dL_law_1981 : decode cL_law 1981 = .ok (.iconst 2, 1) := by decide +kernel
theorem dL_law_1982 : decode cL_law 1982 = .ok (.iadd, 1) := by decide +kernel
theorem dL_law_1983 : decode cL_law 1983 = .ok (.iaload, 1) := by decide +kernel
theorem dL_law_1984 : decode cL_law 1984 = .ok (.aload_n 0, 1) := by decide +kernel
theorem dL_law_1985 : decode cL_law 1985 = .ok (.iload 5, 2) := by decide +kernel
theorem dL_law_1987 : decode cL_law 1987 = .ok (.iconst 3, 1) := by decide +kernel
theorem dL_law_1988 : decode cL_law 1988 = .ok (.iadd, 1) := by decide +kernel
theorem dL_law_1989 : decode cL_law 1989 = .ok (.iaload, 1) := by decide +kernel
theorem dL_law_1990 : decode cL_law 1990 = .ok (.aload_n 0, 1) := by decide +kernel
theorem dL_law_1991 : decode cL_law 1991 = .ok (.iload 5, 2) := by decide +kernel
theorem dL_law_1993 : decode cL_law 1993 = .ok (.iconst 4, 1) := by decide +kernel
theorem dL_law_1994 : decode cL_law 1994 = .ok (.iadd, 1) := by decide +kernel
theorem dL_law_1995 : decode cL_law 1995 = .ok (.iaload, 1) := by decide +kernel
theorem dL_law_1996 : decode cL_law 1996 = .ok (.invokevirtual 255, 3) := by decide +kernel
theorem dL_law_1999 : decode cL_law 1999 = .ok (.istore 7, 2) := by decide +kernel
theorem dL_law_2001 : decode cL_law 2001 = .ok (.aload_n 2, 1) := by decide +kernel
theorem dL_law_2002 : decode cL_law 2002 = .ok (.invokevirtual 142, 3) := by decide +kernel
theorem dL_law_2005 : decode cL_law 2005 = .ok (.iload 6, 2) := by decide +kernel
theorem dL_law_2007 : decode cL_law 2007 = .ok (.if_icmp .eq 5, 3) := by decide +kernel
theorem dL_law_2010 : decode cL_law 2010 = .ok (.iconst 0, 1) := by decide +kernel
theorem dL_law_2011 : decode cL_law 2011 = .ok (.ireturn, 1) := by decide +kernel
theorem dL_law_2012 : decode cL_law 2012 = .ok (.iload 6, 2) := by decide +kernel
theorem dL_law_2014 : decode cL_law 2014 = .ok (.ifCond .ne 15, 3) := by decide +kernel
theorem dL_law_2017 : decode cL_law 2017 = .ok (.aload_n 3, 1) := by decide +kernel
theorem dL_law_2018 : decode cL_law 2018 = .ok (.iconst 0, 1) := by decide +kernel
theorem dL_law_2019 : decode cL_law 2019 = .ok (.laload, 1) := by decide +kernel
theorem dL_law_2020 : decode cL_law 2020 = .ok (.iload 7, 2) := by decide +kernel
theorem dL_law_2022 : decode cL_law 2022 = .ok (.i2l, 1) := by decide +kernel
theorem dL_law_2023 : decode cL_law 2023 = .ok (.lcmp, 1) := by decide +kernel
theorem dL_law_2024 : decode cL_law 2024 = .ok (.ifCond .eq 5, 3) := by decide +kernel
theorem dL_law_2027 : decode cL_law 2027 = .ok (.iconst 0, 1) := by decide +kernel
theorem dL_law_2028 : decode cL_law 2028 = .ok (.ireturn, 1) := by decide +kernel
theorem dL_law_2029 : decode cL_law 2029 = .ok (.goto 316, 3) := by decide +kernel
theorem dL_law_2032 : decode cL_law 2032 = .ok (.aload_n 1, 1) := by decide +kernel
theorem dL_law_2033 : decode cL_law 2033 = .ok (.invokevirtual 256, 3) := by decide +kernel
theorem dL_law_2036 : decode cL_law 2036 = .ok (.aload_n 2, 1) := by decide +kernel
theorem dL_law_2037 : decode cL_law 2037 = .ok (.invokevirtual 259, 3) := by decide +kernel
theorem dL_law_2040 : decode cL_law 2040 = .ok (.if_icmp .eq 305, 3) := by decide +kernel
theorem dL_law_2043 : decode cL_law 2043 = .ok (.iconst 0, 1) := by decide +kernel
theorem dL_law_2044 : decode cL_law 2044 = .ok (.ireturn, 1) := by decide +kernel
theorem dL_law_2045 : decode cL_law 2045 = .ok (.aload_n 1, 1) := by decide +kernel
theorem dL_law_2046 : decode cL_law 2046 = .ok (.aload_n 0, 1) := by decide +kernel
theorem dL_law_2047 : decode cL_law 2047 = .ok (.iload 5, 2) := by decide +kernel
theorem dL_law_2049 : decode cL_law 2049 = .ok (.iconst 1, 1) := by decide +kernel
theorem dL_law_2050 : decode cL_law 2050 = .ok (.iadd, 1) := by decide +kernel
theorem dL_law_2051 : decode cL_law 2051 = .ok (.iaload, 1) := by decide +kernel
theorem dL_law_2052 : decode cL_law 2052 = .ok (.aload_n 3, 1) := by decide +kernel
theorem dL_law_2053 : decode cL_law 2053 = .ok (.invokestatic 260, 3) := by decide +kernel
theorem dL_law_2056 : decode cL_law 2056 = .ok (.istore 6, 2) := by decide +kernel
theorem dL_law_2058 : decode cL_law 2058 = .ok (.aload_n 2, 1) := by decide +kernel
theorem dL_law_2059 : decode cL_law 2059 = .ok (.aload_n 0, 1) := by decide +kernel
theorem dL_law_2060 : decode cL_law 2060 = .ok (.iload 5, 2) := by decide +kernel
theorem dL_law_2062 : decode cL_law 2062 = .ok (.iconst 1, 1) := by decide +kernel
theorem dL_law_2063 : decode cL_law 2063 = .ok (.iadd, 1) := by decide +kernel
theorem dL_law_2064 : decode cL_law 2064 = .ok (.iaload, 1) := by decide +kernel
theorem dL_law_2065 : decode cL_law 2065 = .ok (.invokevirtual 262, 3) := by decide +kernel
theorem dL_law_2068 : decode cL_law 2068 = .ok (.istore 7, 2) := by decide +kernel
theorem dL_law_2070 : decode cL_law 2070 = .ok (.aload_n 2, 1) := by decide +kernel
theorem dL_law_2071 : decode cL_law 2071 = .ok (.invokevirtual 142, 3) := by decide +kernel
theorem dL_law_2074 : decode cL_law 2074 = .ok (.iload 6, 2) := by decide +kernel
theorem dL_law_2076 : decode cL_law 2076 = .ok (.if_icmp .eq 5, 3) := by decide +kernel
theorem dL_law_2079 : decode cL_law 2079 = .ok (.iconst 0, 1) := by decide +kernel
theorem dL_law_2080 : decode cL_law 2080 = .ok (.ireturn, 1) := by decide +kernel
theorem dL_law_2081 : decode cL_law 2081 = .ok (.iload 6, 2) := by decide +kernel
theorem dL_law_2083 : decode cL_law 2083 = .ok (.ifCond .ne 15, 3) := by decide +kernel
theorem dL_law_2086 : decode cL_law 2086 = .ok (.aload_n 3, 1) := by decide +kernel
theorem dL_law_2087 : decode cL_law 2087 = .ok (.iconst 0, 1) := by decide +kernel
theorem dL_law_2088 : decode cL_law 2088 = .ok (.laload, 1) := by decide +kernel
theorem dL_law_2089 : decode cL_law 2089 = .ok (.iload 7, 2) := by decide +kernel
theorem dL_law_2091 : decode cL_law 2091 = .ok (.i2l, 1) := by decide +kernel
theorem dL_law_2092 : decode cL_law 2092 = .ok (.lcmp, 1) := by decide +kernel
theorem dL_law_2093 : decode cL_law 2093 = .ok (.ifCond .eq 5, 3) := by decide +kernel
theorem dL_law_2096 : decode cL_law 2096 = .ok (.iconst 0, 1) := by decide +kernel
theorem dL_law_2097 : decode cL_law 2097 = .ok (.ireturn, 1) := by decide +kernel
theorem dL_law_2098 : decode cL_law 2098 = .ok (.goto 247, 3) := by decide +kernel
theorem dL_law_2101 : decode cL_law 2101 = .ok (.aload_n 1, 1) := by decide +kernel
theorem dL_law_2102 : decode cL_law 2102 = .ok (.aload 4, 2) := by decide +kernel
theorem dL_law_2104 : decode cL_law 2104 = .ok (.invokestatic 263, 3) := by decide +kernel
theorem dL_law_2107 : decode cL_law 2107 = .ok (.istore 6, 2) := by decide +kernel
theorem dL_law_2109 : decode cL_law 2109 = .ok (.aload_n 2, 1) := by decide +kernel
theorem dL_law_2110 : decode cL_law 2110 = .ok (.invokevirtual 266, 3) := by decide +kernel
theorem dL_law_2113 : decode cL_law 2113 = .ok (.dstore 7, 2) := by decide +kernel
theorem dL_law_2115 : decode cL_law 2115 = .ok (.aload_n 2, 1) := by decide +kernel
theorem dL_law_2116 : decode cL_law 2116 = .ok (.invokevirtual 142, 3) := by decide +kernel
theorem dL_law_2119 : decode cL_law 2119 = .ok (.iload 6, 2) := by decide +kernel
theorem dL_law_2121 : decode cL_law 2121 = .ok (.if_icmp .eq 5, 3) := by decide +kernel
theorem dL_law_2124 : decode cL_law 2124 = .ok (.iconst 0, 1) := by decide +kernel
theorem dL_law_2125 : decode cL_law 2125 = .ok (.ireturn, 1) := by decide +kernel
theorem dL_law_2126 : decode cL_law 2126 = .ok (.iload 6, 2) := by decide +kernel
theorem dL_law_2128 : decode cL_law 2128 = .ok (.ifCond .ne 35, 3) := by decide +kernel
theorem dL_law_2131 : decode cL_law 2131 = .ok (.aload 4, 2) := by decide +kernel
theorem dL_law_2133 : decode cL_law 2133 = .ok (.iconst 0, 1) := by decide +kernel
theorem dL_law_2134 : decode cL_law 2134 = .ok (.daload, 1) := by decide +kernel
theorem dL_law_2135 : decode cL_law 2135 = .ok (.dload 7, 2) := by decide +kernel
theorem dL_law_2137 : decode cL_law 2137 = .ok (.dcmp .l, 1) := by decide +kernel
theorem dL_law_2138 : decode cL_law 2138 = .ok (.ifCond .eq 25, 3) := by decide +kernel
theorem dL_law_2141 : decode cL_law 2141 = .ok (.aload 4, 2) := by decide +kernel
theorem dL_law_2143 : decode cL_law 2143 = .ok (.iconst 0, 1) := by decide +kernel
theorem dL_law_2144 : decode cL_law 2144 = .ok (.daload, 1) := by decide +kernel
theorem dL_law_2145 : decode cL_law 2145 = .ok (.aload 4, 2) := by decide +kernel
theorem dL_law_2147 : decode cL_law 2147 = .ok (.iconst 0, 1) := by decide +kernel
theorem dL_law_2148 : decode cL_law 2148 = .ok (.daload, 1) := by decide +kernel
theorem dL_law_2149 : decode cL_law 2149 = .ok (.dcmp .l, 1) := by decide +kernel
theorem dL_law_2150 : decode cL_law 2150 = .ok (.ifCond .eq 11, 3) := by decide +kernel
theorem dL_law_2153 : decode cL_law 2153 = .ok (.dload 7, 2) := by decide +kernel
theorem dL_law_2155 : decode cL_law 2155 = .ok (.dload 7, 2) := by decide +kernel
theorem dL_law_2157 : decode cL_law 2157 = .ok (.dcmp .l, 1) := by decide +kernel
theorem dL_law_2158 : decode cL_law 2158 = .ok (.ifCond .ne 5, 3) := by decide +kernel
theorem dL_law_2161 : decode cL_law 2161 = .ok (.iconst 0, 1) := by decide +kernel
theorem dL_law_2162 : decode cL_law 2162 = .ok (.ireturn, 1) := by decide +kernel
theorem dL_law_2163 : decode cL_law 2163 = .ok (.goto 182, 3) := by decide +kernel
theorem dL_law_2166 : decode cL_law 2166 = .ok (.aload_n 1, 1) := by decide +kernel
theorem dL_law_2167 : decode cL_law 2167 = .ok (.aload 4, 2) := by decide +kernel
theorem dL_law_2169 : decode cL_law 2169 = .ok (.invokestatic 267, 3) := by decide +kernel
theorem dL_law_2172 : decode cL_law 2172 = .ok (.istore 6, 2) := by decide +kernel
theorem dL_law_2174 : decode cL_law 2174 = .ok (.aload_n 2, 1) := by decide +kernel
theorem dL_law_2175 : decode cL_law 2175 = .ok (.invokevirtual 269, 3) := by decide +kernel
theorem dL_law_2178 : decode cL_law 2178 = .ok (.fstore 7, 2) := by decide +kernel
theorem dL_law_2180 : decode cL_law 2180 = .ok (.aload_n 2, 1) := by decide +kernel
theorem dL_law_2181 : decode cL_law 2181 = .ok (.invokevirtual 142, 3) := by decide +kernel
theorem dL_law_2184 : decode cL_law 2184 = .ok (.iload 6, 2) := by decide +kernel
theorem dL_law_2186 : decode cL_law 2186 = .ok (.if_icmp .eq 5, 3) := by decide +kernel
theorem dL_law_2189 : decode cL_law 2189 = .ok (.iconst 0, 1) := by decide +kernel
theorem dL_law_2190 : decode cL_law 2190 = .ok (.ireturn, 1) := by decide +kernel
theorem dL_law_2191 : decode cL_law 2191 = .ok (.iload 6, 2) := by decide +kernel
theorem dL_law_2193 : decode cL_law 2193 = .ok (.ifCond .ne 36, 3) := by decide +kernel
theorem dL_law_2196 : decode cL_law 2196 = .ok (.aload 4, 2) := by decide +kernel
theorem dL_law_2198 : decode cL_law 2198 = .ok (.iconst 0, 1) := by decide +kernel
theorem dL_law_2199 : decode cL_law 2199 = .ok (.daload, 1) := by decide +kernel
theorem dL_law_2200 : decode cL_law 2200 = .ok (.fload 7, 2) := by decide +kernel
theorem dL_law_2202 : decode cL_law 2202 = .ok (.f2d, 1) := by decide +kernel
theorem dL_law_2203 : decode cL_law 2203 = .ok (.dcmp .l, 1) := by decide +kernel
theorem dL_law_2204 : decode cL_law 2204 = .ok (.ifCond .eq 25, 3) := by decide +kernel
theorem dL_law_2207 : decode cL_law 2207 = .ok (.aload 4, 2) := by decide +kernel
theorem dL_law_2209 : decode cL_law 2209 = .ok (.iconst 0, 1) := by decide +kernel
theorem dL_law_2210 : decode cL_law 2210 = .ok (.daload, 1) := by decide +kernel
theorem dL_law_2211 : decode cL_law 2211 = .ok (.aload 4, 2) := by decide +kernel
theorem dL_law_2213 : decode cL_law 2213 = .ok (.iconst 0, 1) := by decide +kernel
theorem dL_law_2214 : decode cL_law 2214 = .ok (.daload, 1) := by decide +kernel
theorem dL_law_2215 : decode cL_law 2215 = .ok (.dcmp .l, 1) := by decide +kernel
theorem dL_law_2216 : decode cL_law 2216 = .ok (.ifCond .eq 11, 3) := by decide +kernel
theorem dL_law_2219 : decode cL_law 2219 = .ok (.fload 7, 2) := by decide +kernel
theorem dL_law_2221 : decode cL_law 2221 = .ok (.fload 7, 2) := by decide +kernel
theorem dL_law_2223 : decode cL_law 2223 = .ok (.fcmp .l, 1) := by decide +kernel
theorem dL_law_2224 : decode cL_law 2224 = .ok (.ifCond .ne 5, 3) := by decide +kernel
theorem dL_law_2227 : decode cL_law 2227 = .ok (.iconst 0, 1) := by decide +kernel
theorem dL_law_2228 : decode cL_law 2228 = .ok (.ireturn, 1) := by decide +kernel
theorem dL_law_2229 : decode cL_law 2229 = .ok (.goto 116, 3) := by decide +kernel
theorem dL_law_2232 : decode cL_law 2232 = .ok (.aload_n 1, 1) := by decide +kernel
theorem dL_law_2233 : decode cL_law 2233 = .ok (.aload_n 0, 1) := by decide +kernel
theorem dL_law_2234 : decode cL_law 2234 = .ok (.iload 5, 2) := by decide +kernel
theorem dL_law_2236 : decode cL_law 2236 = .ok (.iconst 1, 1) := by decide +kernel
theorem dL_law_2237 : decode cL_law 2237 = .ok (.iadd, 1) := by decide +kernel
theorem dL_law_2238 : decode cL_law 2238 = .ok (.iaload, 1) := by decide +kernel
theorem dL_law_2239 : decode cL_law 2239 = .ok (.aload_n 3, 1) := by decide +kernel
theorem dL_law_2240 : decode cL_law 2240 = .ok (.invokestatic 270, 3) := by decide +kernel
theorem dL_law_2243 : decode cL_law 2243 = .ok (.istore 6, 2) := by decide +kernel
theorem dL_law_2245 : decode cL_law 2245 = .ok (.aload_n 2, 1) := by decide +kernel
theorem dL_law_2246 : decode cL_law 2246 = .ok (.aload_n 0, 1) := by decide +kernel
theorem dL_law_2247 : decode cL_law 2247 = .ok (.iload 5, 2) := by decide +kernel
theorem dL_law_2249 : decode cL_law 2249 = .ok (.iconst 1, 1) := by decide +kernel
theorem dL_law_2250 : decode cL_law 2250 = .ok (.iadd, 1) := by decide +kernel
theorem dL_law_2251 : decode cL_law 2251 = .ok (.iaload, 1) := by decide +kernel
theorem dL_law_2252 : decode cL_law 2252 = .ok (.invokevirtual 272, 3) := by decide +kernel
theorem dL_law_2255 : decode cL_law 2255 = .ok (.istore 7, 2) := by decide +kernel
theorem dL_law_2257 : decode cL_law 2257 = .ok (.aload_n 2, 1) := by decide +kernel
theorem dL_law_2258 : decode cL_law 2258 = .ok (.invokevirtual 142, 3) := by decide +kernel
theorem dL_law_2261 : decode cL_law 2261 = .ok (.iload 6, 2) := by decide +kernel
theorem dL_law_2263 : decode cL_law 2263 = .ok (.if_icmp .eq 5, 3) := by decide +kernel
theorem dL_law_2266 : decode cL_law 2266 = .ok (.iconst 0, 1) := by decide +kernel
theorem dL_law_2267 : decode cL_law 2267 = .ok (.ireturn, 1) := by decide +kernel
theorem dL_law_2268 : decode cL_law 2268 = .ok (.iload 6, 2) := by decide +kernel
theorem dL_law_2270 : decode cL_law 2270 = .ok (.ifCond .ne 15, 3) := by decide +kernel
theorem dL_law_2273 : decode cL_law 2273 = .ok (.aload_n 3, 1) := by decide +kernel
theorem dL_law_2274 : decode cL_law 2274 = .ok (.iconst 0, 1) := by decide +kernel
theorem dL_law_2275 : decode cL_law 2275 = .ok (.laload, 1) := by decide +kernel
theorem dL_law_2276 : decode cL_law 2276 = .ok (.iload 7, 2) := by decide +kernel
theorem dL_law_2278 : decode cL_law 2278 = .ok (.i2l, 1) := by decide +kernel
theorem dL_law_2279 : decode cL_law 2279 = .ok (.lcmp, 1) := by decide +kernel
theorem dL_law_2280 : decode cL_law 2280 = .ok (.ifCond .eq 5, 3) := by decide +kernel
theorem dL_law_2283 : decode cL_law 2283 = .ok (.iconst 0, 1) := by decide +kernel
theorem dL_law_2284 : decode cL_law 2284 = .ok (.ireturn, 1) := by decide +kernel
theorem dL_law_2285 : decode cL_law 2285 = .ok (.goto 60, 3) := by decide +kernel
theorem dL_law_2288 : decode cL_law 2288 = .ok (.aload_n 1, 1) := by decide +kernel
theorem dL_law_2289 : decode cL_law 2289 = .ok (.aload_n 3, 1) := by decide +kernel
theorem dL_law_2290 : decode cL_law 2290 = .ok (.invokestatic 273, 3) := by decide +kernel
theorem dL_law_2293 : decode cL_law 2293 = .ok (.istore 6, 2) := by decide +kernel
theorem dL_law_2295 : decode cL_law 2295 = .ok (.aload_n 2, 1) := by decide +kernel
theorem dL_law_2296 : decode cL_law 2296 = .ok (.invokevirtual 275, 3) := by decide +kernel
theorem dL_law_2299 : decode cL_law 2299 = .ok (.istore 7, 2) := by decide +kernel
theorem dL_law_2301 : decode cL_law 2301 = .ok (.aload_n 2, 1) := by decide +kernel
theorem dL_law_2302 : decode cL_law 2302 = .ok (.invokevirtual 142, 3) := by decide +kernel
theorem dL_law_2305 : decode cL_law 2305 = .ok (.iload 6, 2) := by decide +kernel
theorem dL_law_2307 : decode cL_law 2307 = .ok (.if_icmp .eq 5, 3) := by decide +kernel
theorem dL_law_2310 : decode cL_law 2310 = .ok (.iconst 0, 1) := by decide +kernel
theorem dL_law_2311 : decode cL_law 2311 = .ok (.ireturn, 1) := by decide +kernel
theorem dL_law_2312 : decode cL_law 2312 = .ok (.iload 6, 2) := by decide +kernel
theorem dL_law_2314 : decode cL_law 2314 = .ok (.ifCond .ne 15, 3) := by decide +kernel
theorem dL_law_2317 : decode cL_law 2317 = .ok (.aload_n 3, 1) := by decide +kernel
theorem dL_law_2318 : decode cL_law 2318 = .ok (.iconst 0, 1) := by decide +kernel
theorem dL_law_2319 : decode cL_law 2319 = .ok (.laload, 1) := by decide +kernel
theorem dL_law_2320 : decode cL_law 2320 = .ok (.iload 7, 2) := by decide +kernel
theorem dL_law_2322 : decode cL_law 2322 = .ok (.i2l, 1) := by decide +kernel
theorem dL_law_2323 : decode cL_law 2323 = .ok (.lcmp, 1) := by decide +kernel
theorem dL_law_2324 : decode cL_law 2324 = .ok (.ifCond .eq 5, 3) := by decide +kernel
theorem dL_law_2327 : decode cL_law 2327 = .ok (.iconst 0, 1) := by decide +kernel
theorem dL_law_2328 : decode cL_law 2328 = .ok (.ireturn, 1) := by decide +kernel
theorem dL_law_2329 : decode cL_law 2329 = .ok (.goto 16, 3) := by decide +kernel
theorem dL_law_2332 : decode cL_law 2332 = .ok (.aload_n 1, 1) := by decide +kernel
theorem dL_law_2333 : decode cL_law 2333 = .ok (.invokevirtual 276, 3) := by decide +kernel
theorem dL_law_2336 : decode cL_law 2336 = .ok (.aload_n 2, 1) := by decide +kernel
theorem dL_law_2337 : decode cL_law 2337 = .ok (.invokevirtual 279, 3) := by decide +kernel
theorem dL_law_2340 : decode cL_law 2340 = .ok (.if_icmp .eq 5, 3) := by decide +kernel
theorem dL_law_2343 : decode cL_law 2343 = .ok (.iconst 0, 1) := by decide +kernel
theorem dL_law_2344 : decode cL_law 2344 = .ok (.ireturn, 1) := by decide +kernel
theorem dL_law_2345 : decode cL_law 2345 = .ok (.iinc 5 5, 3) := by decide +kernel
theorem dL_law_2348 : decode cL_law 2348 = .ok (.goto (-2320), 3) := by decide +kernel
theorem dL_law_2351 : decode cL_law 2351 = .ok (.iconst 1, 1) := by decide +kernel
theorem dL_law_2352 : decode cL_law 2352 = .ok (.ireturn, 1) := by decide +kernel
end
